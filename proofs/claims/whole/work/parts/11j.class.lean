def fX5_wordOf (l0 : Int32) (h : Hp) : Option (Nat × Hp) :=
  if l0 = 0 then (some (0, h))
  else if l0 = 1 then (some (1, h))
  else if l0 = 2 then (some (2, h))
  else if l0 = 3 then (some (3, h))
  else if l0 = 4 then (some (4, h))
  else if l0 = 5 then (some (5, h))
  else if l0 = 6 then (some (6, h))
  else if l0 = 7 then (some (7, h))
  else if l0 = 8 then (some (8, h))
  else if l0 = 9 then (some (9, h))
  else (some (10, h))
set_option maxHeartbeats 4000000 in
set_option maxRecDepth 100000 in
theorem cX5_wordOf_ok (g : GE) (l0 : Int32) (h : Hp) : Con (cvs g) 0 g mX5_wordOf 2 [.int l0] h (fX5_wordOf l0 h) := by
  refine Con.of (by decide +kernel) (Nat.le_of_ble_eq_true rfl) ?_
  show Sim (cvs g) 0 g mX5_wordOf 2 0 [(0, .int l0)] [] h _
  unfold fX5_wordOf
  refine s_iload_n 0 dX5_wordOf_0 rfl rfl ?_
  refine s_tab 0 (tgt := 56) dX5_wordOf_1 (by decide) (by decide) rfl (by decide) ?_ (fun e1 => ?_)
  ·
    refine s_ldcs (i := 0) rfl dX5_wordOf_56 rfl ?_
    exact s_sret rfl (Or.inl ⟨_, rfl⟩) dX5_wordOf_58
  refine s_tab 1 (tgt := 59) dX5_wordOf_1 (by decide) (by decide) rfl (by decide) ?_ (fun e2 => ?_)
  ·
    refine s_ldcs (i := 1) rfl dX5_wordOf_59 rfl ?_
    exact s_sret rfl (Or.inl ⟨_, rfl⟩) dX5_wordOf_61
  refine s_tab 2 (tgt := 62) dX5_wordOf_1 (by decide) (by decide) rfl (by decide) ?_ (fun e3 => ?_)
  ·
    refine s_ldcs (i := 2) rfl dX5_wordOf_62 rfl ?_
    exact s_sret rfl (Or.inl ⟨_, rfl⟩) dX5_wordOf_64
  refine s_tab 3 (tgt := 65) dX5_wordOf_1 (by decide) (by decide) rfl (by decide) ?_ (fun e4 => ?_)
  ·
    refine s_ldcs (i := 3) rfl dX5_wordOf_65 rfl ?_
    exact s_sret rfl (Or.inl ⟨_, rfl⟩) dX5_wordOf_67
  refine s_tab 4 (tgt := 68) dX5_wordOf_1 (by decide) (by decide) rfl (by decide) ?_ (fun e5 => ?_)
  ·
    refine s_ldcs (i := 4) rfl dX5_wordOf_68 rfl ?_
    exact s_sret rfl (Or.inl ⟨_, rfl⟩) dX5_wordOf_70
  refine s_tab 5 (tgt := 71) dX5_wordOf_1 (by decide) (by decide) rfl (by decide) ?_ (fun e6 => ?_)
  ·
    refine s_ldcs (i := 5) rfl dX5_wordOf_71 rfl ?_
    exact s_sret rfl (Or.inl ⟨_, rfl⟩) dX5_wordOf_73
  refine s_tab 6 (tgt := 74) dX5_wordOf_1 (by decide) (by decide) rfl (by decide) ?_ (fun e7 => ?_)
  ·
    refine s_ldcs (i := 6) rfl dX5_wordOf_74 rfl ?_
    exact s_sret rfl (Or.inl ⟨_, rfl⟩) dX5_wordOf_76
  refine s_tab 7 (tgt := 77) dX5_wordOf_1 (by decide) (by decide) rfl (by decide) ?_ (fun e8 => ?_)
  ·
    refine s_ldcs (i := 7) rfl dX5_wordOf_77 rfl ?_
    exact s_sret rfl (Or.inl ⟨_, rfl⟩) dX5_wordOf_79
  refine s_tab 8 (tgt := 80) dX5_wordOf_1 (by decide) (by decide) rfl (by decide) ?_ (fun e9 => ?_)
  ·
    refine s_ldcs (i := 8) rfl dX5_wordOf_80 rfl ?_
    exact s_sret rfl (Or.inl ⟨_, rfl⟩) dX5_wordOf_82
  refine s_tab 9 (tgt := 83) dX5_wordOf_1 (by decide) (by decide) rfl (by decide) ?_ (fun e10 => ?_)
  ·
    refine s_ldcs (i := 9) rfl dX5_wordOf_83 rfl ?_
    exact s_sret rfl (Or.inl ⟨_, rfl⟩) dX5_wordOf_85
  have e1 := lv_neT e1 (show (0 : Int32).toInt = 0 from rfl)
  have e2 := lv_neT e2 (show (1 : Int32).toInt = 1 from rfl)
  have e3 := lv_neT e3 (show (2 : Int32).toInt = 2 from rfl)
  have e4 := lv_neT e4 (show (3 : Int32).toInt = 3 from rfl)
  have e5 := lv_neT e5 (show (4 : Int32).toInt = 4 from rfl)
  have e6 := lv_neT e6 (show (5 : Int32).toInt = 5 from rfl)
  have e7 := lv_neT e7 (show (6 : Int32).toInt = 6 from rfl)
  have e8 := lv_neT e8 (show (7 : Int32).toInt = 7 from rfl)
  have e9 := lv_neT e9 (show (8 : Int32).toInt = 8 from rfl)
  have e10 := lv_neT e10 (show (9 : Int32).toInt = 9 from rfl)
  refine s_tabd (tgt := 86) dX5_wordOf_1 (by omega) (by decide) ?_
  refine s_ldcs (i := 10) rfl dX5_wordOf_86 rfl ?_
  exact s_sret rfl (Or.inl ⟨_, rfl⟩) dX5_wordOf_88
def fX5_headOf_l54 (l3 : Int32) (K : Hp → Option (Int32 × Hp)) (rec : Int32 → Hp → Option (Int32 × Hp)) (l4 : Int32) (h : Hp) : Option (Int32 × Hp) :=
  if l3 < l4 then (K h)
  else (bnd (fX5_wordOf l4 h) fun x6 h5 =>
  bnd (fX5_isWord x6 h5) fun x8 h7 =>
  if x8 = 0 then (lt (l4 + 1) fun x9 =>
  rec x9 h7)
  else (some (l4, h7)))
def fX5_headOf (l1 : Int32) (h : Hp) : Option (Int32 × Hp) :=
  if (rd h 3 0 8) = 1 then (jn (κ := Int32 → Hp → Option (Int32 × Hp)) (fun z0_0 h2 => jn (κ := Int32 → Hp → Option (Int32 × Hp)) (fun z0_2 h4 => itr1 (fX5_headOf_l54 z0_2 (fun h10 => some ((-1), h10))) FU z0_0 h4) fun k50_2 =>
  if l1 = 0 then (k50_2 2 h2)
  else (if l1 = 1 then (k50_2 7 h2)
  else (k50_2 10 h2))) fun k29_0 =>
  if l1 = 0 then (k29_0 0 h)
  else (if l1 = 1 then (k29_0 3 h)
  else (k29_0 8 h)))
  else (some ((-1), h))
set_option maxHeartbeats 4000000 in
set_option maxRecDepth 100000 in
theorem sX5_headOf_l54 (g : GE) (l3 : Int32) (K : Hp → Option (Int32 × Hp)) (hK : ∀ (h : Hp), Sim cvi 0 g mX5_headOf 7 81 [] [] h (K  h)) : ∀ (n : Nat) (l4 : Int32) (h : Hp), Sim cvi 0 g mX5_headOf 7 54 [(0, rv g 3 0), (3, .int l3), (4, .int l4)] [] h (itr1 (fX5_headOf_l54 l3 K) n l4 h) := by
  refine s_itr1 (fun l4 h o => Sim cvi 0 g mX5_headOf 7 54 [(0, rv g 3 0), (3, .int l3), (4, .int l4)] [] h o) (fun _ _ => s_none) ?_
  intro rec hrec l4 h
  unfold fX5_headOf_l54
  refine s_iload 2 dX5_headOf_54 rfl ?_
  refine s_iload_n 1 dX5_headOf_56 rfl rfl ?_
  refine s_icmp_gt (tgt := 81) dX5_headOf_57 (by decide) ?_ ?_
  ·
    refine s_sub [] rfl ?_
    exact hK h
  ·
    refine s_aload_n 0 dX5_headOf_60 rfl rfl ?_
    refine s_iload 2 dX5_headOf_61 rfl ?_
    refine s_callSs (As := [.int l4]) (rest := [rv g 3 0]) (cX5_wordOf_ok g l4 h) sl_X5_124 rfl (Nat.le_of_ble_eq_true rfl) (Nat.le_of_ble_eq_true rfl) dX5_headOf_63 rfl (fun x6 h5 => ?_)
    refine s_callVi (s0 := 0) (As := [.ref (g.2.2.2.2.1 x6)]) (rest := []) (cX5_isWord_ok g x6 h5) vl_X5_128 rfl (Nat.le_of_ble_eq_true rfl) (Nat.le_of_ble_eq_true rfl) dX5_headOf_66 rfl (fun x8 h7 => ?_)
    refine s_if_eq (tgt := 75) dX5_headOf_69 (by decide) ?_ ?_
    ·
      refine s_iincl 2 (w := 1) (fun x9 => [(4, .int x9), (0, rv g 3 0), (3, .int l3)]) dX5_headOf_75 rfl rfl (by decide) (fun _ => rfl) (fun x9 => ?_)
      refine s_goto (tgt := 54) dX5_headOf_78 (by decide) ?_
      refine s_sub [1, 2, 0] rfl ?_
      exact hrec x9 h7
    ·
      refine s_iload 2 dX5_headOf_72 rfl ?_
      exact s_iret rfl dX5_headOf_74
set_option maxHeartbeats 4000000 in
set_option maxRecDepth 100000 in
theorem cX5_headOf_ok (g : GE) (l1 : Int32) (h : Hp) : Con cvi 0 g mX5_headOf 7 [rv g 3 0, .int l1] h (fX5_headOf l1 h) := by
  refine Con.of (by decide +kernel) (Nat.le_of_ble_eq_true rfl) ?_
  show Sim cvi 0 g mX5_headOf 7 0 [(0, rv g 3 0), (1, .int l1)] [] h _
  unfold fX5_headOf
  refine s_aload_n 0 dX5_headOf_0 rfl rfl ?_
  refine s_geti (s0 := 0) dX5_headOf_1 fl_X5_49 ?_
  refine s_iconst (v := 1) dX5_headOf_4 rfl ?_
  refine s_icmp_eq (tgt := 10) dX5_headOf_5 (by decide) ?_ ?_
  ·
    refine s_iload_n 1 dX5_headOf_10 rfl rfl ?_
    refine s_jn (fun (k29_0 : Int32 → Hp → Option (Int32 × Hp)) => ∀ (z0_0 : Int32) (h2 : Hp), Sim cvi 0 g mX5_headOf 7 29 [(0, rv g 3 0), (1, .int l1)] [.int z0_0] h2 (k29_0 z0_0 h2)) (fun z0_0 h2 => ?_) (fun k29_0 Hk29_0 => ?_)
    ·
      refine s_istore_n (ls' := [(2, .int z0_0), (0, rv g 3 0), (1, .int l1)]) dX5_headOf_29 rfl (by decide) rfl ?_
      refine s_iload_n 2 dX5_headOf_30 rfl rfl ?_
      refine s_jn (fun (k50_2 : Int32 → Hp → Option (Int32 × Hp)) => ∀ (z0_2 : Int32) (h4 : Hp), Sim cvi 0 g mX5_headOf 7 50 [(0, rv g 3 0), (2, .int z0_0)] [.int z0_2] h4 (k50_2 z0_2 h4)) (fun z0_2 h4 => ?_) (fun k50_2 Hk50_2 => ?_)
      ·
        refine s_istore_n (ls' := [(3, .int z0_2), (0, rv g 3 0), (2, .int z0_0)]) dX5_headOf_50 rfl (by decide) rfl ?_
        refine s_iload_n 2 dX5_headOf_51 rfl rfl ?_
        refine s_istore (ls' := [(4, .int z0_0), (3, .int z0_2), (0, rv g 3 0), (2, .int z0_0)]) dX5_headOf_52 (by decide) rfl ?_
        refine s_sub (ls' := [(0, rv g 3 0), (3, .int z0_2), (4, .int z0_0)]) [2, 1, 0] rfl ?_
        refine sX5_headOf_l54 g z0_2 _ (fun h10 => ?_) FU z0_0 h4
        refine s_iconst (v := (-1)) dX5_headOf_81 rfl ?_
        exact s_iret rfl dX5_headOf_82
      refine s_if_ne (tgt := 38) dX5_headOf_31 (by decide) ?_ ?_
      ·
        refine s_iconst (v := 2) dX5_headOf_34 rfl ?_
        refine s_goto (tgt := 50) dX5_headOf_35 (by decide) ?_
        refine s_sub [1, 0] rfl ?_
        exact Hk50_2 2 h2
      ·
        refine s_iload_n 2 dX5_headOf_38 rfl rfl ?_
        refine s_iconst (v := 1) dX5_headOf_39 rfl ?_
        refine s_icmp_ne (tgt := 48) dX5_headOf_40 (by decide) ?_ ?_
        ·
          refine s_bipush (v := 7) dX5_headOf_43 rfl ?_
          refine s_goto (tgt := 50) dX5_headOf_45 (by decide) ?_
          refine s_sub [1, 0] rfl ?_
          exact Hk50_2 7 h2
        ·
          refine s_bipush (v := 10) dX5_headOf_48 rfl ?_
          refine s_sub [1, 0] rfl ?_
          exact Hk50_2 10 h2
    refine s_if_ne (tgt := 18) dX5_headOf_11 (by decide) ?_ ?_
    ·
      refine s_iconst (v := 0) dX5_headOf_14 rfl ?_
      refine s_goto (tgt := 29) dX5_headOf_15 (by decide) ?_
      exact Hk29_0 0 h
    ·
      refine s_iload_n 1 dX5_headOf_18 rfl rfl ?_
      refine s_iconst (v := 1) dX5_headOf_19 rfl ?_
      refine s_icmp_ne (tgt := 27) dX5_headOf_20 (by decide) ?_ ?_
      ·
        refine s_iconst (v := 3) dX5_headOf_23 rfl ?_
        refine s_goto (tgt := 29) dX5_headOf_24 (by decide) ?_
        exact Hk29_0 3 h
      ·
        refine s_bipush (v := 8) dX5_headOf_27 rfl ?_
        exact Hk29_0 8 h
  ·
    refine s_iconst (v := (-1)) dX5_headOf_8 rfl ?_
    exact s_iret rfl dX5_headOf_9
def fX5_isFull (l1 : Int32) (h : Hp) : Option (Int32 × Hp) :=
  if l1 = 0 then (ck (zk 0) (some (0, h)))
  else if l1 = 1 then (ck (zk 0) (some (0, h)))
  else if l1 = 2 then (if (rd h 6 8 2) < 5 then (ck (zk 0) (some (0, h)))
  else (ck (zk 1) (some (1, h))))
  else if l1 = 3 then (if (rd h 5 8 0) < 40 then (ck (zk 0) (some (0, h)))
  else (ck (zk 1) (some (1, h))))
  else if l1 = 4 then (if (rd h 5 8 0) < 40 then (ck (zk 0) (some (0, h)))
  else (ck (zk 1) (some (1, h))))
  else if l1 = 5 then (if (rd h 5 8 0) < 40 then (ck (zk 0) (some (0, h)))
  else (ck (zk 1) (some (1, h))))
  else if l1 = 6 then (if (rd h 5 8 0) < 40 then (ck (zk 0) (some (0, h)))
  else (ck (zk 1) (some (1, h))))
  else if l1 = 7 then (if (rd h 5 8 0) < 40 then (ck (zk 0) (some (0, h)))
  else (ck (zk 1) (some (1, h))))
  else if l1 = 8 then (ck (zk 0) (some (0, h)))
  else if l1 = 9 then (if (rd h 1 8 1) < 8 then (ck (zk 0) (some (0, h)))
  else (ck (zk 1) (some (1, h))))
  else if l1 = 10 then (if (rd h 1 8 1) < 8 then (ck (zk 0) (some (0, h)))
  else (ck (zk 1) (some (1, h))))
  else (if (rd h 5 8 0) < 40 then (ck (zk 0) (some (0, h)))
  else (ck (zk 1) (some (1, h))))
set_option maxHeartbeats 4000000 in
set_option maxRecDepth 100000 in
theorem cX5_isFull_ok (g : GE) (l1 : Int32) (h : Hp) : Con cvi 0 g mX5_isFull 2 [rv g 3 0, .int l1] h (fX5_isFull l1 h) := by
  refine Con.of (by decide +kernel) (Nat.le_of_ble_eq_true rfl) ?_
  show Sim cvi 0 g mX5_isFull 2 0 [(0, rv g 3 0), (1, .int l1)] [] h _
  unfold fX5_isFull
  refine s_iload_n 1 dX5_isFull_0 rfl rfl ?_
  refine s_tab 0 (tgt := 60) dX5_isFull_1 (by decide) (by decide) rfl (by decide) ?_ (fun e1 => ?_)
  ·
    refine s_iconst (v := 0) dX5_isFull_60 rfl ?_
    exact s_zret rfl dX5_isFull_61
  refine s_tab 1 (tgt := 60) dX5_isFull_1 (by decide) (by decide) rfl (by decide) ?_ (fun e2 => ?_)
  ·
    refine s_iconst (v := 0) dX5_isFull_60 rfl ?_
    exact s_zret rfl dX5_isFull_61
  refine s_tab 2 (tgt := 62) dX5_isFull_1 (by decide) (by decide) rfl (by decide) ?_ (fun e3 => ?_)
  ·
    refine s_aload_n 0 dX5_isFull_62 rfl rfl ?_
    refine s_getr (s0 := 0) dX5_isFull_63 fl_X5_12 ?_
    refine s_geti (s0 := 8) dX5_isFull_66 fl_X5_162 ?_
    refine s_iconst (v := 5) dX5_isFull_69 rfl ?_
    refine s_icmp_lt (tgt := 77) dX5_isFull_70 (by decide) ?_ ?_
    ·
      refine s_iconst (v := 0) dX5_isFull_77 rfl ?_
      exact s_zret rfl dX5_isFull_78
    ·
      refine s_iconst (v := 1) dX5_isFull_73 rfl ?_
      refine s_goto (tgt := 78) dX5_isFull_74 (by decide) ?_
      exact s_zret rfl dX5_isFull_78
  refine s_tab 3 (tgt := 97) dX5_isFull_1 (by decide) (by decide) rfl (by decide) ?_ (fun e4 => ?_)
  ·
    refine s_aload_n 0 dX5_isFull_97 rfl rfl ?_
    refine s_getr (s0 := 0) dX5_isFull_98 fl_X5_21 ?_
    refine s_geti (s0 := 8) dX5_isFull_101 fl_X5_72 ?_
    refine s_bipush (v := 40) dX5_isFull_104 rfl ?_
    refine s_icmp_lt (tgt := 113) dX5_isFull_106 (by decide) ?_ ?_
    ·
      refine s_iconst (v := 0) dX5_isFull_113 rfl ?_
      exact s_zret rfl dX5_isFull_114
    ·
      refine s_iconst (v := 1) dX5_isFull_109 rfl ?_
      refine s_goto (tgt := 114) dX5_isFull_110 (by decide) ?_
      exact s_zret rfl dX5_isFull_114
  refine s_tab 4 (tgt := 97) dX5_isFull_1 (by decide) (by decide) rfl (by decide) ?_ (fun e5 => ?_)
  ·
    refine s_aload_n 0 dX5_isFull_97 rfl rfl ?_
    refine s_getr (s0 := 0) dX5_isFull_98 fl_X5_21 ?_
    refine s_geti (s0 := 8) dX5_isFull_101 fl_X5_72 ?_
    refine s_bipush (v := 40) dX5_isFull_104 rfl ?_
    refine s_icmp_lt (tgt := 113) dX5_isFull_106 (by decide) ?_ ?_
    ·
      refine s_iconst (v := 0) dX5_isFull_113 rfl ?_
      exact s_zret rfl dX5_isFull_114
    ·
      refine s_iconst (v := 1) dX5_isFull_109 rfl ?_
      refine s_goto (tgt := 114) dX5_isFull_110 (by decide) ?_
      exact s_zret rfl dX5_isFull_114
  refine s_tab 5 (tgt := 97) dX5_isFull_1 (by decide) (by decide) rfl (by decide) ?_ (fun e6 => ?_)
  ·
    refine s_aload_n 0 dX5_isFull_97 rfl rfl ?_
    refine s_getr (s0 := 0) dX5_isFull_98 fl_X5_21 ?_
    refine s_geti (s0 := 8) dX5_isFull_101 fl_X5_72 ?_
    refine s_bipush (v := 40) dX5_isFull_104 rfl ?_
    refine s_icmp_lt (tgt := 113) dX5_isFull_106 (by decide) ?_ ?_
    ·
      refine s_iconst (v := 0) dX5_isFull_113 rfl ?_
      exact s_zret rfl dX5_isFull_114
    ·
      refine s_iconst (v := 1) dX5_isFull_109 rfl ?_
      refine s_goto (tgt := 114) dX5_isFull_110 (by decide) ?_
      exact s_zret rfl dX5_isFull_114
  refine s_tab 6 (tgt := 97) dX5_isFull_1 (by decide) (by decide) rfl (by decide) ?_ (fun e7 => ?_)
  ·
    refine s_aload_n 0 dX5_isFull_97 rfl rfl ?_
    refine s_getr (s0 := 0) dX5_isFull_98 fl_X5_21 ?_
    refine s_geti (s0 := 8) dX5_isFull_101 fl_X5_72 ?_
    refine s_bipush (v := 40) dX5_isFull_104 rfl ?_
    refine s_icmp_lt (tgt := 113) dX5_isFull_106 (by decide) ?_ ?_
    ·
      refine s_iconst (v := 0) dX5_isFull_113 rfl ?_
      exact s_zret rfl dX5_isFull_114
    ·
      refine s_iconst (v := 1) dX5_isFull_109 rfl ?_
      refine s_goto (tgt := 114) dX5_isFull_110 (by decide) ?_
      exact s_zret rfl dX5_isFull_114
  refine s_tab 7 (tgt := 97) dX5_isFull_1 (by decide) (by decide) rfl (by decide) ?_ (fun e8 => ?_)
  ·
    refine s_aload_n 0 dX5_isFull_97 rfl rfl ?_
    refine s_getr (s0 := 0) dX5_isFull_98 fl_X5_21 ?_
    refine s_geti (s0 := 8) dX5_isFull_101 fl_X5_72 ?_
    refine s_bipush (v := 40) dX5_isFull_104 rfl ?_
    refine s_icmp_lt (tgt := 113) dX5_isFull_106 (by decide) ?_ ?_
    ·
      refine s_iconst (v := 0) dX5_isFull_113 rfl ?_
      exact s_zret rfl dX5_isFull_114
    ·
      refine s_iconst (v := 1) dX5_isFull_109 rfl ?_
      refine s_goto (tgt := 114) dX5_isFull_110 (by decide) ?_
      exact s_zret rfl dX5_isFull_114
  refine s_tab 8 (tgt := 60) dX5_isFull_1 (by decide) (by decide) rfl (by decide) ?_ (fun e9 => ?_)
  ·
    refine s_iconst (v := 0) dX5_isFull_60 rfl ?_
    exact s_zret rfl dX5_isFull_61
  refine s_tab 9 (tgt := 79) dX5_isFull_1 (by decide) (by decide) rfl (by decide) ?_ (fun e10 => ?_)
  ·
    refine s_aload_n 0 dX5_isFull_79 rfl rfl ?_
    refine s_getr (s0 := 0) dX5_isFull_80 fl_X5_28 ?_
    refine s_geti (s0 := 8) dX5_isFull_83 fl_X5_165 ?_
    refine s_bipush (v := 8) dX5_isFull_86 rfl ?_
    refine s_icmp_lt (tgt := 95) dX5_isFull_88 (by decide) ?_ ?_
    ·
      refine s_iconst (v := 0) dX5_isFull_95 rfl ?_
      exact s_zret rfl dX5_isFull_96
    ·
      refine s_iconst (v := 1) dX5_isFull_91 rfl ?_
      refine s_goto (tgt := 96) dX5_isFull_92 (by decide) ?_
      exact s_zret rfl dX5_isFull_96
  refine s_tab 10 (tgt := 79) dX5_isFull_1 (by decide) (by decide) rfl (by decide) ?_ (fun e11 => ?_)
  ·
    refine s_aload_n 0 dX5_isFull_79 rfl rfl ?_
    refine s_getr (s0 := 0) dX5_isFull_80 fl_X5_28 ?_
    refine s_geti (s0 := 8) dX5_isFull_83 fl_X5_165 ?_
    refine s_bipush (v := 8) dX5_isFull_86 rfl ?_
    refine s_icmp_lt (tgt := 95) dX5_isFull_88 (by decide) ?_ ?_
    ·
      refine s_iconst (v := 0) dX5_isFull_95 rfl ?_
      exact s_zret rfl dX5_isFull_96
    ·
      refine s_iconst (v := 1) dX5_isFull_91 rfl ?_
      refine s_goto (tgt := 96) dX5_isFull_92 (by decide) ?_
      exact s_zret rfl dX5_isFull_96
  have e1 := lv_neT e1 (show (0 : Int32).toInt = 0 from rfl)
  have e2 := lv_neT e2 (show (1 : Int32).toInt = 1 from rfl)
  have e3 := lv_neT e3 (show (2 : Int32).toInt = 2 from rfl)
  have e4 := lv_neT e4 (show (3 : Int32).toInt = 3 from rfl)
  have e5 := lv_neT e5 (show (4 : Int32).toInt = 4 from rfl)
  have e6 := lv_neT e6 (show (5 : Int32).toInt = 5 from rfl)
  have e7 := lv_neT e7 (show (6 : Int32).toInt = 6 from rfl)
  have e8 := lv_neT e8 (show (7 : Int32).toInt = 7 from rfl)
  have e9 := lv_neT e9 (show (8 : Int32).toInt = 8 from rfl)
  have e10 := lv_neT e10 (show (9 : Int32).toInt = 9 from rfl)
  have e11 := lv_neT e11 (show (10 : Int32).toInt = 10 from rfl)
  refine s_tabd (tgt := 97) dX5_isFull_1 (by omega) (by decide) ?_
  refine s_aload_n 0 dX5_isFull_97 rfl rfl ?_
  refine s_getr (s0 := 0) dX5_isFull_98 fl_X5_21 ?_
  refine s_geti (s0 := 8) dX5_isFull_101 fl_X5_72 ?_
  refine s_bipush (v := 40) dX5_isFull_104 rfl ?_
  refine s_icmp_lt (tgt := 113) dX5_isFull_106 (by decide) ?_ ?_
  ·
    refine s_iconst (v := 0) dX5_isFull_113 rfl ?_
    exact s_zret rfl dX5_isFull_114
  ·
    refine s_iconst (v := 1) dX5_isFull_109 rfl ?_
    refine s_goto (tgt := 114) dX5_isFull_110 (by decide) ?_
    exact s_zret rfl dX5_isFull_114
def fX5_numberRead_l7 (K : Int32 → Hp → Option (Int32 × Hp)) (rec : Int32 → Int32 → Hp → Option (Int32 × Hp)) (l1 l2 : Int32) (h : Hp) : Option (Int32 × Hp) :=
  if (rd h 3 0 7) ≤ l2 then (K l1 h)
  else (bnd (fX5_byteAt l2 h) fun x3 h2 =>
  lt (((l1 * (10 : Int32)) + x3) - (48 : Int32)) fun x4 =>
  lt (l2 + 1) fun x5 =>
  rec x4 x5 h2)
def fX5_numberRead (h : Hp) : Option (Int32 × Hp) :=
  lt (rd h 3 0 9) fun x1 =>
  itr2 (fX5_numberRead_l7 (fun y6 h7 => some (y6, h7))) FU 0 x1 h
set_option maxHeartbeats 4000000 in
set_option maxRecDepth 100000 in
theorem sX5_numberRead_l7 (g : GE) (K : Int32 → Hp → Option (Int32 × Hp)) (hK : ∀ (y1 : Int32) (h : Hp), Sim cvi 0 g mX5_numberRead 3 35 [(1, .int y1)] [] h (K y1 h)) : ∀ (n : Nat) (l1 l2 : Int32) (h : Hp), Sim cvi 0 g mX5_numberRead 3 7 [(0, rv g 3 0), (1, .int l1), (2, .int l2)] [] h (itr2 (fX5_numberRead_l7 K) n l1 l2 h) := by
  refine s_itr2 (fun l1 l2 h o => Sim cvi 0 g mX5_numberRead 3 7 [(0, rv g 3 0), (1, .int l1), (2, .int l2)] [] h o) (fun _ _ _ => s_none) ?_
  intro rec hrec l1 l2 h
  unfold fX5_numberRead_l7
  refine s_iload_n 2 dX5_numberRead_7 rfl rfl ?_
  refine s_aload_n 0 dX5_numberRead_8 rfl rfl ?_
  refine s_geti (s0 := 0) dX5_numberRead_9 fl_X5_46 ?_
  refine s_icmp_ge (tgt := 35) dX5_numberRead_12 (by decide) ?_ ?_
  ·
    refine s_sub [1] rfl ?_
    exact hK l1 h
  ·
    refine s_iload_n 1 dX5_numberRead_15 rfl rfl ?_
    refine s_bipush (v := 10) dX5_numberRead_16 rfl ?_
    refine s_imul dX5_numberRead_18 ?_
    refine s_aload_n 0 dX5_numberRead_19 rfl rfl ?_
    refine s_iload_n 2 dX5_numberRead_20 rfl rfl ?_
    refine s_callVi (s0 := 0) (As := [.int l2]) (rest := [.int (l1 * (10 : Int32))]) (cX5_byteAt_ok g l2 h) vl_X5_112 rfl (Nat.le_of_ble_eq_true rfl) (Nat.le_of_ble_eq_true rfl) dX5_numberRead_21 rfl (fun x3 h2 => ?_)
    refine s_iadd dX5_numberRead_24 ?_
    refine s_bipush (v := 48) dX5_numberRead_25 rfl ?_
    refine s_isub dX5_numberRead_27 ?_
    refine s_leti (fun x4 => ?_)
    refine s_istore_n (ls' := [(1, .int x4), (0, rv g 3 0), (2, .int l2)]) dX5_numberRead_28 rfl (by decide) rfl ?_
    refine s_iincl 2 (w := 1) (fun x5 => [(2, .int x5), (1, .int x4), (0, rv g 3 0)]) dX5_numberRead_29 rfl rfl (by decide) (fun _ => rfl) (fun x5 => ?_)
    refine s_goto (tgt := 7) dX5_numberRead_32 (by decide) ?_
    refine s_sub [2, 1, 0] rfl ?_
    exact hrec x4 x5 h2
set_option maxHeartbeats 4000000 in
set_option maxRecDepth 100000 in
theorem cX5_numberRead_ok (g : GE) (h : Hp) : Con cvi 0 g mX5_numberRead 3 [rv g 3 0] h (fX5_numberRead h) := by
  refine Con.of (by decide +kernel) (Nat.le_of_ble_eq_true rfl) ?_
  show Sim cvi 0 g mX5_numberRead 3 0 [(0, rv g 3 0)] [] h _
  unfold fX5_numberRead
  refine s_iconst (v := 0) dX5_numberRead_0 rfl ?_
  refine s_istore_n (ls' := [(1, .int 0), (0, rv g 3 0)]) dX5_numberRead_1 rfl (by decide) rfl ?_
  refine s_aload_n 1 dX5_numberRead_2 rfl rfl ?_
  refine s_geti (s0 := 0) dX5_numberRead_3 fl_X5_52 ?_
  refine s_leti (fun x1 => ?_)
  refine s_istore_n (ls' := [(2, .int x1), (1, .int 0), (0, rv g 3 0)]) dX5_numberRead_6 rfl (by decide) rfl ?_
  refine s_sub (ls' := [(0, rv g 3 0), (1, .int 0), (2, .int x1)]) [2, 1, 0] rfl ?_
  refine sX5_numberRead_l7 g _ (fun y6 h7 => ?_) FU 0 x1 h
  refine s_iload_n 0 dX5_numberRead_35 rfl rfl ?_
  exact s_iret rfl dX5_numberRead_36
def fX5_numbersOf (l0 : Int32) (h : Hp) : Option (Int32 × Hp) :=
  if l0 = 2 then (some (3, h))
  else if l0 = 3 then (some (0, h))
  else if l0 = 4 then (some (1, h))
  else if l0 = 5 then (some (1, h))
  else if l0 = 6 then (some (1, h))
  else if l0 = 7 then (some (1, h))
  else if l0 = 8 then (some (1, h))
  else if l0 = 9 then (some (2, h))
  else if l0 = 10 then (some (2, h))
  else (some (1, h))
set_option maxHeartbeats 4000000 in
set_option maxRecDepth 100000 in
theorem cX5_numbersOf_ok (g : GE) (l0 : Int32) (h : Hp) : Con cvi 0 g mX5_numbersOf 2 [.int l0] h (fX5_numbersOf l0 h) := by
  refine Con.of (by decide +kernel) (Nat.le_of_ble_eq_true rfl) ?_
  show Sim cvi 0 g mX5_numbersOf 2 0 [(0, .int l0)] [] h _
  unfold fX5_numbersOf
  refine s_iload_n 0 dX5_numbersOf_0 rfl rfl ?_
  refine s_tab 2 (tgt := 52) dX5_numbersOf_1 (by decide) (by decide) rfl (by decide) ?_ (fun e1 => ?_)
  ·
    refine s_iconst (v := 3) dX5_numbersOf_52 rfl ?_
    exact s_iret rfl dX5_numbersOf_53
  refine s_tab 3 (tgt := 56) dX5_numbersOf_1 (by decide) (by decide) rfl (by decide) ?_ (fun e2 => ?_)
  ·
    refine s_iconst (v := 0) dX5_numbersOf_56 rfl ?_
    exact s_iret rfl dX5_numbersOf_57
  refine s_tab 4 (tgt := 58) dX5_numbersOf_1 (by decide) (by decide) rfl (by decide) ?_ (fun e3 => ?_)
  ·
    refine s_iconst (v := 1) dX5_numbersOf_58 rfl ?_
    exact s_iret rfl dX5_numbersOf_59
  refine s_tab 5 (tgt := 58) dX5_numbersOf_1 (by decide) (by decide) rfl (by decide) ?_ (fun e4 => ?_)
  ·
    refine s_iconst (v := 1) dX5_numbersOf_58 rfl ?_
    exact s_iret rfl dX5_numbersOf_59
  refine s_tab 6 (tgt := 58) dX5_numbersOf_1 (by decide) (by decide) rfl (by decide) ?_ (fun e5 => ?_)
  ·
    refine s_iconst (v := 1) dX5_numbersOf_58 rfl ?_
    exact s_iret rfl dX5_numbersOf_59
  refine s_tab 7 (tgt := 58) dX5_numbersOf_1 (by decide) (by decide) rfl (by decide) ?_ (fun e6 => ?_)
  ·
    refine s_iconst (v := 1) dX5_numbersOf_58 rfl ?_
    exact s_iret rfl dX5_numbersOf_59
  refine s_tab 8 (tgt := 58) dX5_numbersOf_1 (by decide) (by decide) rfl (by decide) ?_ (fun e7 => ?_)
  ·
    refine s_iconst (v := 1) dX5_numbersOf_58 rfl ?_
    exact s_iret rfl dX5_numbersOf_59
  refine s_tab 9 (tgt := 54) dX5_numbersOf_1 (by decide) (by decide) rfl (by decide) ?_ (fun e8 => ?_)
  ·
    refine s_iconst (v := 2) dX5_numbersOf_54 rfl ?_
    exact s_iret rfl dX5_numbersOf_55
  refine s_tab 10 (tgt := 54) dX5_numbersOf_1 (by decide) (by decide) rfl (by decide) ?_ (fun e9 => ?_)
  ·
    refine s_iconst (v := 2) dX5_numbersOf_54 rfl ?_
    exact s_iret rfl dX5_numbersOf_55
  have e1 := lv_neT e1 (show (2 : Int32).toInt = 2 from rfl)
  have e2 := lv_neT e2 (show (3 : Int32).toInt = 3 from rfl)
  have e3 := lv_neT e3 (show (4 : Int32).toInt = 4 from rfl)
  have e4 := lv_neT e4 (show (5 : Int32).toInt = 5 from rfl)
  have e5 := lv_neT e5 (show (6 : Int32).toInt = 6 from rfl)
  have e6 := lv_neT e6 (show (7 : Int32).toInt = 7 from rfl)
  have e7 := lv_neT e7 (show (8 : Int32).toInt = 8 from rfl)
  have e8 := lv_neT e8 (show (9 : Int32).toInt = 9 from rfl)
  have e9 := lv_neT e9 (show (10 : Int32).toInt = 10 from rfl)
  refine s_tabd (tgt := 58) dX5_numbersOf_1 (by omega) (by decide) ?_
  refine s_iconst (v := 1) dX5_numbersOf_58 rfl ?_
  exact s_iret rfl dX5_numbersOf_59
def fX5_refuse (h : Hp) : Option (Int32 × Hp) :=
  lt (wr h 3 0 3 1) fun h1 =>
  lt (wr h1 3 0 4 (rd h1 3 0 9)) fun h2 =>
  ck (zk 0) (some (0, h2))
set_option maxHeartbeats 4000000 in
set_option maxRecDepth 100000 in
theorem cX5_refuse_ok (g : GE) (h : Hp) : Con cvi 0 g mX5_refuse 2 [rv g 3 0] h (fX5_refuse h) := by
  refine Con.of (by decide +kernel) (Nat.le_of_ble_eq_true rfl) ?_
  show Sim cvi 0 g mX5_refuse 2 0 [(0, rv g 3 0)] [] h _
  unfold fX5_refuse
  refine s_aload_n 0 dX5_refuse_0 rfl rfl ?_
  refine s_iconst (v := 1) dX5_refuse_1 rfl ?_
  refine s_puti (s0 := 0) dX5_refuse_2 fl_X5_32 (fun h1 => ?_)
  refine s_aload_n 0 dX5_refuse_5 rfl rfl ?_
  refine s_aload_n 0 dX5_refuse_6 rfl rfl ?_
  refine s_geti (s0 := 0) dX5_refuse_7 fl_X5_52 ?_
  refine s_puti (s0 := 0) dX5_refuse_10 fl_X5_36 (fun h2 => ?_)
  refine s_iconst (v := 0) dX5_refuse_13 rfl ?_
  exact s_zret rfl dX5_refuse_14
def fX3_add (a0 : Nat) (l1 : Int32) (l2 : Int32) (l3 : Int32) (h : Hp) : Option (Unit × Hp) :=
  if (rd h 1 a0 1) < 8 then (ck (ib (rd h 1 a0 1) 8) (lt (wa h 21 a0 (rd h 1 a0 1) l1) fun h1 =>
  ck (ib (rd h1 1 a0 1) 8) (lt (wa h1 22 a0 (rd h1 1 a0 1) l2) fun h2 =>
  ck (ib (rd h2 1 a0 1) 8) (lt (wa h2 23 a0 (rd h2 1 a0 1) l3) fun h3 =>
  lt (wr h3 1 a0 1 ((rd h3 1 a0 1) + (1 : Int32))) fun h4 =>
  some ((), h4)))))
  else (some ((), h))
set_option maxHeartbeats 4000000 in
set_option maxRecDepth 100000 in
theorem cX3_add_ok (g : GE) (a0 : Nat) (l1 : Int32) (l2 : Int32) (l3 : Int32) (h : Hp) : Con cvv 0 g mX3_add 2 [rv g 1 a0, .int l1, .int l2, .int l3] h (fX3_add a0 l1 l2 l3 h) := by
  refine Con.of (by decide +kernel) (Nat.le_of_ble_eq_true rfl) ?_
  show Sim cvv 0 g mX3_add 2 0 [(0, rv g 1 a0), (1, .int l1), (2, .int l2), (3, .int l3)] [] h _
  unfold fX3_add
  refine s_aload_n 0 dX3_add_0 rfl rfl ?_
  refine s_geti (s0 := a0) dX3_add_1 fl_X3_15 ?_
  refine s_bipush (v := 8) dX3_add_4 rfl ?_
  refine s_icmp_lt (tgt := 10) dX3_add_6 (by decide) ?_ ?_
  ·
    refine s_aload_n 0 dX3_add_10 rfl rfl ?_
    refine s_getr1 (k2 := 21) (s0 := a0) rfl dX3_add_11 fl_X3_18 ?_
    refine s_aload_n 0 dX3_add_14 rfl rfl ?_
    refine s_geti (s0 := a0) dX3_add_15 fl_X3_15 ?_
    refine s_iload_n 1 dX3_add_18 rfl rfl ?_
    refine s_iast (s0 := a0) ka_21 dX3_add_19 (fun h1 => ?_)
    refine s_aload_n 0 dX3_add_20 rfl rfl ?_
    refine s_getr1 (k2 := 22) (s0 := a0) rfl dX3_add_21 fl_X3_22 ?_
    refine s_aload_n 0 dX3_add_24 rfl rfl ?_
    refine s_geti (s0 := a0) dX3_add_25 fl_X3_15 ?_
    refine s_iload_n 2 dX3_add_28 rfl rfl ?_
    refine s_iast (s0 := a0) ka_22 dX3_add_29 (fun h2 => ?_)
    refine s_aload_n 0 dX3_add_30 rfl rfl ?_
    refine s_getr1 (k2 := 23) (s0 := a0) rfl dX3_add_31 fl_X3_25 ?_
    refine s_aload_n 0 dX3_add_34 rfl rfl ?_
    refine s_geti (s0 := a0) dX3_add_35 fl_X3_15 ?_
    refine s_iload_n 3 dX3_add_38 rfl rfl ?_
    refine s_iast (s0 := a0) ka_23 dX3_add_39 (fun h3 => ?_)
    refine s_aload_n 0 dX3_add_40 rfl rfl ?_
    refine s_dup dX3_add_41 rfl ?_
    refine s_geti (s0 := a0) dX3_add_42 fl_X3_15 ?_
    refine s_iconst (v := 1) dX3_add_45 rfl ?_
    refine s_iadd dX3_add_46 ?_
    refine s_puti (s0 := a0) dX3_add_47 fl_X3_15 (fun h4 => ?_)
    exact s_vret rfl dX3_add_50
  ·
    exact s_vret rfl dX3_add_9
def fX7_add (a0 : Nat) (l1 : Int32) (l2 : Int32) (h : Hp) : Option (Unit × Hp) :=
  if (rd h 5 a0 0) < 40 then (ck (ib (rd h 5 a0 0) 40) (lt (wa h 31 a0 (rd h 5 a0 0) l1) fun h1 =>
  ck (ib (rd h1 5 a0 0) 40) (lt (wa h1 32 a0 (rd h1 5 a0 0) l2) fun h2 =>
  lt (wr h2 5 a0 0 ((rd h2 5 a0 0) + (1 : Int32))) fun h3 =>
  some ((), h3))))
  else (some ((), h))
set_option maxHeartbeats 4000000 in
set_option maxRecDepth 100000 in
theorem cX7_add_ok (g : GE) (a0 : Nat) (l1 : Int32) (l2 : Int32) (h : Hp) : Con cvv 0 g mX7_add 2 [rv g 5 a0, .int l1, .int l2] h (fX7_add a0 l1 l2 h) := by
  refine Con.of (by decide +kernel) (Nat.le_of_ble_eq_true rfl) ?_
  show Sim cvv 0 g mX7_add 2 0 [(0, rv g 5 a0), (1, .int l1), (2, .int l2)] [] h _
  unfold fX7_add
  refine s_aload_n 0 dX7_add_0 rfl rfl ?_
  refine s_geti (s0 := a0) dX7_add_1 fl_X7_9 ?_
  refine s_bipush (v := 40) dX7_add_4 rfl ?_
  refine s_icmp_lt (tgt := 10) dX7_add_6 (by decide) ?_ ?_
  ·
    refine s_aload_n 0 dX7_add_10 rfl rfl ?_
    refine s_getr1 (k2 := 31) (s0 := a0) rfl dX7_add_11 fl_X7_15 ?_
    refine s_aload_n 0 dX7_add_14 rfl rfl ?_
    refine s_geti (s0 := a0) dX7_add_15 fl_X7_9 ?_
    refine s_iload_n 1 dX7_add_18 rfl rfl ?_
    refine s_iast (s0 := a0) ka_31 dX7_add_19 (fun h1 => ?_)
    refine s_aload_n 0 dX7_add_20 rfl rfl ?_
    refine s_getr1 (k2 := 32) (s0 := a0) rfl dX7_add_21 fl_X7_19 ?_
    refine s_aload_n 0 dX7_add_24 rfl rfl ?_
    refine s_geti (s0 := a0) dX7_add_25 fl_X7_9 ?_
    refine s_iload_n 2 dX7_add_28 rfl rfl ?_
    refine s_iast (s0 := a0) ka_32 dX7_add_29 (fun h2 => ?_)
    refine s_aload_n 0 dX7_add_30 rfl rfl ?_
    refine s_dup dX7_add_31 rfl ?_
    refine s_geti (s0 := a0) dX7_add_32 fl_X7_9 ?_
    refine s_iconst (v := 1) dX7_add_35 rfl ?_
    refine s_iadd dX7_add_36 ?_
    refine s_puti (s0 := a0) dX7_add_37 fl_X7_9 (fun h3 => ?_)
    exact s_vret rfl dX7_add_40
  ·
    exact s_vret rfl dX7_add_9
def fX5_tell (l1 : Int32) (h : Hp) : Option (Unit × Hp) :=
  if l1 = 0 then (ck (ib 0 3) (
  lt (wr h 6 8 0 (ra h 26 0 0)) fun h2 =>
  some ((), h2)))
  else if l1 = 1 then (ck (ib 0 3) (
  lt (wr h 6 8 1 (ra h 26 0 0)) fun h4 =>
  some ((), h4)))
  else if l1 = 2 then (ck (ib 0 3) (
  ck (ib 1 3) (
  ck (ib 2 3) (
  bnd (fX8_add 8 (ra h 26 0 0) (ra h 26 0 1) (ra h 26 0 2) h) fun _ h6 =>
  some ((), h6)))))
  else if l1 = 3 then (bnd (fX7_add 8 0 (-1) h) fun _ h8 =>
  some ((), h8))
  else if l1 = 4 then (ck (ib 0 3) (
  bnd (fX7_add 8 (l1 - (3 : Int32)) (ra h 26 0 0) h) fun _ h10 =>
  some ((), h10)))
  else if l1 = 5 then (ck (ib 0 3) (
  bnd (fX7_add 8 (l1 - (3 : Int32)) (ra h 26 0 0) h) fun _ h12 =>
  some ((), h12)))
  else if l1 = 6 then (ck (ib 0 3) (
  bnd (fX7_add 8 (l1 - (3 : Int32)) (ra h 26 0 0) h) fun _ h14 =>
  some ((), h14)))
  else if l1 = 7 then (ck (ib 0 3) (
  bnd (fX7_add 8 (l1 - (3 : Int32)) (ra h 26 0 0) h) fun _ h16 =>
  some ((), h16)))
  else if l1 = 8 then (ck (ib 0 3) (
  lt (wr h 1 8 0 (ra h 26 0 0)) fun h18 =>
  some ((), h18)))
  else if l1 = 9 then (ck (ib 0 3) (
  ck (ib 1 3) (
  bnd (fX3_add 8 1 (ra h 26 0 0) (ra h 26 0 1) h) fun _ h20 =>
  some ((), h20))))
  else if l1 = 10 then (ck (ib 0 3) (
  ck (ib 1 3) (
  bnd (fX3_add 8 0 (ra h 26 0 0) (ra h 26 0 1) h) fun _ h22 =>
  some ((), h22))))
  else (ck (ib 0 3) (
  bnd (fX7_add 8 (l1 - (3 : Int32)) (ra h 26 0 0) h) fun _ h23 =>
  some ((), h23)))
set_option maxHeartbeats 4000000 in
set_option maxRecDepth 100000 in
theorem cX5_tell_ok (g : GE) (l1 : Int32) (h : Hp) : Con cvv 0 g mX5_tell 3 [rv g 3 0, .int l1] h (fX5_tell l1 h) := by
  refine Con.of (by decide +kernel) (Nat.le_of_ble_eq_true rfl) ?_
  show Sim cvv 0 g mX5_tell 3 0 [(0, rv g 3 0), (1, .int l1)] [] h _
  unfold fX5_tell
  refine s_iload_n 1 dX5_tell_0 rfl rfl ?_
  refine s_tab 0 (tgt := 60) dX5_tell_1 (by decide) (by decide) rfl (by decide) ?_ (fun e1 => ?_)
  ·
    refine s_aload_n 0 dX5_tell_60 rfl rfl ?_
    refine s_getr (s0 := 0) dX5_tell_61 fl_X5_12 ?_
    refine s_aload_n 0 dX5_tell_64 rfl rfl ?_
    refine s_getr (s0 := 0) dX5_tell_65 fl_X5_55 ?_
    refine s_iconst (v := 0) dX5_tell_68 rfl ?_
    refine s_iald (s0 := 0) ka_26 dX5_tell_69 ?_
    refine s_puti (s0 := 8) dX5_tell_70 fl_X5_171 (fun h2 => ?_)
    refine s_goto (tgt := 210) dX5_tell_73 (by decide) ?_
    exact s_vret rfl dX5_tell_210
  refine s_tab 1 (tgt := 76) dX5_tell_1 (by decide) (by decide) rfl (by decide) ?_ (fun e3 => ?_)
  ·
    refine s_aload_n 0 dX5_tell_76 rfl rfl ?_
    refine s_getr (s0 := 0) dX5_tell_77 fl_X5_12 ?_
    refine s_aload_n 0 dX5_tell_80 rfl rfl ?_
    refine s_getr (s0 := 0) dX5_tell_81 fl_X5_55 ?_
    refine s_iconst (v := 0) dX5_tell_84 rfl ?_
    refine s_iald (s0 := 0) ka_26 dX5_tell_85 ?_
    refine s_puti (s0 := 8) dX5_tell_86 fl_X5_173 (fun h4 => ?_)
    refine s_goto (tgt := 210) dX5_tell_89 (by decide) ?_
    exact s_vret rfl dX5_tell_210
  refine s_tab 2 (tgt := 92) dX5_tell_1 (by decide) (by decide) rfl (by decide) ?_ (fun e5 => ?_)
  ·
    refine s_aload_n 0 dX5_tell_92 rfl rfl ?_
    refine s_getr (s0 := 0) dX5_tell_93 fl_X5_12 ?_
    refine s_aload_n 0 dX5_tell_96 rfl rfl ?_
    refine s_getr (s0 := 0) dX5_tell_97 fl_X5_55 ?_
    refine s_iconst (v := 0) dX5_tell_100 rfl ?_
    refine s_iald (s0 := 0) ka_26 dX5_tell_101 ?_
    refine s_aload_n 0 dX5_tell_102 rfl rfl ?_
    refine s_getr (s0 := 0) dX5_tell_103 fl_X5_55 ?_
    refine s_iconst (v := 1) dX5_tell_106 rfl ?_
    refine s_iald (s0 := 0) ka_26 dX5_tell_107 ?_
    refine s_aload_n 0 dX5_tell_108 rfl rfl ?_
    refine s_getr (s0 := 0) dX5_tell_109 fl_X5_55 ?_
    refine s_iconst (v := 2) dX5_tell_112 rfl ?_
    refine s_iald (s0 := 0) ka_26 dX5_tell_113 ?_
    refine s_callVv (s0 := 8) (As := [.int (ra h 26 0 0), .int (ra h 26 0 1), .int (ra h 26 0 2)]) (rest := []) (cX8_add_ok g 8 (ra h 26 0 0) (ra h 26 0 1) (ra h 26 0 2) h) vl_X5_175 rfl (Nat.le_of_ble_eq_true rfl) (Nat.le_of_ble_eq_true rfl) dX5_tell_114 rfl (fun h6 => ?_)
    refine s_goto (tgt := 210) dX5_tell_117 (by decide) ?_
    exact s_vret rfl dX5_tell_210
  refine s_tab 3 (tgt := 182) dX5_tell_1 (by decide) (by decide) rfl (by decide) ?_ (fun e7 => ?_)
  ·
    refine s_aload_n 0 dX5_tell_182 rfl rfl ?_
    refine s_getr (s0 := 0) dX5_tell_183 fl_X5_21 ?_
    refine s_iconst (v := 0) dX5_tell_186 rfl ?_
    refine s_iconst (v := (-1)) dX5_tell_187 rfl ?_
    refine s_callVv (s0 := 8) (As := [.int 0, .int (-1)]) (rest := []) (cX7_add_ok g 8 0 (-1) h) vl_X5_182 rfl (Nat.le_of_ble_eq_true rfl) (Nat.le_of_ble_eq_true rfl) dX5_tell_188 rfl (fun h8 => ?_)
    refine s_goto (tgt := 210) dX5_tell_191 (by decide) ?_
    exact s_vret rfl dX5_tell_210
  refine s_tab 4 (tgt := 194) dX5_tell_1 (by decide) (by decide) rfl (by decide) ?_ (fun e9 => ?_)
  ·
    refine s_aload_n 0 dX5_tell_194 rfl rfl ?_
    refine s_getr (s0 := 0) dX5_tell_195 fl_X5_21 ?_
    refine s_iload_n 1 dX5_tell_198 rfl rfl ?_
    refine s_iconst (v := 3) dX5_tell_199 rfl ?_
    refine s_isub dX5_tell_200 ?_
    refine s_aload_n 0 dX5_tell_201 rfl rfl ?_
    refine s_getr (s0 := 0) dX5_tell_202 fl_X5_55 ?_
    refine s_iconst (v := 0) dX5_tell_205 rfl ?_
    refine s_iald (s0 := 0) ka_26 dX5_tell_206 ?_
    refine s_callVv (s0 := 8) (As := [.int (l1 - (3 : Int32)), .int (ra h 26 0 0)]) (rest := []) (cX7_add_ok g 8 (l1 - (3 : Int32)) (ra h 26 0 0) h) vl_X5_182 rfl (Nat.le_of_ble_eq_true rfl) (Nat.le_of_ble_eq_true rfl) dX5_tell_207 rfl (fun h10 => ?_)
    exact s_vret rfl dX5_tell_210
  refine s_tab 5 (tgt := 194) dX5_tell_1 (by decide) (by decide) rfl (by decide) ?_ (fun e11 => ?_)
  ·
    refine s_aload_n 0 dX5_tell_194 rfl rfl ?_
    refine s_getr (s0 := 0) dX5_tell_195 fl_X5_21 ?_
    refine s_iload_n 1 dX5_tell_198 rfl rfl ?_
    refine s_iconst (v := 3) dX5_tell_199 rfl ?_
    refine s_isub dX5_tell_200 ?_
    refine s_aload_n 0 dX5_tell_201 rfl rfl ?_
    refine s_getr (s0 := 0) dX5_tell_202 fl_X5_55 ?_
    refine s_iconst (v := 0) dX5_tell_205 rfl ?_
    refine s_iald (s0 := 0) ka_26 dX5_tell_206 ?_
    refine s_callVv (s0 := 8) (As := [.int (l1 - (3 : Int32)), .int (ra h 26 0 0)]) (rest := []) (cX7_add_ok g 8 (l1 - (3 : Int32)) (ra h 26 0 0) h) vl_X5_182 rfl (Nat.le_of_ble_eq_true rfl) (Nat.le_of_ble_eq_true rfl) dX5_tell_207 rfl (fun h12 => ?_)
    exact s_vret rfl dX5_tell_210
  refine s_tab 6 (tgt := 194) dX5_tell_1 (by decide) (by decide) rfl (by decide) ?_ (fun e13 => ?_)
  ·
    refine s_aload_n 0 dX5_tell_194 rfl rfl ?_
    refine s_getr (s0 := 0) dX5_tell_195 fl_X5_21 ?_
    refine s_iload_n 1 dX5_tell_198 rfl rfl ?_
    refine s_iconst (v := 3) dX5_tell_199 rfl ?_
    refine s_isub dX5_tell_200 ?_
    refine s_aload_n 0 dX5_tell_201 rfl rfl ?_
    refine s_getr (s0 := 0) dX5_tell_202 fl_X5_55 ?_
    refine s_iconst (v := 0) dX5_tell_205 rfl ?_
    refine s_iald (s0 := 0) ka_26 dX5_tell_206 ?_
    refine s_callVv (s0 := 8) (As := [.int (l1 - (3 : Int32)), .int (ra h 26 0 0)]) (rest := []) (cX7_add_ok g 8 (l1 - (3 : Int32)) (ra h 26 0 0) h) vl_X5_182 rfl (Nat.le_of_ble_eq_true rfl) (Nat.le_of_ble_eq_true rfl) dX5_tell_207 rfl (fun h14 => ?_)
    exact s_vret rfl dX5_tell_210
  refine s_tab 7 (tgt := 194) dX5_tell_1 (by decide) (by decide) rfl (by decide) ?_ (fun e15 => ?_)
  ·
    refine s_aload_n 0 dX5_tell_194 rfl rfl ?_
    refine s_getr (s0 := 0) dX5_tell_195 fl_X5_21 ?_
    refine s_iload_n 1 dX5_tell_198 rfl rfl ?_
    refine s_iconst (v := 3) dX5_tell_199 rfl ?_
    refine s_isub dX5_tell_200 ?_
    refine s_aload_n 0 dX5_tell_201 rfl rfl ?_
    refine s_getr (s0 := 0) dX5_tell_202 fl_X5_55 ?_
    refine s_iconst (v := 0) dX5_tell_205 rfl ?_
    refine s_iald (s0 := 0) ka_26 dX5_tell_206 ?_
    refine s_callVv (s0 := 8) (As := [.int (l1 - (3 : Int32)), .int (ra h 26 0 0)]) (rest := []) (cX7_add_ok g 8 (l1 - (3 : Int32)) (ra h 26 0 0) h) vl_X5_182 rfl (Nat.le_of_ble_eq_true rfl) (Nat.le_of_ble_eq_true rfl) dX5_tell_207 rfl (fun h16 => ?_)
    exact s_vret rfl dX5_tell_210
  refine s_tab 8 (tgt := 120) dX5_tell_1 (by decide) (by decide) rfl (by decide) ?_ (fun e17 => ?_)
  ·
    refine s_aload_n 0 dX5_tell_120 rfl rfl ?_
    refine s_getr (s0 := 0) dX5_tell_121 fl_X5_28 ?_
    refine s_aload_n 0 dX5_tell_124 rfl rfl ?_
    refine s_getr (s0 := 0) dX5_tell_125 fl_X5_55 ?_
    refine s_iconst (v := 0) dX5_tell_128 rfl ?_
    refine s_iald (s0 := 0) ka_26 dX5_tell_129 ?_
    refine s_puti (s0 := 8) dX5_tell_130 fl_X5_179 (fun h18 => ?_)
    refine s_goto (tgt := 210) dX5_tell_133 (by decide) ?_
    exact s_vret rfl dX5_tell_210
  refine s_tab 9 (tgt := 136) dX5_tell_1 (by decide) (by decide) rfl (by decide) ?_ (fun e19 => ?_)
  ·
    refine s_aload_n 0 dX5_tell_136 rfl rfl ?_
    refine s_getr (s0 := 0) dX5_tell_137 fl_X5_28 ?_
    refine s_iconst (v := 1) dX5_tell_140 rfl ?_
    refine s_aload_n 0 dX5_tell_141 rfl rfl ?_
    refine s_getr (s0 := 0) dX5_tell_142 fl_X5_55 ?_
    refine s_iconst (v := 0) dX5_tell_145 rfl ?_
    refine s_iald (s0 := 0) ka_26 dX5_tell_146 ?_
    refine s_aload_n 0 dX5_tell_147 rfl rfl ?_
    refine s_getr (s0 := 0) dX5_tell_148 fl_X5_55 ?_
    refine s_iconst (v := 1) dX5_tell_151 rfl ?_
    refine s_iald (s0 := 0) ka_26 dX5_tell_152 ?_
    refine s_callVv (s0 := 8) (As := [.int 1, .int (ra h 26 0 0), .int (ra h 26 0 1)]) (rest := []) (cX3_add_ok g 8 1 (ra h 26 0 0) (ra h 26 0 1) h) vl_X5_181 rfl (Nat.le_of_ble_eq_true rfl) (Nat.le_of_ble_eq_true rfl) dX5_tell_153 rfl (fun h20 => ?_)
    refine s_goto (tgt := 210) dX5_tell_156 (by decide) ?_
    exact s_vret rfl dX5_tell_210
  refine s_tab 10 (tgt := 159) dX5_tell_1 (by decide) (by decide) rfl (by decide) ?_ (fun e21 => ?_)
  ·
    refine s_aload_n 0 dX5_tell_159 rfl rfl ?_
    refine s_getr (s0 := 0) dX5_tell_160 fl_X5_28 ?_
    refine s_iconst (v := 0) dX5_tell_163 rfl ?_
    refine s_aload_n 0 dX5_tell_164 rfl rfl ?_
    refine s_getr (s0 := 0) dX5_tell_165 fl_X5_55 ?_
    refine s_iconst (v := 0) dX5_tell_168 rfl ?_
    refine s_iald (s0 := 0) ka_26 dX5_tell_169 ?_
    refine s_aload_n 0 dX5_tell_170 rfl rfl ?_
    refine s_getr (s0 := 0) dX5_tell_171 fl_X5_55 ?_
    refine s_iconst (v := 1) dX5_tell_174 rfl ?_
    refine s_iald (s0 := 0) ka_26 dX5_tell_175 ?_
    refine s_callVv (s0 := 8) (As := [.int 0, .int (ra h 26 0 0), .int (ra h 26 0 1)]) (rest := []) (cX3_add_ok g 8 0 (ra h 26 0 0) (ra h 26 0 1) h) vl_X5_181 rfl (Nat.le_of_ble_eq_true rfl) (Nat.le_of_ble_eq_true rfl) dX5_tell_176 rfl (fun h22 => ?_)
    refine s_goto (tgt := 210) dX5_tell_179 (by decide) ?_
    exact s_vret rfl dX5_tell_210
  have e1 := lv_neT e1 (show (0 : Int32).toInt = 0 from rfl)
  have e3 := lv_neT e3 (show (1 : Int32).toInt = 1 from rfl)
  have e5 := lv_neT e5 (show (2 : Int32).toInt = 2 from rfl)
  have e7 := lv_neT e7 (show (3 : Int32).toInt = 3 from rfl)
  have e9 := lv_neT e9 (show (4 : Int32).toInt = 4 from rfl)
  have e11 := lv_neT e11 (show (5 : Int32).toInt = 5 from rfl)
  have e13 := lv_neT e13 (show (6 : Int32).toInt = 6 from rfl)
  have e15 := lv_neT e15 (show (7 : Int32).toInt = 7 from rfl)
  have e17 := lv_neT e17 (show (8 : Int32).toInt = 8 from rfl)
  have e19 := lv_neT e19 (show (9 : Int32).toInt = 9 from rfl)
  have e21 := lv_neT e21 (show (10 : Int32).toInt = 10 from rfl)
  refine s_tabd (tgt := 194) dX5_tell_1 (by omega) (by decide) ?_
  refine s_aload_n 0 dX5_tell_194 rfl rfl ?_
  refine s_getr (s0 := 0) dX5_tell_195 fl_X5_21 ?_
  refine s_iload_n 1 dX5_tell_198 rfl rfl ?_
  refine s_iconst (v := 3) dX5_tell_199 rfl ?_
  refine s_isub dX5_tell_200 ?_
  refine s_aload_n 0 dX5_tell_201 rfl rfl ?_
  refine s_getr (s0 := 0) dX5_tell_202 fl_X5_55 ?_
  refine s_iconst (v := 0) dX5_tell_205 rfl ?_
  refine s_iald (s0 := 0) ka_26 dX5_tell_206 ?_
  refine s_callVv (s0 := 8) (As := [.int (l1 - (3 : Int32)), .int (ra h 26 0 0)]) (rest := []) (cX7_add_ok g 8 (l1 - (3 : Int32)) (ra h 26 0 0) h) vl_X5_182 rfl (Nat.le_of_ble_eq_true rfl) (Nat.le_of_ble_eq_true rfl) dX5_tell_207 rfl (fun h23 => ?_)
  exact s_vret rfl dX5_tell_210
def fX5_readLine_l31 (l2 : Int32) (K : Hp → Option (Int32 × Hp)) (rec : Int32 → Hp → Option (Int32 × Hp)) (l3 : Int32) (h : Hp) : Option (Int32 × Hp) :=
  bnd (fX5_numbersOf l2 h) fun x10 h9 =>
  if x10 ≤ l3 then (K h9)
  else (bnd (fX5_nextToken h9) fun _ h11 =>
  if (rd h11 3 0 8) = 2 then (bnd (fX5_numberRead h11) fun x13 h12 =>
  ck (ib l3 3) (lt (wa h12 26 0 l3 x13) fun h14 =>
  bnd (fX5_canBe l2 l3 h14) fun x16 h15 =>
  jn (κ := Hp → Option (Int32 × Hp)) (fun h18 => lt (l3 + 1) fun x19 =>
  rec x19 h18) fun k80_16 =>
  if x16 = 0 then (bnd (fX5_blame 2 h15) fun _ h20 =>
  k80_16 h20)
  else (k80_16 h15)))
  else (bnd (fX5_refuse h11) fun x22 h21 =>
  ck (zk x22) (some (x22, h21))))
def fX5_readLine (l1 : Int32) (h : Hp) : Option (Int32 × Hp) :=
  bnd (fX5_headOf l1 h) fun x2 h1 =>
  if x2 = (-1) then (bnd (fX5_refuse h1) fun x4 h3 =>
  ck (zk x4) (some (x4, h3)))
  else (bnd (fX5_isFull x2 h1) fun x6 h5 =>
  jn (κ := Hp → Option (Int32 × Hp)) (fun h8 => itr1 (fX5_readLine_l31 x2 (fun h23 => bnd (fX5_nextToken h23) fun _ h24 =>
  if (rd h24 3 0 8) = 3 then (bnd (fX5_tell x2 h24) fun _ h25 =>
  ck (zk 1) (some (1, h25)))
  else (bnd (fX5_refuse h24) fun x27 h26 =>
  ck (zk x27) (some (x27, h26))))) FU 0 h8) fun k29_6 =>
  if x6 = 0 then (k29_6 h5)
  else (bnd (fX5_blame 3 h5) fun _ h28 =>
  k29_6 h28))
set_option maxHeartbeats 4000000 in
set_option maxRecDepth 100000 in
theorem sX5_readLine_l31 (g : GE) (l2 : Int32) (K : Hp → Option (Int32 × Hp)) (hK : ∀ (h : Hp), Sim cvi 0 g mX5_readLine 8 86 [(0, rv g 3 0), (2, .int l2)] [] h (K  h)) : ∀ (n : Nat) (l3 : Int32) (h : Hp), Sim cvi 0 g mX5_readLine 8 31 [(0, rv g 3 0), (2, .int l2), (3, .int l3)] [] h (itr1 (fX5_readLine_l31 l2 K) n l3 h) := by
  refine s_itr1 (fun l3 h o => Sim cvi 0 g mX5_readLine 8 31 [(0, rv g 3 0), (2, .int l2), (3, .int l3)] [] h o) (fun _ _ => s_none) ?_
  intro rec hrec l3 h
  unfold fX5_readLine_l31
  refine s_iload_n 2 dX5_readLine_31 rfl rfl ?_
  refine s_iload_n 1 dX5_readLine_32 rfl rfl ?_
  refine s_callSi (As := [.int l2]) (rest := [.int l3]) (cX5_numbersOf_ok g l2 h) sl_X5_98 rfl (Nat.le_of_ble_eq_true rfl) (Nat.le_of_ble_eq_true rfl) dX5_readLine_33 rfl (fun x10 h9 => ?_)
  refine s_icmp_ge (tgt := 86) dX5_readLine_36 (by decide) ?_ ?_
  ·
    refine s_sub [0, 1] rfl ?_
    exact hK h9
  ·
    refine s_aload_n 0 dX5_readLine_39 rfl rfl ?_
    refine s_callVv (s0 := 0) (As := []) (rest := []) (cX5_nextToken_ok g h9) vl_X5_76 rfl (Nat.le_of_ble_eq_true rfl) (Nat.le_of_ble_eq_true rfl) dX5_readLine_40 rfl (fun h11 => ?_)
    refine s_aload_n 0 dX5_readLine_43 rfl rfl ?_
    refine s_geti (s0 := 0) dX5_readLine_44 fl_X5_49 ?_
    refine s_iconst (v := 2) dX5_readLine_47 rfl ?_
    refine s_icmp_eq (tgt := 56) dX5_readLine_48 (by decide) ?_ ?_
    ·
      refine s_aload_n 0 dX5_readLine_56 rfl rfl ?_
      refine s_getr (s0 := 0) dX5_readLine_57 fl_X5_55 ?_
      refine s_iload_n 2 dX5_readLine_60 rfl rfl ?_
      refine s_aload_n 0 dX5_readLine_61 rfl rfl ?_
      refine s_callVi (s0 := 0) (As := []) (rest := [.int l3, rv g 26 0]) (cX5_numberRead_ok g h11) vl_X5_101 rfl (Nat.le_of_ble_eq_true rfl) (Nat.le_of_ble_eq_true rfl) dX5_readLine_62 rfl (fun x13 h12 => ?_)
      refine s_iast (s0 := 0) ka_26 dX5_readLine_65 (fun h14 => ?_)
      refine s_aload_n 0 dX5_readLine_66 rfl rfl ?_
      refine s_iload_n 1 dX5_readLine_67 rfl rfl ?_
      refine s_iload_n 2 dX5_readLine_68 rfl rfl ?_
      refine s_callVi (s0 := 0) (As := [.int l2, .int l3]) (rest := []) (cX5_canBe_ok g l2 l3 h14) vl_X5_105 rfl (Nat.le_of_ble_eq_true rfl) (Nat.le_of_ble_eq_true rfl) dX5_readLine_69 rfl (fun x16 h15 => ?_)
      refine s_jn (fun (k80_16 : Hp → Option (Int32 × Hp)) => ∀ (h18 : Hp), Sim cvi 0 g mX5_readLine 8 80 [(0, rv g 3 0), (2, .int l2), (3, .int l3)] [] h18 (k80_16 h18)) (fun h18 => ?_) (fun k80_16 Hk80_16 => ?_)
      ·
        refine s_iincl 2 (w := 1) (fun x19 => [(3, .int x19), (0, rv g 3 0), (2, .int l2)]) dX5_readLine_80 rfl rfl (by decide) (fun _ => rfl) (fun x19 => ?_)
        refine s_goto (tgt := 31) dX5_readLine_83 (by decide) ?_
        refine s_sub [1, 2, 0] rfl ?_
        exact hrec x19 h18
      refine s_if_ne (tgt := 80) dX5_readLine_72 (by decide) ?_ ?_
      ·
        refine s_aload_n 0 dX5_readLine_75 rfl rfl ?_
        refine s_iconst (v := 2) dX5_readLine_76 rfl ?_
        refine s_callVv (s0 := 0) (As := [.int 2]) (rest := []) (cX5_blame_ok g 2 h15) vl_X5_94 rfl (Nat.le_of_ble_eq_true rfl) (Nat.le_of_ble_eq_true rfl) dX5_readLine_77 rfl (fun h20 => ?_)
        exact Hk80_16 h20
      ·
        exact Hk80_16 h15
    ·
      refine s_aload_n 0 dX5_readLine_51 rfl rfl ?_
      refine s_callVi (s0 := 0) (As := []) (rest := []) (cX5_refuse_ok g h11) vl_X5_87 rfl (Nat.le_of_ble_eq_true rfl) (Nat.le_of_ble_eq_true rfl) dX5_readLine_52 rfl (fun x22 h21 => ?_)
      exact s_zret rfl dX5_readLine_55
set_option maxHeartbeats 4000000 in
set_option maxRecDepth 100000 in
theorem cX5_readLine_ok (g : GE) (l1 : Int32) (h : Hp) : Con cvi 0 g mX5_readLine 8 [rv g 3 0, .int l1] h (fX5_readLine l1 h) := by
  refine Con.of (by decide +kernel) (Nat.le_of_ble_eq_true rfl) ?_
  show Sim cvi 0 g mX5_readLine 8 0 [(0, rv g 3 0), (1, .int l1)] [] h _
  unfold fX5_readLine
  refine s_aload_n 0 dX5_readLine_0 rfl rfl ?_
  refine s_iload_n 1 dX5_readLine_1 rfl rfl ?_
  refine s_callVi (s0 := 0) (As := [.int l1]) (rest := []) (cX5_headOf_ok g l1 h) vl_X5_83 rfl (Nat.le_of_ble_eq_true rfl) (Nat.le_of_ble_eq_true rfl) dX5_readLine_2 rfl (fun x2 h1 => ?_)
  refine s_istore_n (ls' := [(2, .int x2), (0, rv g 3 0), (1, .int l1)]) dX5_readLine_5 rfl (by decide) rfl ?_
  refine s_iload_n 0 dX5_readLine_6 rfl rfl ?_
  refine s_iconst (v := (-1)) dX5_readLine_7 rfl ?_
  refine s_icmp_ne (tgt := 16) dX5_readLine_8 (by decide) ?_ ?_
  ·
    refine s_aload_n 1 dX5_readLine_11 rfl rfl ?_
    refine s_callVi (s0 := 0) (As := []) (rest := []) (cX5_refuse_ok g h1) vl_X5_87 rfl (Nat.le_of_ble_eq_true rfl) (Nat.le_of_ble_eq_true rfl) dX5_readLine_12 rfl (fun x4 h3 => ?_)
    exact s_zret rfl dX5_readLine_15
  ·
    refine s_aload_n 1 dX5_readLine_16 rfl rfl ?_
    refine s_iload_n 0 dX5_readLine_17 rfl rfl ?_
    refine s_callVi (s0 := 0) (As := [.int x2]) (rest := []) (cX5_isFull_ok g x2 h1) vl_X5_91 rfl (Nat.le_of_ble_eq_true rfl) (Nat.le_of_ble_eq_true rfl) dX5_readLine_18 rfl (fun x6 h5 => ?_)
    refine s_jn (fun (k29_6 : Hp → Option (Int32 × Hp)) => ∀ (h8 : Hp), Sim cvi 0 g mX5_readLine 8 29 [(0, rv g 3 0), (2, .int x2)] [] h8 (k29_6 h8)) (fun h8 => ?_) (fun k29_6 Hk29_6 => ?_)
    ·
      refine s_iconst (v := 0) dX5_readLine_29 rfl ?_
      refine s_istore_n (ls' := [(3, .int 0), (0, rv g 3 0), (2, .int x2)]) dX5_readLine_30 rfl (by decide) rfl ?_
      refine s_sub (ls' := [(0, rv g 3 0), (2, .int x2), (3, .int 0)]) [1, 2, 0] rfl ?_
      refine sX5_readLine_l31 g x2 _ (fun h23 => ?_) FU 0 h8
      refine s_aload_n 0 dX5_readLine_86 rfl rfl ?_
      refine s_callVv (s0 := 0) (As := []) (rest := []) (cX5_nextToken_ok g h23) vl_X5_76 rfl (Nat.le_of_ble_eq_true rfl) (Nat.le_of_ble_eq_true rfl) dX5_readLine_87 rfl (fun h24 => ?_)
      refine s_aload_n 0 dX5_readLine_90 rfl rfl ?_
      refine s_geti (s0 := 0) dX5_readLine_91 fl_X5_49 ?_
      refine s_iconst (v := 3) dX5_readLine_94 rfl ?_
      refine s_icmp_eq (tgt := 103) dX5_readLine_95 (by decide) ?_ ?_
      ·
        refine s_aload_n 0 dX5_readLine_103 rfl rfl ?_
        refine s_iload_n 1 dX5_readLine_104 rfl rfl ?_
        refine s_callVv (s0 := 0) (As := [.int x2]) (rest := []) (cX5_tell_ok g x2 h24) vl_X5_109 rfl (Nat.le_of_ble_eq_true rfl) (Nat.le_of_ble_eq_true rfl) dX5_readLine_105 rfl (fun h25 => ?_)
        refine s_iconst (v := 1) dX5_readLine_108 rfl ?_
        exact s_zret rfl dX5_readLine_109
      ·
        refine s_aload_n 0 dX5_readLine_98 rfl rfl ?_
        refine s_callVi (s0 := 0) (As := []) (rest := []) (cX5_refuse_ok g h24) vl_X5_87 rfl (Nat.le_of_ble_eq_true rfl) (Nat.le_of_ble_eq_true rfl) dX5_readLine_99 rfl (fun x27 h26 => ?_)
        exact s_zret rfl dX5_readLine_102
    refine s_if_eq (tgt := 29) dX5_readLine_21 (by decide) ?_ ?_
    ·
      refine s_sub [1, 0] rfl ?_
      exact Hk29_6 h5
    ·
      refine s_aload_n 1 dX5_readLine_24 rfl rfl ?_
      refine s_iconst (v := 3) dX5_readLine_25 rfl ?_
      refine s_callVv (s0 := 0) (As := [.int 3]) (rest := []) (cX5_blame_ok g 3 h5) vl_X5_94 rfl (Nat.le_of_ble_eq_true rfl) (Nat.le_of_ble_eq_true rfl) dX5_readLine_26 rfl (fun h28 => ?_)
      refine s_sub [1, 0] rfl ?_
      exact Hk29_6 h28
def fX8_clear (a0 : Nat) (h : Hp) : Option (Unit × Hp) :=
  lt (wr h 6 a0 0 2) fun h1 =>
  lt (wr h1 6 a0 1 0) fun h2 =>
  lt (wr h2 6 a0 2 0) fun h3 =>
  some ((), h3)
set_option maxHeartbeats 4000000 in
set_option maxRecDepth 100000 in
theorem cX8_clear_ok (g : GE) (a0 : Nat) (h : Hp) : Con cvv 0 g mX8_clear 2 [rv g 6 a0] h (fX8_clear a0 h) := by
  refine Con.of (by decide +kernel) (Nat.le_of_ble_eq_true rfl) ?_
  show Sim cvv 0 g mX8_clear 2 0 [(0, rv g 6 a0)] [] h _
  unfold fX8_clear
  refine s_aload_n 0 dX8_clear_0 rfl rfl ?_
  refine s_iconst (v := 2) dX8_clear_1 rfl ?_
  refine s_puti (s0 := a0) dX8_clear_2 fl_X8_9 (fun h1 => ?_)
  refine s_aload_n 0 dX8_clear_5 rfl rfl ?_
  refine s_iconst (v := 0) dX8_clear_6 rfl ?_
  refine s_puti (s0 := a0) dX8_clear_7 fl_X8_15 (fun h2 => ?_)
  refine s_aload_n 0 dX8_clear_10 rfl rfl ?_
  refine s_iconst (v := 0) dX8_clear_11 rfl ?_
  refine s_puti (s0 := a0) dX8_clear_12 fl_X8_18 (fun h3 => ?_)
  exact s_vret rfl dX8_clear_15
def fX5_readTape_l63 (l2 : Int32) (K : Hp → Option (Unit × Hp)) (rec : Int32 → Hp → Option (Unit × Hp)) (l3 : Int32) (h : Hp) : Option (Unit × Hp) :=
  if (600 : Int32) < l3 then (K h)
  else (bnd (fX5_nextToken h) fun _ h10 =>
  if (rd h10 3 0 8) = 0 then (some ((), h10))
  else (bnd (fX5_readLine l2 h10) fun x12 h11 =>
  if x12 = 0 then (some ((), h11))
  else (lt (l3 + 1) fun x13 =>
  rec x13 h11)))
def fX5_readTape (a1 : Nat) (l2 : Int32) (h : Hp) : Option (Unit × Hp) :=
  ck (decide (a1 % cnt 36 = 0)) (lt (wr h 3 0 5 1) fun h1 =>
  ck (decide (rd h1 3 0 5 = 1)) (
  lt (if 600 < (rd h1 7 a1 1) then 600 else (rd h1 7 a1 1)) fun x2 =>
  lt (wr h1 3 0 6 x2) fun h3 =>
  lt (wr h3 3 0 7 0) fun h4 =>
  lt (wr h4 3 0 3 0) fun h5 =>
  lt (wr h5 3 0 4 (-1)) fun h6 =>
  bnd (fX8_clear 8 h6) fun _ h7 =>
  lt (wr h7 5 8 0 0) fun h8 =>
  bnd (fX3_clear 8 h8) fun _ h9 =>
  itr1 (fX5_readTape_l63 l2 (fun h14 => some ((), h14))) FU 0 h9))
set_option maxHeartbeats 4000000 in
set_option maxRecDepth 100000 in
theorem sX5_readTape_l63 (g : GE) (l2 : Int32) (K : Hp → Option (Unit × Hp)) (hK : ∀ (h : Hp), Sim cvv 0 g mX5_readTape 9 96 [] [] h (K  h)) : ∀ (n : Nat) (l3 : Int32) (h : Hp), Sim cvv 0 g mX5_readTape 9 63 [(0, rv g 3 0), (2, .int l2), (3, .int l3)] [] h (itr1 (fX5_readTape_l63 l2 K) n l3 h) := by
  refine s_itr1 (fun l3 h o => Sim cvv 0 g mX5_readTape 9 63 [(0, rv g 3 0), (2, .int l2), (3, .int l3)] [] h o) (fun _ _ => s_none) ?_
  intro rec hrec l3 h
  unfold fX5_readTape_l63
  refine s_iload_n 2 dX5_readTape_63 rfl rfl ?_
  refine s_sipush (v := 600) dX5_readTape_64 rfl ?_
  refine s_icmp_gt (tgt := 96) dX5_readTape_67 (by decide) ?_ ?_
  ·
    refine s_sub [] rfl ?_
    exact hK h
  ·
    refine s_aload_n 0 dX5_readTape_70 rfl rfl ?_
    refine s_callVv (s0 := 0) (As := []) (rest := []) (cX5_nextToken_ok g h) vl_X5_76 rfl (Nat.le_of_ble_eq_true rfl) (Nat.le_of_ble_eq_true rfl) dX5_readTape_71 rfl (fun h10 => ?_)
    refine s_aload_n 0 dX5_readTape_74 rfl rfl ?_
    refine s_geti (s0 := 0) dX5_readTape_75 fl_X5_49 ?_
    refine s_if_eq (tgt := 89) dX5_readTape_78 (by decide) ?_ ?_
    ·
      exact s_vret rfl dX5_readTape_89
    ·
      refine s_aload_n 0 dX5_readTape_81 rfl rfl ?_
      refine s_iload_n 1 dX5_readTape_82 rfl rfl ?_
      refine s_callVi (s0 := 0) (As := [.int l2]) (rest := []) (cX5_readLine_ok g l2 h10) vl_X5_79 rfl (Nat.le_of_ble_eq_true rfl) (Nat.le_of_ble_eq_true rfl) dX5_readTape_83 rfl (fun x12 h11 => ?_)
      refine s_if_ne (tgt := 90) dX5_readTape_86 (by decide) ?_ ?_
      ·
        exact s_vret rfl dX5_readTape_89
      ·
        refine s_iincl 2 (w := 1) (fun x13 => [(3, .int x13), (0, rv g 3 0), (2, .int l2)]) dX5_readTape_90 rfl rfl (by decide) (fun _ => rfl) (fun x13 => ?_)
        refine s_goto (tgt := 63) dX5_readTape_93 (by decide) ?_
        refine s_sub [1, 2, 0] rfl ?_
        exact hrec x13 h11
set_option maxHeartbeats 4000000 in
set_option maxRecDepth 100000 in
theorem cX5_readTape_ok (g : GE) (a1 : Nat) (l2 : Int32) (h : Hp) : Con cvv 0 g mX5_readTape 9 [rv g 3 0, rv g 7 a1, .int l2] h (fX5_readTape a1 l2 h) := by
  refine Con.of (by decide +kernel) (Nat.le_of_ble_eq_true rfl) ?_
  show Sim cvv 0 g mX5_readTape 9 0 [(0, rv g 3 0), (1, rv g 7 a1), (2, .int l2)] [] h _
  unfold fX5_readTape
  refine s_aload_n 0 dX5_readTape_0 rfl rfl ?_
  refine s_aload_n 1 dX5_readTape_1 rfl rfl ?_
  refine s_getr1 (k2 := 36) (s0 := a1) rfl dX5_readTape_2 fl_X5_59 ?_
  refine s_putt (s0 := 0) (s1 := a1) rfl rfl dX5_readTape_5 fl_X5_39 (fun h1 => ?_)
  refine s_aload_n 0 dX5_readTape_8 rfl rfl ?_
  refine s_aload_n 1 dX5_readTape_9 rfl rfl ?_
  refine s_geti (s0 := a1) dX5_readTape_10 fl_X5_62 ?_
  refine s_aload_n 0 dX5_readTape_13 rfl rfl ?_
  refine s_gett (s0 := 0) dX5_readTape_14 fl_X5_39 ?_
  refine s_alen1 (v := 600) ka_36 rfl dX5_readTape_17 ?_
  refine s_mmin w_2_226 mw_min (Nat.le_of_ble_eq_true rfl) (Nat.le_of_ble_eq_true rfl) dX5_readTape_18 ?_
  refine s_leti (fun x2 => ?_)
  refine s_puti (s0 := 0) dX5_readTape_21 fl_X5_43 (fun h3 => ?_)
  refine s_aload_n 0 dX5_readTape_24 rfl rfl ?_
  refine s_iconst (v := 0) dX5_readTape_25 rfl ?_
  refine s_puti (s0 := 0) dX5_readTape_26 fl_X5_46 (fun h4 => ?_)
  refine s_aload_n 0 dX5_readTape_29 rfl rfl ?_
  refine s_iconst (v := 0) dX5_readTape_30 rfl ?_
  refine s_puti (s0 := 0) dX5_readTape_31 fl_X5_32 (fun h5 => ?_)
  refine s_aload_n 0 dX5_readTape_34 rfl rfl ?_
  refine s_iconst (v := (-1)) dX5_readTape_35 rfl ?_
  refine s_puti (s0 := 0) dX5_readTape_36 fl_X5_36 (fun h6 => ?_)
  refine s_aload_n 0 dX5_readTape_39 rfl rfl ?_
  refine s_getr (s0 := 0) dX5_readTape_40 fl_X5_12 ?_
  refine s_callVv (s0 := 8) (As := []) (rest := []) (cX8_clear_ok g 8 h6) vl_X5_69 rfl (Nat.le_of_ble_eq_true rfl) (Nat.le_of_ble_eq_true rfl) dX5_readTape_43 rfl (fun h7 => ?_)
  refine s_aload_n 0 dX5_readTape_46 rfl rfl ?_
  refine s_getr (s0 := 0) dX5_readTape_47 fl_X5_21 ?_
  refine s_iconst (v := 0) dX5_readTape_50 rfl ?_
  refine s_puti (s0 := 8) dX5_readTape_51 fl_X5_72 (fun h8 => ?_)
  refine s_aload_n 0 dX5_readTape_54 rfl rfl ?_
  refine s_getr (s0 := 0) dX5_readTape_55 fl_X5_28 ?_
  refine s_callVv (s0 := 8) (As := []) (rest := []) (cX3_clear_ok g 8 h8) vl_X5_75 rfl (Nat.le_of_ble_eq_true rfl) (Nat.le_of_ble_eq_true rfl) dX5_readTape_58 rfl (fun h9 => ?_)
  refine s_iconst (v := 0) dX5_readTape_61 rfl ?_
  refine s_istore_n (ls' := [(3, .int 0), (0, rv g 3 0), (1, rv g 7 a1), (2, .int l2)]) dX5_readTape_62 rfl (by decide) rfl ?_
  refine s_sub (ls' := [(0, rv g 3 0), (2, .int l2), (3, .int 0)]) [1, 3, 0] rfl ?_
  refine sX5_readTape_l63 g l2 _ (fun h14 => ?_) FU 0 h9
  exact s_vret rfl dX5_readTape_96
def fX11_text (l1 : Int32) (l2 : Int32) (h : Hp) : Option (Int32 × Hp) :=
  bnd (fX11_numberFor l1 l2 h) fun x2 h1 =>
  if x2 = (-2) then (lt (wr h1 7 0 1 0) fun h3 =>
  lt (wr h3 7 0 2 0) fun h4 =>
  lt (wr h4 7 0 3 (-1)) fun h5 =>
  some ((-2), h5))
  else (bnd (fX5_readTape 0 l1 h1) fun _ h6 =>
  lt (wr h6 7 0 1 0) fun h7 =>
  lt (wr h7 7 0 2 (rd h7 3 0 3)) fun h8 =>
  lt (wr h8 7 0 3 (rd h8 3 0 4)) fun h9 =>
  if (rd h9 3 0 3) = 0 then (bnd (fX11_takeRead l1 x2 h9) fun _ h10 =>
  some (x2, h10))
  else (some ((-1), h9)))
set_option maxHeartbeats 4000000 in
set_option maxRecDepth 100000 in
theorem cX11_text_ok (g : GE) (l1 : Int32) (l2 : Int32) (h : Hp) : Con cvi 0 g mX11_text 10 [rv g 9 0, .int l1, .int l2] h (fX11_text l1 l2 h) := by
  refine Con.of (by decide +kernel) (Nat.le_of_ble_eq_true rfl) ?_
  show Sim cvi 0 g mX11_text 10 0 [(0, rv g 9 0), (1, .int l1), (2, .int l2)] [] h _
  unfold fX11_text
  refine s_aload_n 0 dX11_text_0 rfl rfl ?_
  refine s_iload_n 1 dX11_text_1 rfl rfl ?_
  refine s_iload_n 2 dX11_text_2 rfl rfl ?_
  refine s_callVi (s0 := 0) (As := [.int l1, .int l2]) (rest := []) (cX11_numberFor_ok g l1 l2 h) vl_X11_65 rfl (Nat.le_of_ble_eq_true rfl) (Nat.le_of_ble_eq_true rfl) dX11_text_3 rfl (fun x2 h1 => ?_)
  refine s_istore_n (ls' := [(3, .int x2), (0, rv g 9 0), (1, .int l1), (2, .int l2)]) dX11_text_6 rfl (by decide) rfl ?_
  refine s_iload_n 0 dX11_text_7 rfl rfl ?_
  refine s_bipush (v := (-2)) dX11_text_8 rfl ?_
  refine s_icmp_ne (tgt := 40) dX11_text_10 (by decide) ?_ ?_
  ·
    refine s_aload_n 1 dX11_text_13 rfl rfl ?_
    refine s_getr (s0 := 0) dX11_text_14 fl_X11_10 ?_
    refine s_iconst (v := 0) dX11_text_17 rfl ?_
    refine s_puti (s0 := 0) dX11_text_18 fl_X11_57 (fun h3 => ?_)
    refine s_aload_n 1 dX11_text_21 rfl rfl ?_
    refine s_getr (s0 := 0) dX11_text_22 fl_X11_10 ?_
    refine s_iconst (v := 0) dX11_text_25 rfl ?_
    refine s_puti (s0 := 0) dX11_text_26 fl_X11_69 (fun h4 => ?_)
    refine s_aload_n 1 dX11_text_29 rfl rfl ?_
    refine s_getr (s0 := 0) dX11_text_30 fl_X11_10 ?_
    refine s_iconst (v := (-1)) dX11_text_33 rfl ?_
    refine s_puti (s0 := 0) dX11_text_34 fl_X11_72 (fun h5 => ?_)
    refine s_bipush (v := (-2)) dX11_text_37 rfl ?_
    exact s_iret rfl dX11_text_39
  ·
    refine s_aload_n 1 dX11_text_40 rfl rfl ?_
    refine s_getr (s0 := 0) dX11_text_41 fl_X11_27 ?_
    refine s_aload_n 1 dX11_text_44 rfl rfl ?_
    refine s_getr (s0 := 0) dX11_text_45 fl_X11_10 ?_
    refine s_iload_n 2 dX11_text_48 rfl rfl ?_
    refine s_callVv (s0 := 0) (As := [rv g 7 0, .int l1]) (rest := []) (cX5_readTape_ok g 0 l1 h1) vl_X11_75 rfl (Nat.le_of_ble_eq_true rfl) (Nat.le_of_ble_eq_true rfl) dX11_text_49 rfl (fun h6 => ?_)
    refine s_aload_n 1 dX11_text_52 rfl rfl ?_
    refine s_getr (s0 := 0) dX11_text_53 fl_X11_10 ?_
    refine s_iconst (v := 0) dX11_text_56 rfl ?_
    refine s_puti (s0 := 0) dX11_text_57 fl_X11_57 (fun h7 => ?_)
    refine s_aload_n 1 dX11_text_60 rfl rfl ?_
    refine s_getr (s0 := 0) dX11_text_61 fl_X11_10 ?_
    refine s_aload_n 1 dX11_text_64 rfl rfl ?_
    refine s_getr (s0 := 0) dX11_text_65 fl_X11_27 ?_
    refine s_geti (s0 := 0) dX11_text_68 fl_X11_79 ?_
    refine s_puti (s0 := 0) dX11_text_71 fl_X11_69 (fun h8 => ?_)
    refine s_aload_n 1 dX11_text_74 rfl rfl ?_
    refine s_getr (s0 := 0) dX11_text_75 fl_X11_10 ?_
    refine s_aload_n 1 dX11_text_78 rfl rfl ?_
    refine s_getr (s0 := 0) dX11_text_79 fl_X11_27 ?_
    refine s_geti (s0 := 0) dX11_text_82 fl_X11_80 ?_
    refine s_puti (s0 := 0) dX11_text_85 fl_X11_72 (fun h9 => ?_)
    refine s_aload_n 1 dX11_text_88 rfl rfl ?_
    refine s_getr (s0 := 0) dX11_text_89 fl_X11_27 ?_
    refine s_geti (s0 := 0) dX11_text_92 fl_X11_79 ?_
    refine s_if_eq (tgt := 100) dX11_text_95 (by decide) ?_ ?_
    ·
      refine s_aload_n 1 dX11_text_100 rfl rfl ?_
      refine s_iload_n 2 dX11_text_101 rfl rfl ?_
      refine s_iload_n 0 dX11_text_102 rfl rfl ?_
      refine s_callVv (s0 := 0) (As := [.int l1, .int x2]) (rest := []) (cX11_takeRead_ok g l1 x2 h9) vl_X11_81 rfl (Nat.le_of_ble_eq_true rfl) (Nat.le_of_ble_eq_true rfl) dX11_text_103 rfl (fun h10 => ?_)
      refine s_iload_n 0 dX11_text_106 rfl rfl ?_
      exact s_iret rfl dX11_text_107
    ·
      refine s_iconst (v := (-1)) dX11_text_98 rfl ?_
      exact s_iret rfl dX11_text_99
