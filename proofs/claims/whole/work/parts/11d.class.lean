def fX4_perform (l1 : Int32) (l2 : Int32) (h : Hp) : Option (Unit × Hp) :=
  if l1 = 0 then (bnd (fX4_passBeat (-1) h) fun _ h1 =>
  some ((), h1))
  else (bnd (fX8_has 9 l2 h) fun x3 h2 =>
  if x3 = 0 then (some ((), h2))
  else (if l1 = 1 then (bnd (fX4_runTo l2 h2) fun _ h5 =>
  some ((), h5))
  else if l1 = 2 then (bnd (fX4_setUp l2 h2) fun _ h7 =>
  some ((), h7))
  else if l1 = 3 then (bnd (fX4_blowAt l2 h2) fun _ h9 =>
  some ((), h9))
  else (ck (ib l2 5) (
  ck (ib l2 5) (lt (wa h2 34 9 l2 ((ra h2 34 9 l2) + (1 : Int32))) fun h10 =>
  some ((), h10))))))
set_option maxHeartbeats 4000000 in
set_option maxRecDepth 100000 in
theorem cX4_perform_ok (g : GE) (l1 : Int32) (l2 : Int32) (h : Hp) : Con cvv 0 g mX4_perform 5 [rv g 2 0, .int l1, .int l2] h (fX4_perform l1 l2 h) := by
  refine Con.of (by decide +kernel) (Nat.le_of_ble_eq_true rfl) ?_
  show Sim cvv 0 g mX4_perform 5 0 [(0, rv g 2 0), (1, .int l1), (2, .int l2)] [] h _
  unfold fX4_perform
  refine s_iload_n 1 dX4_perform_0 rfl rfl ?_
  refine s_if_ne (tgt := 12) dX4_perform_1 (by decide) ?_ ?_
  ·
    refine s_aload_n 0 dX4_perform_4 rfl rfl ?_
    refine s_iconst (v := (-1)) dX4_perform_5 rfl ?_
    refine s_callVv (s0 := 0) (As := [.int (-1)]) (rest := []) (cX4_passBeat_ok g (-1) h) vl_X4_116 rfl (Nat.le_of_ble_eq_true rfl) (Nat.le_of_ble_eq_true rfl) dX4_perform_6 rfl (fun h1 => ?_)
    refine s_goto (tgt := 89) dX4_perform_9 (by decide) ?_
    exact s_vret rfl dX4_perform_89
  ·
    refine s_aload_n 0 dX4_perform_12 rfl rfl ?_
    refine s_getr (s0 := 0) dX4_perform_13 fl_X4_12 ?_
    refine s_iload_n 2 dX4_perform_16 rfl rfl ?_
    refine s_callVi (s0 := 9) (As := [.int l2]) (rest := []) (cX8_has_ok g 9 l2 h) vl_X4_103 rfl (Nat.le_of_ble_eq_true rfl) (Nat.le_of_ble_eq_true rfl) dX4_perform_17 rfl (fun x3 h2 => ?_)
    refine s_if_eq (tgt := 89) dX4_perform_20 (by decide) ?_ ?_
    ·
      exact s_vret rfl dX4_perform_89
    ·
      refine s_iload_n 1 dX4_perform_23 rfl rfl ?_
      refine s_tab 1 (tgt := 52) dX4_perform_24 (by decide) (by decide) rfl (by decide) ?_ (fun e4 => ?_)
      ·
        refine s_aload_n 0 dX4_perform_52 rfl rfl ?_
        refine s_iload_n 2 dX4_perform_53 rfl rfl ?_
        refine s_callVv (s0 := 0) (As := [.int l2]) (rest := []) (cX4_runTo_ok g l2 h2) vl_X4_120 rfl (Nat.le_of_ble_eq_true rfl) (Nat.le_of_ble_eq_true rfl) dX4_perform_54 rfl (fun h5 => ?_)
        refine s_goto (tgt := 89) dX4_perform_57 (by decide) ?_
        exact s_vret rfl dX4_perform_89
      refine s_tab 2 (tgt := 60) dX4_perform_24 (by decide) (by decide) rfl (by decide) ?_ (fun e6 => ?_)
      ·
        refine s_aload_n 0 dX4_perform_60 rfl rfl ?_
        refine s_iload_n 2 dX4_perform_61 rfl rfl ?_
        refine s_callVv (s0 := 0) (As := [.int l2]) (rest := []) (cX4_setUp_ok g l2 h2) vl_X4_123 rfl (Nat.le_of_ble_eq_true rfl) (Nat.le_of_ble_eq_true rfl) dX4_perform_62 rfl (fun h7 => ?_)
        refine s_goto (tgt := 89) dX4_perform_65 (by decide) ?_
        exact s_vret rfl dX4_perform_89
      refine s_tab 3 (tgt := 68) dX4_perform_24 (by decide) (by decide) rfl (by decide) ?_ (fun e8 => ?_)
      ·
        refine s_aload_n 0 dX4_perform_68 rfl rfl ?_
        refine s_iload_n 2 dX4_perform_69 rfl rfl ?_
        refine s_callVv (s0 := 0) (As := [.int l2]) (rest := []) (cX4_blowAt_ok g l2 h2) vl_X4_126 rfl (Nat.le_of_ble_eq_true rfl) (Nat.le_of_ble_eq_true rfl) dX4_perform_70 rfl (fun h9 => ?_)
        refine s_goto (tgt := 89) dX4_perform_73 (by decide) ?_
        exact s_vret rfl dX4_perform_89
      have e4 := lv_neT e4 (show (1 : Int32).toInt = 1 from rfl)
      have e6 := lv_neT e6 (show (2 : Int32).toInt = 2 from rfl)
      have e8 := lv_neT e8 (show (3 : Int32).toInt = 3 from rfl)
      refine s_tabd (tgt := 76) dX4_perform_24 (by omega) (by decide) ?_
      refine s_aload_n 0 dX4_perform_76 rfl rfl ?_
      refine s_getr (s0 := 0) dX4_perform_77 fl_X4_12 ?_
      refine s_getr1 (k2 := 34) (s0 := 9) rfl dX4_perform_80 fl_X4_113 ?_
      refine s_iload_n 2 dX4_perform_83 rfl rfl ?_
      refine s_dup2 dX4_perform_84 rfl rfl ?_
      refine s_iald (s0 := 9) ka_34 dX4_perform_85 ?_
      refine s_iconst (v := 1) dX4_perform_86 rfl ?_
      refine s_iadd dX4_perform_87 ?_
      refine s_iast (s0 := 9) ka_34 dX4_perform_88 (fun h10 => ?_)
      exact s_vret rfl dX4_perform_89
def fX7_has (a0 : Nat) (l1 : Int32) (h : Hp) : Option (Int32 × Hp) :=
  jn (κ := Hp → Option (Int32 × Hp)) (fun h2 => ck (zk 0) (some (0, h2))) fun k16_0 =>
  if l1 < 0 then (k16_0 h)
  else (if (rd h 5 a0 0) ≤ l1 then (k16_0 h)
  else (ck (zk 1) (some (1, h))))
set_option maxHeartbeats 4000000 in
set_option maxRecDepth 100000 in
theorem cX7_has_ok (g : GE) (a0 : Nat) (l1 : Int32) (h : Hp) : Con cvi 0 g mX7_has 2 [rv g 5 a0, .int l1] h (fX7_has a0 l1 h) := by
  refine Con.of (by decide +kernel) (Nat.le_of_ble_eq_true rfl) ?_
  show Sim cvi 0 g mX7_has 2 0 [(0, rv g 5 a0), (1, .int l1)] [] h _
  unfold fX7_has
  refine s_iload_n 1 dX7_has_0 rfl rfl ?_
  refine s_jn (fun (k16_0 : Hp → Option (Int32 × Hp)) => ∀ (h2 : Hp), Sim cvi 0 g mX7_has 2 16 [] [] h2 (k16_0 h2)) (fun h2 => ?_) (fun k16_0 Hk16_0 => ?_)
  ·
    refine s_iconst (v := 0) dX7_has_16 rfl ?_
    exact s_zret rfl dX7_has_17
  refine s_if_lt (tgt := 16) dX7_has_1 (by decide) ?_ ?_
  ·
    refine s_sub [] rfl ?_
    exact Hk16_0 h
  ·
    refine s_iload_n 1 dX7_has_4 rfl rfl ?_
    refine s_aload_n 0 dX7_has_5 rfl rfl ?_
    refine s_geti (s0 := a0) dX7_has_6 fl_X7_9 ?_
    refine s_icmp_ge (tgt := 16) dX7_has_9 (by decide) ?_ ?_
    ·
      refine s_sub [] rfl ?_
      exact Hk16_0 h
    ·
      refine s_iconst (v := 1) dX7_has_12 rfl ?_
      refine s_goto (tgt := 17) dX7_has_13 (by decide) ?_
      exact s_zret rfl dX7_has_17
def fX4_play_l8 (a2 : Nat) (l3 : Int32) (K : Int32 → Hp → Option (Int32 × Hp)) (rec : Int32 → Hp → Option (Int32 × Hp)) (l4 : Int32) (h : Hp) : Option (Int32 × Hp) :=
  if l3 ≤ l4 then (K l4 h)
  else (bnd (fX7_has a2 l4 h) fun x3 h2 =>
  if x3 = 0 then (K l4 h2)
  else (ck (ib l4 40) (
  ck (ib l4 40) (
  bnd (fX4_may (ra h2 31 a2 l4) (ra h2 32 a2 l4) h2) fun x5 h4 =>
  if x5 = 0 then (some (l4, h4))
  else (ck (ib l4 40) (
  ck (ib l4 40) (
  bnd (fX4_perform (ra h4 31 a2 l4) (ra h4 32 a2 l4) h4) fun _ h6 =>
  jn (κ := Hp → Option (Int32 × Hp)) (fun h8 => lt (l4 + 1) fun x9 =>
  rec x9 h8) fun k86_6 =>
  if (rd h6 2 0 4) ≤ 0 then (k86_6 h6)
  else (if (rd h6 2 0 8) = (-1) then (lt (wr h6 2 0 8 l4) fun h10 =>
  k86_6 h10)
  else (k86_6 h6)))))))))
def fX4_play (a1 : Nat) (a2 : Nat) (l3 : Int32) (h : Hp) : Option (Int32 × Hp) :=
  bnd (fX4_begin a1 h) fun _ h1 =>
  itr1 (fX4_play_l8 a2 l3 (fun y11 h12 => some (y11, h12))) FU 0 h1
set_option maxHeartbeats 4000000 in
set_option maxRecDepth 100000 in
theorem sX4_play_l8 (g : GE) (a2 : Nat) (l3 : Int32) (K : Int32 → Hp → Option (Int32 × Hp)) (hK : ∀ (y4 : Int32) (h : Hp), Sim cvi 0 g mX4_play 6 92 [(4, .int y4)] [] h (K y4 h)) : ∀ (n : Nat) (l4 : Int32) (h : Hp), Sim cvi 0 g mX4_play 6 8 [(0, rv g 2 0), (2, rv g 5 a2), (3, .int l3), (4, .int l4)] [] h (itr1 (fX4_play_l8 a2 l3 K) n l4 h) := by
  refine s_itr1 (fun l4 h o => Sim cvi 0 g mX4_play 6 8 [(0, rv g 2 0), (2, rv g 5 a2), (3, .int l3), (4, .int l4)] [] h o) (fun _ _ => s_none) ?_
  intro rec hrec l4 h
  unfold fX4_play_l8
  refine s_iload 3 dX4_play_8 rfl ?_
  refine s_iload_n 2 dX4_play_10 rfl rfl ?_
  refine s_icmp_ge (tgt := 92) dX4_play_11 (by decide) ?_ ?_
  ·
    refine s_sub [3] rfl ?_
    exact hK l4 h
  ·
    refine s_aload_n 1 dX4_play_14 rfl rfl ?_
    refine s_iload 3 dX4_play_15 rfl ?_
    refine s_callVi (s0 := a2) (As := [.int l4]) (rest := []) (cX7_has_ok g a2 l4 h) vl_X4_60 rfl (Nat.le_of_ble_eq_true rfl) (Nat.le_of_ble_eq_true rfl) dX4_play_17 rfl (fun x3 h2 => ?_)
    refine s_if_eq (tgt := 92) dX4_play_20 (by decide) ?_ ?_
    ·
      refine s_sub [3] rfl ?_
      exact hK l4 h2
    ·
      refine s_aload_n 0 dX4_play_23 rfl rfl ?_
      refine s_aload_n 1 dX4_play_24 rfl rfl ?_
      refine s_getr1 (k2 := 31) (s0 := a2) rfl dX4_play_25 fl_X4_66 ?_
      refine s_iload 3 dX4_play_28 rfl ?_
      refine s_iald (s0 := a2) ka_31 dX4_play_30 ?_
      refine s_aload_n 1 dX4_play_31 rfl rfl ?_
      refine s_getr1 (k2 := 32) (s0 := a2) rfl dX4_play_32 fl_X4_69 ?_
      refine s_iload 3 dX4_play_35 rfl ?_
      refine s_iald (s0 := a2) ka_32 dX4_play_37 ?_
      refine s_callVi (s0 := 0) (As := [.int (ra h2 31 a2 l4), .int (ra h2 32 a2 l4)]) (rest := []) (cX4_may_ok g (ra h2 31 a2 l4) (ra h2 32 a2 l4) h2) vl_X4_72 rfl (Nat.le_of_ble_eq_true rfl) (Nat.le_of_ble_eq_true rfl) dX4_play_38 rfl (fun x5 h4 => ?_)
      refine s_if_ne (tgt := 47) dX4_play_41 (by decide) ?_ ?_
      ·
        refine s_iload 3 dX4_play_44 rfl ?_
        exact s_iret rfl dX4_play_46
      ·
        refine s_aload_n 0 dX4_play_47 rfl rfl ?_
        refine s_aload_n 1 dX4_play_48 rfl rfl ?_
        refine s_getr1 (k2 := 31) (s0 := a2) rfl dX4_play_49 fl_X4_66 ?_
        refine s_iload 3 dX4_play_52 rfl ?_
        refine s_iald (s0 := a2) ka_31 dX4_play_54 ?_
        refine s_aload_n 1 dX4_play_55 rfl rfl ?_
        refine s_getr1 (k2 := 32) (s0 := a2) rfl dX4_play_56 fl_X4_69 ?_
        refine s_iload 3 dX4_play_59 rfl ?_
        refine s_iald (s0 := a2) ka_32 dX4_play_61 ?_
        refine s_callVv (s0 := 0) (As := [.int (ra h4 31 a2 l4), .int (ra h4 32 a2 l4)]) (rest := []) (cX4_perform_ok g (ra h4 31 a2 l4) (ra h4 32 a2 l4) h4) vl_X4_76 rfl (Nat.le_of_ble_eq_true rfl) (Nat.le_of_ble_eq_true rfl) dX4_play_62 rfl (fun h6 => ?_)
        refine s_aload_n 0 dX4_play_65 rfl rfl ?_
        refine s_geti (s0 := 0) dX4_play_66 fl_X4_29 ?_
        refine s_jn (fun (k86_6 : Hp → Option (Int32 × Hp)) => ∀ (h8 : Hp), Sim cvi 0 g mX4_play 6 86 [(0, rv g 2 0), (2, rv g 5 a2), (3, .int l3), (4, .int l4)] [] h8 (k86_6 h8)) (fun h8 => ?_) (fun k86_6 Hk86_6 => ?_)
        ·
          refine s_iincl 3 (w := 1) (fun x9 => [(4, .int x9), (0, rv g 2 0), (2, rv g 5 a2), (3, .int l3)]) dX4_play_86 rfl rfl (by decide) (fun _ => rfl) (fun x9 => ?_)
          refine s_goto (tgt := 8) dX4_play_89 (by decide) ?_
          refine s_sub [1, 2, 3, 0] rfl ?_
          exact hrec x9 h8
        refine s_if_le (tgt := 86) dX4_play_69 (by decide) ?_ ?_
        ·
          exact Hk86_6 h6
        ·
          refine s_aload_n 0 dX4_play_72 rfl rfl ?_
          refine s_geti (s0 := 0) dX4_play_73 fl_X4_41 ?_
          refine s_iconst (v := (-1)) dX4_play_76 rfl ?_
          refine s_icmp_ne (tgt := 86) dX4_play_77 (by decide) ?_ ?_
          ·
            refine s_aload_n 0 dX4_play_80 rfl rfl ?_
            refine s_iload 3 dX4_play_81 rfl ?_
            refine s_puti (s0 := 0) dX4_play_83 fl_X4_41 (fun h10 => ?_)
            exact Hk86_6 h10
          ·
            exact Hk86_6 h6
set_option maxHeartbeats 4000000 in
set_option maxRecDepth 100000 in
theorem cX4_play_ok (g : GE) (a1 : Nat) (a2 : Nat) (l3 : Int32) (h : Hp) : Con cvi 0 g mX4_play 6 [rv g 2 0, rv g 6 a1, rv g 5 a2, .int l3] h (fX4_play a1 a2 l3 h) := by
  refine Con.of (by decide +kernel) (Nat.le_of_ble_eq_true rfl) ?_
  show Sim cvi 0 g mX4_play 6 0 [(0, rv g 2 0), (1, rv g 6 a1), (2, rv g 5 a2), (3, .int l3)] [] h _
  unfold fX4_play
  refine s_aload_n 0 dX4_play_0 rfl rfl ?_
  refine s_aload_n 1 dX4_play_1 rfl rfl ?_
  refine s_callVv (s0 := 0) (As := [rv g 6 a1]) (rest := []) (cX4_begin_ok g a1 h) vl_X4_56 rfl (Nat.le_of_ble_eq_true rfl) (Nat.le_of_ble_eq_true rfl) dX4_play_2 rfl (fun h1 => ?_)
  refine s_iconst (v := 0) dX4_play_5 rfl ?_
  refine s_istore (ls' := [(4, .int 0), (0, rv g 2 0), (1, rv g 6 a1), (2, rv g 5 a2), (3, .int l3)]) dX4_play_6 (by decide) rfl ?_
  refine s_sub (ls' := [(0, rv g 2 0), (2, rv g 5 a2), (3, .int l3), (4, .int 0)]) [1, 3, 4, 0] rfl ?_
  refine sX4_play_l8 g a2 l3 _ (fun y11 h12 => ?_) FU 0 h1
  refine s_iload 0 dX4_play_92 rfl ?_
  exact s_iret rfl dX4_play_94
def fX9_showAt (a0 : Nat) (l1 : Int32) (h : Hp) : Option ((Option Nat) × Hp) :=
  jn (κ := Hp → Option ((Option Nat) × Hp)) (fun h2 => some (none, h2)) fun k32_0 =>
  if l1 < 0 then (k32_0 h)
  else (ck (ib 1 3) (
  if (ra h 37 a0 1) ≤ l1 then (k32_0 h)
  else (if (2 : Int32) ≤ l1 then (k32_0 h)
  else (ck (ib l1 2) (
  some ((some (2 * (a0 % cnt 39) + 1 * l1.toNatClampNeg + 0)), h))))))
set_option maxHeartbeats 4000000 in
set_option maxRecDepth 100000 in
theorem cX9_showAt_ok (g : GE) (a0 : Nat) (l1 : Int32) (h : Hp) : Con (cvr g 5) 0 g mX9_showAt 2 [rv g 7 a0, .int l1] h (fX9_showAt a0 l1 h) := by
  refine Con.of (by decide +kernel) (Nat.le_of_ble_eq_true rfl) ?_
  show Sim (cvr g 5) 0 g mX9_showAt 2 0 [(0, rv g 7 a0), (1, .int l1)] [] h _
  unfold fX9_showAt
  refine s_iload_n 1 dX9_showAt_0 rfl rfl ?_
  refine s_jn (fun (k32_0 : Hp → Option ((Option Nat) × Hp)) => ∀ (h2 : Hp), Sim (cvr g 5) 0 g mX9_showAt 2 32 [] [] h2 (k32_0 h2)) (fun h2 => ?_) (fun k32_0 Hk32_0 => ?_)
  ·
    refine s_nullq (kd := 5) dX9_showAt_32 ?_
    exact s_aret (q := none) rfl (Or.inl ⟨_, rfl⟩) dX9_showAt_33
  refine s_if_lt (tgt := 32) dX9_showAt_1 (by decide) ?_ ?_
  ·
    refine s_sub [] rfl ?_
    exact Hk32_0 h
  ·
    refine s_iload_n 1 dX9_showAt_4 rfl rfl ?_
    refine s_aload_n 0 dX9_showAt_5 rfl rfl ?_
    refine s_getr1 (k2 := 37) (s0 := a0) rfl dX9_showAt_6 fl_X9_25 ?_
    refine s_iconst (v := 1) dX9_showAt_9 rfl ?_
    refine s_iald (s0 := a0) ka_37 dX9_showAt_10 ?_
    refine s_icmp_ge (tgt := 32) dX9_showAt_11 (by decide) ?_ ?_
    ·
      refine s_sub [] rfl ?_
      exact Hk32_0 h
    ·
      refine s_iload_n 1 dX9_showAt_14 rfl rfl ?_
      refine s_aload_n 0 dX9_showAt_15 rfl rfl ?_
      refine s_getr1 (k2 := 39) (s0 := a0) rfl dX9_showAt_16 fl_X9_37 ?_
      refine s_ralen5 (v := 2) kr_39 rfl dX9_showAt_19 ?_
      refine s_icmp_ge (tgt := 32) dX9_showAt_20 (by decide) ?_ ?_
      ·
        refine s_sub [] rfl ?_
        exact Hk32_0 h
      ·
        refine s_aload_n 0 dX9_showAt_23 rfl rfl ?_
        refine s_getr1 (k2 := 39) (s0 := a0) rfl dX9_showAt_24 fl_X9_37 ?_
        refine s_iload_n 1 dX9_showAt_27 rfl rfl ?_
        refine s_aald5 (s0 := a0) kr_39 dX9_showAt_28 ?_
        refine s_goto (tgt := 33) dX9_showAt_29 (by decide) ?_
        exact s_aret (q := (some (2 * (a0 % cnt 39) + 1 * l1.toNatClampNeg + 0))) rfl (Or.inl ⟨_, rfl⟩) dX9_showAt_33
def fX9_stageAt (a0 : Nat) (l1 : Int32) (h : Hp) : Option ((Option Nat) × Hp) :=
  jn (κ := Hp → Option ((Option Nat) × Hp)) (fun h2 => some (none, h2)) fun k32_0 =>
  if l1 < 0 then (k32_0 h)
  else (ck (ib 0 3) (
  if (ra h 37 a0 0) ≤ l1 then (k32_0 h)
  else (if (2 : Int32) ≤ l1 then (k32_0 h)
  else (ck (ib l1 2) (
  some ((some (2 * (a0 % cnt 38) + 1 * l1.toNatClampNeg + 0)), h))))))
set_option maxHeartbeats 4000000 in
set_option maxRecDepth 100000 in
theorem cX9_stageAt_ok (g : GE) (a0 : Nat) (l1 : Int32) (h : Hp) : Con (cvr g 6) 0 g mX9_stageAt 2 [rv g 7 a0, .int l1] h (fX9_stageAt a0 l1 h) := by
  refine Con.of (by decide +kernel) (Nat.le_of_ble_eq_true rfl) ?_
  show Sim (cvr g 6) 0 g mX9_stageAt 2 0 [(0, rv g 7 a0), (1, .int l1)] [] h _
  unfold fX9_stageAt
  refine s_iload_n 1 dX9_stageAt_0 rfl rfl ?_
  refine s_jn (fun (k32_0 : Hp → Option ((Option Nat) × Hp)) => ∀ (h2 : Hp), Sim (cvr g 6) 0 g mX9_stageAt 2 32 [] [] h2 (k32_0 h2)) (fun h2 => ?_) (fun k32_0 Hk32_0 => ?_)
  ·
    refine s_nullq (kd := 6) dX9_stageAt_32 ?_
    exact s_aret (q := none) rfl (Or.inl ⟨_, rfl⟩) dX9_stageAt_33
  refine s_if_lt (tgt := 32) dX9_stageAt_1 (by decide) ?_ ?_
  ·
    refine s_sub [] rfl ?_
    exact Hk32_0 h
  ·
    refine s_iload_n 1 dX9_stageAt_4 rfl rfl ?_
    refine s_aload_n 0 dX9_stageAt_5 rfl rfl ?_
    refine s_getr1 (k2 := 37) (s0 := a0) rfl dX9_stageAt_6 fl_X9_25 ?_
    refine s_iconst (v := 0) dX9_stageAt_9 rfl ?_
    refine s_iald (s0 := a0) ka_37 dX9_stageAt_10 ?_
    refine s_icmp_ge (tgt := 32) dX9_stageAt_11 (by decide) ?_ ?_
    ·
      refine s_sub [] rfl ?_
      exact Hk32_0 h
    ·
      refine s_iload_n 1 dX9_stageAt_14 rfl rfl ?_
      refine s_aload_n 0 dX9_stageAt_15 rfl rfl ?_
      refine s_getr1 (k2 := 38) (s0 := a0) rfl dX9_stageAt_16 fl_X9_31 ?_
      refine s_ralen4 (v := 2) kr_38 rfl dX9_stageAt_19 ?_
      refine s_icmp_ge (tgt := 32) dX9_stageAt_20 (by decide) ?_ ?_
      ·
        refine s_sub [] rfl ?_
        exact Hk32_0 h
      ·
        refine s_aload_n 0 dX9_stageAt_23 rfl rfl ?_
        refine s_getr1 (k2 := 38) (s0 := a0) rfl dX9_stageAt_24 fl_X9_31 ?_
        refine s_iload_n 1 dX9_stageAt_27 rfl rfl ?_
        refine s_aald4 (s0 := a0) kr_38 dX9_stageAt_28 ?_
        refine s_goto (tgt := 33) dX9_stageAt_29 (by decide) ?_
        exact s_aret (q := (some (2 * (a0 % cnt 38) + 1 * l1.toNatClampNeg + 0))) rfl (Or.inl ⟨_, rfl⟩) dX9_stageAt_33
def fX11_after (l1 : Int32) (l2 : Int32) (l3 : Int32) (h : Hp) : Option (Int32 × Hp) :=
  bnd (fX9_stageAt 0 l1 h) fun x2 h1 =>
  bnd (fX9_showAt 0 l2 h1) fun x4 h3 =>
  nl x2 (some ((-2), h3))
  fun b5 => (nl x4 (some ((-2), h3))
  fun b6 => (bnd (fX4_play b5 b6 40 h3) fun x8 h7 =>
  if l3 = 0 then (some (rd h7 2 0 8, h7))
  else if l3 = 1 then (some (rd h7 2 0 9, h7))
  else if l3 = 2 then (bnd (fX4_mostSpun h7) fun x13 h12 =>
  some (x13, h12))
  else if l3 = 3 then (some (rd h7 2 0 10, h7))
  else if l3 = 4 then (some (rd h7 2 0 11, h7))
  else if l3 = 5 then (some (rd h7 2 0 12, h7))
  else (some ((-2), h7))))
set_option maxHeartbeats 4000000 in
set_option maxRecDepth 100000 in
theorem cX11_after_ok (g : GE) (l1 : Int32) (l2 : Int32) (l3 : Int32) (h : Hp) : Con cvi 0 g mX11_after 7 [rv g 9 0, .int l1, .int l2, .int l3] h (fX11_after l1 l2 l3 h) := by
  refine Con.of (by decide +kernel) (Nat.le_of_ble_eq_true rfl) ?_
  show Sim cvi 0 g mX11_after 7 0 [(0, rv g 9 0), (1, .int l1), (2, .int l2), (3, .int l3)] [] h _
  unfold fX11_after
  refine s_aload_n 0 dX11_after_0 rfl rfl ?_
  refine s_getr (s0 := 0) dX11_after_1 fl_X11_10 ?_
  refine s_iload_n 1 dX11_after_4 rfl rfl ?_
  refine s_callVq (s0 := 0) (As := [.int l1]) (rest := []) (cX9_stageAt_ok g 0 l1 h) vl_X11_85 rfl (Nat.le_of_ble_eq_true rfl) (Nat.le_of_ble_eq_true rfl) dX11_after_5 rfl (fun x2 h1 => ?_)
  refine s_astoreq (ls' := [(4, rq g 6 x2), (0, rv g 9 0), (1, .int l1), (2, .int l2), (3, .int l3)]) dX11_after_8 (by decide) (List.forall_mem_cons.mpr ⟨rfl, (List.forall_mem_cons.mpr ⟨rfl, (List.forall_mem_cons.mpr ⟨rfl, (List.forall_mem_cons.mpr ⟨rfl, (fun _ h => absurd h List.not_mem_nil)⟩)⟩)⟩)⟩) rfl ?_
  refine s_aload_n 1 dX11_after_10 rfl rfl ?_
  refine s_getr (s0 := 0) dX11_after_11 fl_X11_10 ?_
  refine s_iload_n 3 dX11_after_14 rfl rfl ?_
  refine s_callVq (s0 := 0) (As := [.int l2]) (rest := []) (cX9_showAt_ok g 0 l2 h1) vl_X11_104 rfl (Nat.le_of_ble_eq_true rfl) (Nat.le_of_ble_eq_true rfl) dX11_after_15 rfl (fun x4 h3 => ?_)
  refine s_astoreq (ls' := [(5, rq g 5 x4), (4, rq g 6 x2), (0, rv g 9 0), (1, .int l1), (2, .int l2), (3, .int l3)]) dX11_after_18 (by decide) (List.forall_mem_cons.mpr ⟨cat_rq _ _ _, (List.forall_mem_cons.mpr ⟨rfl, (List.forall_mem_cons.mpr ⟨rfl, (List.forall_mem_cons.mpr ⟨rfl, (List.forall_mem_cons.mpr ⟨rfl, (fun _ h => absurd h List.not_mem_nil)⟩)⟩)⟩)⟩)⟩) rfl ?_
  refine s_aloadq 1 dX11_after_20 rfl ?_
  refine s_ifnull x2 (tgt := 30) (fun qq => [(5, rq g 5 x4), (4, rq g 6 qq), (0, rv g 9 0), (1, .int l1), (2, .int l2), (3, .int l3)]) dX11_after_22 (by decide) ?_ (fun b5 => ?_)
  ·
    refine s_bipush (v := (-2)) dX11_after_30 rfl ?_
    exact s_iret rfl dX11_after_32
  ·
    refine s_aloadq 0 dX11_after_25 rfl ?_
    refine s_ifnonnull x4 (tgt := 33) (fun qq => [(5, rq g 5 qq), (4, rv g 6 b5), (0, rv g 9 0), (1, .int l1), (2, .int l2), (3, .int l3)]) dX11_after_27 (by decide) ?_ (fun b6 => ?_)
    ·
      refine s_bipush (v := (-2)) dX11_after_30 rfl ?_
      exact s_iret rfl dX11_after_32
    ·
      refine s_aload_n 2 dX11_after_33 rfl rfl ?_
      refine s_getr (s0 := 0) dX11_after_34 fl_X11_34 ?_
      refine s_aload 1 dX11_after_37 rfl ?_
      refine s_aload 0 dX11_after_39 rfl ?_
      refine s_bipush (v := 40) dX11_after_41 rfl ?_
      refine s_callVi (s0 := 0) (As := [rv g 6 b5, rv g 5 b6, .int 40]) (rest := []) (cX4_play_ok g b5 b6 40 h3) vl_X11_124 rfl (Nat.le_of_ble_eq_true rfl) (Nat.le_of_ble_eq_true rfl) dX11_after_43 rfl (fun x8 h7 => ?_)
      refine s_pop dX11_after_46 rfl ?_
      refine s_iload_n 5 dX11_after_47 rfl rfl ?_
      refine s_tab 0 (tgt := 88) dX11_after_48 (by decide) (by decide) rfl (by decide) ?_ (fun e9 => ?_)
      ·
        refine s_aload_n 2 dX11_after_88 rfl rfl ?_
        refine s_getr (s0 := 0) dX11_after_89 fl_X11_34 ?_
        refine s_geti (s0 := 0) dX11_after_92 fl_X11_291 ?_
        exact s_iret rfl dX11_after_95
      refine s_tab 1 (tgt := 96) dX11_after_48 (by decide) (by decide) rfl (by decide) ?_ (fun e10 => ?_)
      ·
        refine s_aload_n 2 dX11_after_96 rfl rfl ?_
        refine s_getr (s0 := 0) dX11_after_97 fl_X11_34 ?_
        refine s_geti (s0 := 0) dX11_after_100 fl_X11_294 ?_
        exact s_iret rfl dX11_after_103
      refine s_tab 2 (tgt := 104) dX11_after_48 (by decide) (by decide) rfl (by decide) ?_ (fun e11 => ?_)
      ·
        refine s_aload_n 2 dX11_after_104 rfl rfl ?_
        refine s_getr (s0 := 0) dX11_after_105 fl_X11_34 ?_
        refine s_callVi (s0 := 0) (As := []) (rest := []) (cX4_mostSpun_ok g h7) vl_X11_297 rfl (Nat.le_of_ble_eq_true rfl) (Nat.le_of_ble_eq_true rfl) dX11_after_108 rfl (fun x13 h12 => ?_)
        exact s_iret rfl dX11_after_111
      refine s_tab 3 (tgt := 112) dX11_after_48 (by decide) (by decide) rfl (by decide) ?_ (fun e14 => ?_)
      ·
        refine s_aload_n 2 dX11_after_112 rfl rfl ?_
        refine s_getr (s0 := 0) dX11_after_113 fl_X11_34 ?_
        refine s_geti (s0 := 0) dX11_after_116 fl_X11_300 ?_
        exact s_iret rfl dX11_after_119
      refine s_tab 4 (tgt := 120) dX11_after_48 (by decide) (by decide) rfl (by decide) ?_ (fun e15 => ?_)
      ·
        refine s_aload_n 2 dX11_after_120 rfl rfl ?_
        refine s_getr (s0 := 0) dX11_after_121 fl_X11_34 ?_
        refine s_geti (s0 := 0) dX11_after_124 fl_X11_303 ?_
        exact s_iret rfl dX11_after_127
      refine s_tab 5 (tgt := 128) dX11_after_48 (by decide) (by decide) rfl (by decide) ?_ (fun e16 => ?_)
      ·
        refine s_aload_n 2 dX11_after_128 rfl rfl ?_
        refine s_getr (s0 := 0) dX11_after_129 fl_X11_34 ?_
        refine s_geti (s0 := 0) dX11_after_132 fl_X11_306 ?_
        exact s_iret rfl dX11_after_135
      have e9 := lv_neT e9 (show (0 : Int32).toInt = 0 from rfl)
      have e10 := lv_neT e10 (show (1 : Int32).toInt = 1 from rfl)
      have e11 := lv_neT e11 (show (2 : Int32).toInt = 2 from rfl)
      have e14 := lv_neT e14 (show (3 : Int32).toInt = 3 from rfl)
      have e15 := lv_neT e15 (show (4 : Int32).toInt = 4 from rfl)
      have e16 := lv_neT e16 (show (5 : Int32).toInt = 5 from rfl)
      refine s_tabd (tgt := 136) dX11_after_48 (by omega) (by decide) ?_
      refine s_bipush (v := (-2)) dX11_after_136 rfl ?_
      exact s_iret rfl dX11_after_138
def fX3_copyFrom (a0 : Nat) (a1 : Nat) (h : Hp) : Option (Unit × Hp) :=
  lt (wr h 1 a0 0 (rd h 1 a1 0)) fun h1 =>
  lt (wr h1 1 a0 1 (rd h1 1 a1 1)) fun h2 =>
  ck (true) (lt (cpy h2 21 a1 21 a0 8) fun h3 =>
  ck (true) (lt (cpy h3 22 a1 22 a0 8) fun h4 =>
  ck (true) (lt (cpy h4 23 a1 23 a0 8) fun h5 =>
  some ((), h5))))
set_option maxHeartbeats 4000000 in
set_option maxRecDepth 100000 in
theorem cX3_copyFrom_ok (g : GE) (a0 : Nat) (a1 : Nat) (h : Hp) : Con cvv 0 g mX3_copyFrom 2 [rv g 1 a0, rv g 1 a1] h (fX3_copyFrom a0 a1 h) := by
  refine Con.of (by decide +kernel) (Nat.le_of_ble_eq_true rfl) ?_
  show Sim cvv 0 g mX3_copyFrom 2 0 [(0, rv g 1 a0), (1, rv g 1 a1)] [] h _
  unfold fX3_copyFrom
  refine s_aload_n 0 dX3_copyFrom_0 rfl rfl ?_
  refine s_aload_n 1 dX3_copyFrom_1 rfl rfl ?_
  refine s_geti (s0 := a1) dX3_copyFrom_2 fl_X3_9 ?_
  refine s_puti (s0 := a0) dX3_copyFrom_5 fl_X3_9 (fun h1 => ?_)
  refine s_aload_n 0 dX3_copyFrom_8 rfl rfl ?_
  refine s_aload_n 1 dX3_copyFrom_9 rfl rfl ?_
  refine s_geti (s0 := a1) dX3_copyFrom_10 fl_X3_15 ?_
  refine s_puti (s0 := a0) dX3_copyFrom_13 fl_X3_15 (fun h2 => ?_)
  refine s_aload_n 1 dX3_copyFrom_16 rfl rfl ?_
  refine s_getr1 (k2 := 21) (s0 := a1) rfl dX3_copyFrom_17 fl_X3_18 ?_
  refine s_iconst (v := 0) dX3_copyFrom_20 rfl ?_
  refine s_aload_n 0 dX3_copyFrom_21 rfl rfl ?_
  refine s_getr1 (k2 := 21) (s0 := a0) rfl dX3_copyFrom_22 fl_X3_18 ?_
  refine s_iconst (v := 0) dX3_copyFrom_25 rfl ?_
  refine s_bipush (v := 8) dX3_copyFrom_26 rfl ?_
  refine s_acopy (n := 8) (s0 := a1) (s1 := a0) (true) ka_21 ka_21 rfl rfl rfl (by decide) (by decide) (by decide) (fun _ _ _ => rfl) ac_X3_28 (Nat.le_of_ble_eq_true rfl) (Nat.le_of_ble_eq_true rfl) dX3_copyFrom_28 (fun h3 => ?_)
  refine s_aload_n 1 dX3_copyFrom_31 rfl rfl ?_
  refine s_getr1 (k2 := 22) (s0 := a1) rfl dX3_copyFrom_32 fl_X3_22 ?_
  refine s_iconst (v := 0) dX3_copyFrom_35 rfl ?_
  refine s_aload_n 0 dX3_copyFrom_36 rfl rfl ?_
  refine s_getr1 (k2 := 22) (s0 := a0) rfl dX3_copyFrom_37 fl_X3_22 ?_
  refine s_iconst (v := 0) dX3_copyFrom_40 rfl ?_
  refine s_bipush (v := 8) dX3_copyFrom_41 rfl ?_
  refine s_acopy (n := 8) (s0 := a1) (s1 := a0) (true) ka_22 ka_22 rfl rfl rfl (by decide) (by decide) (by decide) (fun _ _ _ => rfl) ac_X3_28 (Nat.le_of_ble_eq_true rfl) (Nat.le_of_ble_eq_true rfl) dX3_copyFrom_43 (fun h4 => ?_)
  refine s_aload_n 1 dX3_copyFrom_46 rfl rfl ?_
  refine s_getr1 (k2 := 23) (s0 := a1) rfl dX3_copyFrom_47 fl_X3_25 ?_
  refine s_iconst (v := 0) dX3_copyFrom_50 rfl ?_
  refine s_aload_n 0 dX3_copyFrom_51 rfl rfl ?_
  refine s_getr1 (k2 := 23) (s0 := a0) rfl dX3_copyFrom_52 fl_X3_25 ?_
  refine s_iconst (v := 0) dX3_copyFrom_55 rfl ?_
  refine s_bipush (v := 8) dX3_copyFrom_56 rfl ?_
  refine s_acopy (n := 8) (s0 := a1) (s1 := a0) (true) ka_23 ka_23 rfl rfl rfl (by decide) (by decide) (by decide) (fun _ _ _ => rfl) ac_X3_28 (Nat.le_of_ble_eq_true rfl) (Nat.le_of_ble_eq_true rfl) dX3_copyFrom_58 (fun h5 => ?_)
  exact s_vret rfl dX3_copyFrom_61
def fX7_copyFrom (a0 : Nat) (a1 : Nat) (h : Hp) : Option (Unit × Hp) :=
  lt (wr h 5 a0 0 (rd h 5 a1 0)) fun h1 =>
  ck (true) (lt (cpy h1 31 a1 31 a0 40) fun h2 =>
  ck (true) (lt (cpy h2 32 a1 32 a0 40) fun h3 =>
  some ((), h3)))
set_option maxHeartbeats 4000000 in
set_option maxRecDepth 100000 in
theorem cX7_copyFrom_ok (g : GE) (a0 : Nat) (a1 : Nat) (h : Hp) : Con cvv 0 g mX7_copyFrom 2 [rv g 5 a0, rv g 5 a1] h (fX7_copyFrom a0 a1 h) := by
  refine Con.of (by decide +kernel) (Nat.le_of_ble_eq_true rfl) ?_
  show Sim cvv 0 g mX7_copyFrom 2 0 [(0, rv g 5 a0), (1, rv g 5 a1)] [] h _
  unfold fX7_copyFrom
  refine s_aload_n 0 dX7_copyFrom_0 rfl rfl ?_
  refine s_aload_n 1 dX7_copyFrom_1 rfl rfl ?_
  refine s_geti (s0 := a1) dX7_copyFrom_2 fl_X7_9 ?_
  refine s_puti (s0 := a0) dX7_copyFrom_5 fl_X7_9 (fun h1 => ?_)
  refine s_aload_n 1 dX7_copyFrom_8 rfl rfl ?_
  refine s_getr1 (k2 := 31) (s0 := a1) rfl dX7_copyFrom_9 fl_X7_15 ?_
  refine s_iconst (v := 0) dX7_copyFrom_12 rfl ?_
  refine s_aload_n 0 dX7_copyFrom_13 rfl rfl ?_
  refine s_getr1 (k2 := 31) (s0 := a0) rfl dX7_copyFrom_14 fl_X7_15 ?_
  refine s_iconst (v := 0) dX7_copyFrom_17 rfl ?_
  refine s_bipush (v := 40) dX7_copyFrom_18 rfl ?_
  refine s_acopy (n := 40) (s0 := a1) (s1 := a0) (true) ka_31 ka_31 rfl rfl rfl (by decide) (by decide) (by decide) (fun _ _ _ => rfl) ac_X7_22 (Nat.le_of_ble_eq_true rfl) (Nat.le_of_ble_eq_true rfl) dX7_copyFrom_20 (fun h2 => ?_)
  refine s_aload_n 1 dX7_copyFrom_23 rfl rfl ?_
  refine s_getr1 (k2 := 32) (s0 := a1) rfl dX7_copyFrom_24 fl_X7_19 ?_
  refine s_iconst (v := 0) dX7_copyFrom_27 rfl ?_
  refine s_aload_n 0 dX7_copyFrom_28 rfl rfl ?_
  refine s_getr1 (k2 := 32) (s0 := a0) rfl dX7_copyFrom_29 fl_X7_19 ?_
  refine s_iconst (v := 0) dX7_copyFrom_32 rfl ?_
  refine s_bipush (v := 40) dX7_copyFrom_33 rfl ?_
  refine s_acopy (n := 40) (s0 := a1) (s1 := a0) (true) ka_32 ka_32 rfl rfl rfl (by decide) (by decide) (by decide) (fun _ _ _ => rfl) ac_X7_22 (Nat.le_of_ble_eq_true rfl) (Nat.le_of_ble_eq_true rfl) dX7_copyFrom_35 (fun h3 => ?_)
  exact s_vret rfl dX7_copyFrom_38
def fX9_copyFrom_l56 (a0 : Nat) (a1 : Nat) (K : Hp → Option (Unit × Hp)) (rec : Int32 → Hp → Option (Unit × Hp)) (l2 : Int32) (h : Hp) : Option (Unit × Hp) :=
  if (2 : Int32) ≤ l2 then (K h)
  else (ck (ib l2 2) (
  ck (ib l2 2) (
  bnd (fX8_copyFrom (2 * (a0 % cnt 38) + 1 * l2.toNatClampNeg + 0) (2 * (a1 % cnt 38) + 1 * l2.toNatClampNeg + 0) h) fun _ h6 =>
  ck (ib l2 2) (
  ck (ib l2 2) (
  bnd (fX7_copyFrom (2 * (a0 % cnt 39) + 1 * l2.toNatClampNeg + 0) (2 * (a1 % cnt 39) + 1 * l2.toNatClampNeg + 0) h6) fun _ h7 =>
  ck (ib l2 2) (
  ck (ib l2 2) (
  bnd (fX3_copyFrom (2 * (a0 % cnt 40) + 1 * l2.toNatClampNeg + 0) (2 * (a1 % cnt 40) + 1 * l2.toNatClampNeg + 0) h7) fun _ h8 =>
  lt (l2 + 1) fun x9 =>
  rec x9 h8)))))))
def fX9_copyFrom (a0 : Nat) (a1 : Nat) (h : Hp) : Option (Unit × Hp) :=
  ck (fitB h 36 a1 600) (lt (cpy h 36 a1 36 a0 600) fun h1 =>
  lt (wr h1 7 a0 1 (rd h1 7 a1 1)) fun h2 =>
  lt (wr h2 7 a0 2 (rd h2 7 a1 2)) fun h3 =>
  lt (wr h3 7 a0 3 (rd h3 7 a1 3)) fun h4 =>
  ck (true) (lt (cpy h4 37 a1 37 a0 3) fun h5 =>
  itr1 (fX9_copyFrom_l56 a0 a1 (fun h10 => some ((), h10))) FU 0 h5))
set_option maxHeartbeats 4000000 in
set_option maxRecDepth 100000 in
theorem sX9_copyFrom_l56 (g : GE) (a0 : Nat) (a1 : Nat) (K : Hp → Option (Unit × Hp)) (hK : ∀ (h : Hp), Sim cvv 0 g mX9_copyFrom 3 112 [] [] h (K  h)) : ∀ (n : Nat) (l2 : Int32) (h : Hp), Sim cvv 0 g mX9_copyFrom 3 56 [(0, rv g 7 a0), (1, rv g 7 a1), (2, .int l2)] [] h (itr1 (fX9_copyFrom_l56 a0 a1 K) n l2 h) := by
  refine s_itr1 (fun l2 h o => Sim cvv 0 g mX9_copyFrom 3 56 [(0, rv g 7 a0), (1, rv g 7 a1), (2, .int l2)] [] h o) (fun _ _ => s_none) ?_
  intro rec hrec l2 h
  unfold fX9_copyFrom_l56
  refine s_iload_n 2 dX9_copyFrom_56 rfl rfl ?_
  refine s_iconst (v := 2) dX9_copyFrom_57 rfl ?_
  refine s_icmp_ge (tgt := 112) dX9_copyFrom_58 (by decide) ?_ ?_
  ·
    refine s_sub [] rfl ?_
    exact hK h
  ·
    refine s_aload_n 0 dX9_copyFrom_61 rfl rfl ?_
    refine s_getr1 (k2 := 38) (s0 := a0) rfl dX9_copyFrom_62 fl_X9_31 ?_
    refine s_iload_n 2 dX9_copyFrom_65 rfl rfl ?_
    refine s_aald4 (s0 := a0) kr_38 dX9_copyFrom_66 ?_
    refine s_aload_n 1 dX9_copyFrom_67 rfl rfl ?_
    refine s_getr1 (k2 := 38) (s0 := a1) rfl dX9_copyFrom_68 fl_X9_31 ?_
    refine s_iload_n 2 dX9_copyFrom_71 rfl rfl ?_
    refine s_aald4 (s0 := a1) kr_38 dX9_copyFrom_72 ?_
    refine s_callVv (s0 := 2 * (a0 % cnt 38) + 1 * l2.toNatClampNeg + 0) (As := [rv g 6 (2 * (a1 % cnt 38) + 1 * l2.toNatClampNeg + 0)]) (rest := []) (cX8_copyFrom_ok g (2 * (a0 % cnt 38) + 1 * l2.toNatClampNeg + 0) (2 * (a1 % cnt 38) + 1 * l2.toNatClampNeg + 0) h) vl_X9_56 rfl (Nat.le_of_ble_eq_true rfl) (Nat.le_of_ble_eq_true rfl) dX9_copyFrom_73 rfl (fun h6 => ?_)
    refine s_aload_n 0 dX9_copyFrom_76 rfl rfl ?_
    refine s_getr1 (k2 := 39) (s0 := a0) rfl dX9_copyFrom_77 fl_X9_37 ?_
    refine s_iload_n 2 dX9_copyFrom_80 rfl rfl ?_
    refine s_aald5 (s0 := a0) kr_39 dX9_copyFrom_81 ?_
    refine s_aload_n 1 dX9_copyFrom_82 rfl rfl ?_
    refine s_getr1 (k2 := 39) (s0 := a1) rfl dX9_copyFrom_83 fl_X9_37 ?_
    refine s_iload_n 2 dX9_copyFrom_86 rfl rfl ?_
    refine s_aald5 (s0 := a1) kr_39 dX9_copyFrom_87 ?_
    refine s_callVv (s0 := 2 * (a0 % cnt 39) + 1 * l2.toNatClampNeg + 0) (As := [rv g 5 (2 * (a1 % cnt 39) + 1 * l2.toNatClampNeg + 0)]) (rest := []) (cX7_copyFrom_ok g (2 * (a0 % cnt 39) + 1 * l2.toNatClampNeg + 0) (2 * (a1 % cnt 39) + 1 * l2.toNatClampNeg + 0) h6) vl_X9_60 rfl (Nat.le_of_ble_eq_true rfl) (Nat.le_of_ble_eq_true rfl) dX9_copyFrom_88 rfl (fun h7 => ?_)
    refine s_aload_n 0 dX9_copyFrom_91 rfl rfl ?_
    refine s_getr1 (k2 := 40) (s0 := a0) rfl dX9_copyFrom_92 fl_X9_43 ?_
    refine s_iload_n 2 dX9_copyFrom_95 rfl rfl ?_
    refine s_aald6 (s0 := a0) kr_40 dX9_copyFrom_96 ?_
    refine s_aload_n 1 dX9_copyFrom_97 rfl rfl ?_
    refine s_getr1 (k2 := 40) (s0 := a1) rfl dX9_copyFrom_98 fl_X9_43 ?_
    refine s_iload_n 2 dX9_copyFrom_101 rfl rfl ?_
    refine s_aald6 (s0 := a1) kr_40 dX9_copyFrom_102 ?_
    refine s_callVv (s0 := 2 * (a0 % cnt 40) + 1 * l2.toNatClampNeg + 0) (As := [rv g 1 (2 * (a1 % cnt 40) + 1 * l2.toNatClampNeg + 0)]) (rest := []) (cX3_copyFrom_ok g (2 * (a0 % cnt 40) + 1 * l2.toNatClampNeg + 0) (2 * (a1 % cnt 40) + 1 * l2.toNatClampNeg + 0) h7) vl_X9_63 rfl (Nat.le_of_ble_eq_true rfl) (Nat.le_of_ble_eq_true rfl) dX9_copyFrom_103 rfl (fun h8 => ?_)
    refine s_iincl 2 (w := 1) (fun x9 => [(2, .int x9), (0, rv g 7 a0), (1, rv g 7 a1)]) dX9_copyFrom_106 rfl rfl (by decide) (fun _ => rfl) (fun x9 => ?_)
    refine s_goto (tgt := 56) dX9_copyFrom_109 (by decide) ?_
    refine s_sub [1, 2, 0] rfl ?_
    exact hrec x9 h8
set_option maxHeartbeats 4000000 in
set_option maxRecDepth 100000 in
theorem cX9_copyFrom_ok (g : GE) (a0 : Nat) (a1 : Nat) (h : Hp) : Con cvv 0 g mX9_copyFrom 3 [rv g 7 a0, rv g 7 a1] h (fX9_copyFrom a0 a1 h) := by
  refine Con.of (by decide +kernel) (Nat.le_of_ble_eq_true rfl) ?_
  show Sim cvv 0 g mX9_copyFrom 3 0 [(0, rv g 7 a0), (1, rv g 7 a1)] [] h _
  unfold fX9_copyFrom
  refine s_aload_n 1 dX9_copyFrom_0 rfl rfl ?_
  refine s_getr1 (k2 := 36) (s0 := a1) rfl dX9_copyFrom_1 fl_X9_9 ?_
  refine s_iconst (v := 0) dX9_copyFrom_4 rfl ?_
  refine s_aload_n 0 dX9_copyFrom_5 rfl rfl ?_
  refine s_getr1 (k2 := 36) (s0 := a0) rfl dX9_copyFrom_6 fl_X9_9 ?_
  refine s_iconst (v := 0) dX9_copyFrom_9 rfl ?_
  refine s_sipush (v := 600) dX9_copyFrom_10 rfl ?_
  refine s_acopy (n := 600) (s0 := a1) (s1 := a0) (fitB h 36 a1 600) ka_36 ka_36 rfl rfl rfl (by decide) (by decide) (by decide) (fun hb => fitB_get hb) ac_X9_50 (Nat.le_of_ble_eq_true rfl) (Nat.le_of_ble_eq_true rfl) dX9_copyFrom_13 (fun h1 => ?_)
  refine s_aload_n 0 dX9_copyFrom_16 rfl rfl ?_
  refine s_aload_n 1 dX9_copyFrom_17 rfl rfl ?_
  refine s_geti (s0 := a1) dX9_copyFrom_18 fl_X9_15 ?_
  refine s_puti (s0 := a0) dX9_copyFrom_21 fl_X9_15 (fun h2 => ?_)
  refine s_aload_n 0 dX9_copyFrom_24 rfl rfl ?_
  refine s_aload_n 1 dX9_copyFrom_25 rfl rfl ?_
  refine s_geti (s0 := a1) dX9_copyFrom_26 fl_X9_19 ?_
  refine s_puti (s0 := a0) dX9_copyFrom_29 fl_X9_19 (fun h3 => ?_)
  refine s_aload_n 0 dX9_copyFrom_32 rfl rfl ?_
  refine s_aload_n 1 dX9_copyFrom_33 rfl rfl ?_
  refine s_geti (s0 := a1) dX9_copyFrom_34 fl_X9_22 ?_
  refine s_puti (s0 := a0) dX9_copyFrom_37 fl_X9_22 (fun h4 => ?_)
  refine s_aload_n 1 dX9_copyFrom_40 rfl rfl ?_
  refine s_getr1 (k2 := 37) (s0 := a1) rfl dX9_copyFrom_41 fl_X9_25 ?_
  refine s_iconst (v := 0) dX9_copyFrom_44 rfl ?_
  refine s_aload_n 0 dX9_copyFrom_45 rfl rfl ?_
  refine s_getr1 (k2 := 37) (s0 := a0) rfl dX9_copyFrom_46 fl_X9_25 ?_
  refine s_iconst (v := 0) dX9_copyFrom_49 rfl ?_
  refine s_iconst (v := 3) dX9_copyFrom_50 rfl ?_
  refine s_acopy (n := 3) (s0 := a1) (s1 := a0) (true) ka_37 ka_37 rfl rfl rfl (by decide) (by decide) (by decide) (fun _ _ _ => rfl) ac_X9_50 (Nat.le_of_ble_eq_true rfl) (Nat.le_of_ble_eq_true rfl) dX9_copyFrom_51 (fun h5 => ?_)
  refine s_iconst (v := 0) dX9_copyFrom_54 rfl ?_
  refine s_istore_n (ls' := [(2, .int 0), (0, rv g 7 a0), (1, rv g 7 a1)]) dX9_copyFrom_55 rfl (by decide) rfl ?_
  refine s_sub (ls' := [(0, rv g 7 a0), (1, rv g 7 a1), (2, .int 0)]) [1, 2, 0] rfl ?_
  refine sX9_copyFrom_l56 g a0 a1 _ (fun h10 => ?_) FU 0 h5
  exact s_vret rfl dX9_copyFrom_112
def fX11_again (l1 : Int32) (h : Hp) : Option (Int32 × Hp) :=
  if l1 < 0 then (ck (zk 0) (some (0, h)))
  else (if (3 : Int32) ≤ l1 then (ck (zk 0) (some (0, h)))
  else (if (3 : Int32) ≤ l1 then (ck (zk 0) (some (0, h)))
  else (ck (ib l1 3) (
  if (ra h 42 0 l1) = 0 then (ck (zk 0) (some (0, h)))
  else (ck (ib l1 3) (
  bnd (fX9_copyFrom 0 (0 * (0 % cnt 41) + 1 * l1.toNatClampNeg + 1) h) fun _ h1 =>
  ck (zk 1) (some (1, h1))))))))
set_option maxHeartbeats 4000000 in
set_option maxRecDepth 100000 in
theorem cX11_again_ok (g : GE) (l1 : Int32) (h : Hp) : Con cvi 0 g mX11_again 4 [rv g 9 0, .int l1] h (fX11_again l1 h) := by
  refine Con.of (by decide +kernel) (Nat.le_of_ble_eq_true rfl) ?_
  show Sim cvi 0 g mX11_again 4 0 [(0, rv g 9 0), (1, .int l1)] [] h _
  unfold fX11_again
  refine s_iload_n 1 dX11_again_0 rfl rfl ?_
  refine s_if_lt (tgt := 31) dX11_again_1 (by decide) ?_ ?_
  ·
    refine s_iconst (v := 0) dX11_again_31 rfl ?_
    exact s_zret rfl dX11_again_32
  ·
    refine s_iload_n 1 dX11_again_4 rfl rfl ?_
    refine s_aload_n 0 dX11_again_5 rfl rfl ?_
    refine s_getr (s0 := 0) dX11_again_6 fl_X11_16 ?_
    refine s_ralen7 (v := 3) kr_41 rfl dX11_again_9 ?_
    refine s_icmp_ge (tgt := 31) dX11_again_10 (by decide) ?_ ?_
    ·
      refine s_iconst (v := 0) dX11_again_31 rfl ?_
      exact s_zret rfl dX11_again_32
    ·
      refine s_iload_n 1 dX11_again_13 rfl rfl ?_
      refine s_aload_n 0 dX11_again_14 rfl rfl ?_
      refine s_getr (s0 := 0) dX11_again_15 fl_X11_20 ?_
      refine s_alen3 (v := 3) ka_42 rfl dX11_again_18 ?_
      refine s_icmp_ge (tgt := 31) dX11_again_19 (by decide) ?_ ?_
      ·
        refine s_iconst (v := 0) dX11_again_31 rfl ?_
        exact s_zret rfl dX11_again_32
      ·
        refine s_aload_n 0 dX11_again_22 rfl rfl ?_
        refine s_getr (s0 := 0) dX11_again_23 fl_X11_20 ?_
        refine s_iload_n 1 dX11_again_26 rfl rfl ?_
        refine s_zald (s0 := 0) ka_42 dX11_again_27 ?_
        refine s_if_ne (tgt := 33) dX11_again_28 (by decide) ?_ ?_
        ·
          refine s_iconst (v := 0) dX11_again_31 rfl ?_
          exact s_zret rfl dX11_again_32
        ·
          refine s_aload_n 0 dX11_again_33 rfl rfl ?_
          refine s_getr (s0 := 0) dX11_again_34 fl_X11_10 ?_
          refine s_aload_n 0 dX11_again_37 rfl rfl ?_
          refine s_getr (s0 := 0) dX11_again_38 fl_X11_16 ?_
          refine s_iload_n 1 dX11_again_41 rfl rfl ?_
          refine s_aald7 (s0 := 0) kr_41 dX11_again_42 ?_
          refine s_callVv (s0 := 0) (As := [rv g 7 (0 * (0 % cnt 41) + 1 * l1.toNatClampNeg + 1)]) (rest := []) (cX9_copyFrom_ok g 0 (0 * (0 % cnt 41) + 1 * l1.toNatClampNeg + 1) h) vl_X11_322 rfl (Nat.le_of_ble_eq_true rfl) (Nat.le_of_ble_eq_true rfl) dX11_again_43 rfl (fun h1 => ?_)
          refine s_iconst (v := 1) dX11_again_46 rfl ?_
          exact s_zret rfl dX11_again_47
def fX2_behindFirst (l1 : Int32) (h : Hp) : Option (Int32 × Hp) :=
  bnd (fX2_followerOf 0 l1 h) fun x2 h1 =>
  some (x2, h1)
set_option maxHeartbeats 4000000 in
set_option maxRecDepth 100000 in
theorem cX2_behindFirst_ok (g : GE) (l1 : Int32) (h : Hp) : Con cvi 0 g mX2_behindFirst 4 [rv g 0 0, .int l1] h (fX2_behindFirst l1 h) := by
  refine Con.of (by decide +kernel) (Nat.le_of_ble_eq_true rfl) ?_
  show Sim cvi 0 g mX2_behindFirst 4 0 [(0, rv g 0 0), (1, .int l1)] [] h _
  unfold fX2_behindFirst
  refine s_aload_n 0 dX2_behindFirst_0 rfl rfl ?_
  refine s_iconst (v := 0) dX2_behindFirst_1 rfl ?_
  refine s_iload_n 1 dX2_behindFirst_2 rfl rfl ?_
  refine s_callVi (s0 := 0) (As := [.int 0, .int l1]) (rest := []) (cX2_followerOf_ok g 0 l1 h) vl_X2_104 rfl (Nat.le_of_ble_eq_true rfl) (Nat.le_of_ble_eq_true rfl) dX2_behindFirst_3 rfl (fun x2 h1 => ?_)
  exact s_iret rfl dX2_behindFirst_6
def fX8_isLike_l37 (a0 : Nat) (a1 : Nat) (K : Hp → Option (Int32 × Hp)) (rec : Int32 → Hp → Option (Int32 × Hp)) (l2 : Int32) (h : Hp) : Option (Int32 × Hp) :=
  if (rd h 6 a0 2) ≤ l2 then (K h)
  else (ck (ib l2 5) (
  ck (ib l2 5) (
  if (ra h 33 a0 l2) = (ra h 33 a1 l2) then (ck (ib l2 5) (
  ck (ib l2 5) (
  if (ra h 34 a0 l2) = (ra h 34 a1 l2) then (ck (ib l2 5) (
  ck (ib l2 5) (
  if (ra h 35 a0 l2) = (ra h 35 a1 l2) then (lt (l2 + 1) fun x1 =>
  rec x1 h)
  else (ck (zk 0) (some (0, h))))))
  else (ck (zk 0) (some (0, h))))))
  else (ck (zk 0) (some (0, h))))))
def fX8_isLike (a0 : Nat) (a1 : Nat) (h : Hp) : Option (Int32 × Hp) :=
  if (rd h 6 a0 0) = (rd h 6 a1 0) then (if (rd h 6 a0 1) = (rd h 6 a1 1) then (if (rd h 6 a0 2) = (rd h 6 a1 2) then (itr1 (fX8_isLike_l37 a0 a1 (fun h2 => ck (zk 1) (some (1, h2)))) FU 0 h)
  else (ck (zk 0) (some (0, h))))
  else (ck (zk 0) (some (0, h))))
  else (ck (zk 0) (some (0, h)))
set_option maxHeartbeats 4000000 in
set_option maxRecDepth 100000 in
theorem sX8_isLike_l37 (g : GE) (a0 : Nat) (a1 : Nat) (K : Hp → Option (Int32 × Hp)) (hK : ∀ (h : Hp), Sim cvi 0 g mX8_isLike 2 98 [] [] h (K  h)) : ∀ (n : Nat) (l2 : Int32) (h : Hp), Sim cvi 0 g mX8_isLike 2 37 [(0, rv g 6 a0), (1, rv g 6 a1), (2, .int l2)] [] h (itr1 (fX8_isLike_l37 a0 a1 K) n l2 h) := by
  refine s_itr1 (fun l2 h o => Sim cvi 0 g mX8_isLike 2 37 [(0, rv g 6 a0), (1, rv g 6 a1), (2, .int l2)] [] h o) (fun _ _ => s_none) ?_
  intro rec hrec l2 h
  unfold fX8_isLike_l37
  refine s_iload_n 2 dX8_isLike_37 rfl rfl ?_
  refine s_aload_n 0 dX8_isLike_38 rfl rfl ?_
  refine s_geti (s0 := a0) dX8_isLike_39 fl_X8_18 ?_
  refine s_icmp_ge (tgt := 98) dX8_isLike_42 (by decide) ?_ ?_
  ·
    refine s_sub [] rfl ?_
    exact hK h
  ·
    refine s_aload_n 0 dX8_isLike_45 rfl rfl ?_
    refine s_getr1 (k2 := 33) (s0 := a0) rfl dX8_isLike_46 fl_X8_21 ?_
    refine s_iload_n 2 dX8_isLike_49 rfl rfl ?_
    refine s_iald (s0 := a0) ka_33 dX8_isLike_50 ?_
    refine s_aload_n 1 dX8_isLike_51 rfl rfl ?_
    refine s_getr1 (k2 := 33) (s0 := a1) rfl dX8_isLike_52 fl_X8_21 ?_
    refine s_iload_n 2 dX8_isLike_55 rfl rfl ?_
    refine s_iald (s0 := a1) ka_33 dX8_isLike_56 ?_
    refine s_icmp_ne (tgt := 90) dX8_isLike_57 (by decide) ?_ ?_
    ·
      refine s_aload_n 0 dX8_isLike_60 rfl rfl ?_
      refine s_getr1 (k2 := 34) (s0 := a0) rfl dX8_isLike_61 fl_X8_25 ?_
      refine s_iload_n 2 dX8_isLike_64 rfl rfl ?_
      refine s_iald (s0 := a0) ka_34 dX8_isLike_65 ?_
      refine s_aload_n 1 dX8_isLike_66 rfl rfl ?_
      refine s_getr1 (k2 := 34) (s0 := a1) rfl dX8_isLike_67 fl_X8_25 ?_
      refine s_iload_n 2 dX8_isLike_70 rfl rfl ?_
      refine s_iald (s0 := a1) ka_34 dX8_isLike_71 ?_
      refine s_icmp_ne (tgt := 90) dX8_isLike_72 (by decide) ?_ ?_
      ·
        refine s_aload_n 0 dX8_isLike_75 rfl rfl ?_
        refine s_getr1 (k2 := 35) (s0 := a0) rfl dX8_isLike_76 fl_X8_28 ?_
        refine s_iload_n 2 dX8_isLike_79 rfl rfl ?_
        refine s_iald (s0 := a0) ka_35 dX8_isLike_80 ?_
        refine s_aload_n 1 dX8_isLike_81 rfl rfl ?_
        refine s_getr1 (k2 := 35) (s0 := a1) rfl dX8_isLike_82 fl_X8_28 ?_
        refine s_iload_n 2 dX8_isLike_85 rfl rfl ?_
        refine s_iald (s0 := a1) ka_35 dX8_isLike_86 ?_
        refine s_icmp_eq (tgt := 92) dX8_isLike_87 (by decide) ?_ ?_
        ·
          refine s_iincl 2 (w := 1) (fun x1 => [(2, .int x1), (0, rv g 6 a0), (1, rv g 6 a1)]) dX8_isLike_92 rfl rfl (by decide) (fun _ => rfl) (fun x1 => ?_)
          refine s_goto (tgt := 37) dX8_isLike_95 (by decide) ?_
          refine s_sub [1, 2, 0] rfl ?_
          exact hrec x1 h
        ·
          refine s_iconst (v := 0) dX8_isLike_90 rfl ?_
          exact s_zret rfl dX8_isLike_91
      ·
        refine s_iconst (v := 0) dX8_isLike_90 rfl ?_
        exact s_zret rfl dX8_isLike_91
    ·
      refine s_iconst (v := 0) dX8_isLike_90 rfl ?_
      exact s_zret rfl dX8_isLike_91
set_option maxHeartbeats 4000000 in
set_option maxRecDepth 100000 in
theorem cX8_isLike_ok (g : GE) (a0 : Nat) (a1 : Nat) (h : Hp) : Con cvi 0 g mX8_isLike 2 [rv g 6 a0, rv g 6 a1] h (fX8_isLike a0 a1 h) := by
  refine Con.of (by decide +kernel) (Nat.le_of_ble_eq_true rfl) ?_
  show Sim cvi 0 g mX8_isLike 2 0 [(0, rv g 6 a0), (1, rv g 6 a1)] [] h _
  unfold fX8_isLike
  refine s_aload_n 0 dX8_isLike_0 rfl rfl ?_
  refine s_geti (s0 := a0) dX8_isLike_1 fl_X8_9 ?_
  refine s_aload_n 1 dX8_isLike_4 rfl rfl ?_
  refine s_geti (s0 := a1) dX8_isLike_5 fl_X8_9 ?_
  refine s_icmp_ne (tgt := 33) dX8_isLike_8 (by decide) ?_ ?_
  ·
    refine s_aload_n 0 dX8_isLike_11 rfl rfl ?_
    refine s_geti (s0 := a0) dX8_isLike_12 fl_X8_15 ?_
    refine s_aload_n 1 dX8_isLike_15 rfl rfl ?_
    refine s_geti (s0 := a1) dX8_isLike_16 fl_X8_15 ?_
    refine s_icmp_ne (tgt := 33) dX8_isLike_19 (by decide) ?_ ?_
    ·
      refine s_aload_n 0 dX8_isLike_22 rfl rfl ?_
      refine s_geti (s0 := a0) dX8_isLike_23 fl_X8_18 ?_
      refine s_aload_n 1 dX8_isLike_26 rfl rfl ?_
      refine s_geti (s0 := a1) dX8_isLike_27 fl_X8_18 ?_
      refine s_icmp_eq (tgt := 35) dX8_isLike_30 (by decide) ?_ ?_
      ·
        refine s_iconst (v := 0) dX8_isLike_35 rfl ?_
        refine s_istore_n (ls' := [(2, .int 0), (0, rv g 6 a0), (1, rv g 6 a1)]) dX8_isLike_36 rfl (by decide) rfl ?_
        refine s_sub (ls' := [(0, rv g 6 a0), (1, rv g 6 a1), (2, .int 0)]) [1, 2, 0] rfl ?_
        refine sX8_isLike_l37 g a0 a1 _ (fun h2 => ?_) FU 0 h
        refine s_iconst (v := 1) dX8_isLike_98 rfl ?_
        exact s_zret rfl dX8_isLike_99
      ·
        refine s_iconst (v := 0) dX8_isLike_33 rfl ?_
        exact s_zret rfl dX8_isLike_34
    ·
      refine s_iconst (v := 0) dX8_isLike_33 rfl ?_
      exact s_zret rfl dX8_isLike_34
  ·
    refine s_iconst (v := 0) dX8_isLike_33 rfl ?_
    exact s_zret rfl dX8_isLike_34
def fX2_exploreAll (a1 : Nat) (h : Hp) : Option (Unit × Hp) :=
  jn (κ := Hp → Option (Unit × Hp)) (fun h2 => bnd (fX2_explore a1 1 h2) fun x4 h3 =>
  some ((), h3)) fun k18_0 =>
  if (rd h 0 0 1) = 0 then (k18_0 h)
  else (bnd (fX8_isLike 10 a1 h) fun x6 h5 =>
  if x6 = 0 then (k18_0 h5)
  else (some ((), h5)))
set_option maxHeartbeats 4000000 in
set_option maxRecDepth 100000 in
theorem cX2_exploreAll_ok (g : GE) (a1 : Nat) (h : Hp) : Con cvv 0 g mX2_exploreAll 7 [rv g 0 0, rv g 6 a1] h (fX2_exploreAll a1 h) := by
  refine Con.of (by decide +kernel) (Nat.le_of_ble_eq_true rfl) ?_
  show Sim cvv 0 g mX2_exploreAll 7 0 [(0, rv g 0 0), (1, rv g 6 a1)] [] h _
  unfold fX2_exploreAll
  refine s_aload_n 0 dX2_exploreAll_0 rfl rfl ?_
  refine s_geti (s0 := 0) dX2_exploreAll_1 fl_X2_18 ?_
  refine s_jn (fun (k18_0 : Hp → Option (Unit × Hp)) => ∀ (h2 : Hp), Sim cvv 0 g mX2_exploreAll 7 18 [(0, rv g 0 0), (1, rv g 6 a1)] [] h2 (k18_0 h2)) (fun h2 => ?_) (fun k18_0 Hk18_0 => ?_)
  ·
    refine s_aload_n 0 dX2_exploreAll_18 rfl rfl ?_
    refine s_aload_n 1 dX2_exploreAll_19 rfl rfl ?_
    refine s_iconst (v := 1) dX2_exploreAll_20 rfl ?_
    refine s_callVi (s0 := 0) (As := [rv g 6 a1, .int 1]) (rest := []) (cX2_explore_ok g a1 1 h2) vl_X2_74 rfl (Nat.le_of_ble_eq_true rfl) (Nat.le_of_ble_eq_true rfl) dX2_exploreAll_21 rfl (fun x4 h3 => ?_)
    refine s_pop dX2_exploreAll_24 rfl ?_
    exact s_vret rfl dX2_exploreAll_25
  refine s_if_eq (tgt := 18) dX2_exploreAll_4 (by decide) ?_ ?_
  ·
    exact Hk18_0 h
  ·
    refine s_aload_n 0 dX2_exploreAll_7 rfl rfl ?_
    refine s_getr (s0 := 0) dX2_exploreAll_8 fl_X2_12 ?_
    refine s_aload_n 1 dX2_exploreAll_11 rfl rfl ?_
    refine s_callVi (s0 := 10) (As := [rv g 6 a1]) (rest := []) (cX8_isLike_ok g 10 a1 h) vl_X2_70 rfl (Nat.le_of_ble_eq_true rfl) (Nat.le_of_ble_eq_true rfl) dX2_exploreAll_12 rfl (fun x6 h5 => ?_)
    refine s_if_ne (tgt := 25) dX2_exploreAll_15 (by decide) ?_ ?_
    ·
      exact Hk18_0 h5
    ·
      exact s_vret rfl dX2_exploreAll_25
def fX2_lastsFrom (l1 : Int32) (h : Hp) : Option (Int32 × Hp) :=
  jn (κ := Hp → Option (Int32 × Hp)) (fun h2 => some ((-1), h2)) fun k22_0 =>
  if l1 < 0 then (k22_0 h)
  else (if (rd h 0 0 2) ≤ l1 then (k22_0 h)
  else (ck (ib l1 2200) (
  if (ra h 14 0 l1) = 3 then (k22_0 h)
  else (ck (ib l1 2200) (
  some (ra h 16 0 l1, h))))))
set_option maxHeartbeats 4000000 in
set_option maxRecDepth 100000 in
theorem cX2_lastsFrom_ok (g : GE) (l1 : Int32) (h : Hp) : Con cvi 0 g mX2_lastsFrom 2 [rv g 0 0, .int l1] h (fX2_lastsFrom l1 h) := by
  refine Con.of (by decide +kernel) (Nat.le_of_ble_eq_true rfl) ?_
  show Sim cvi 0 g mX2_lastsFrom 2 0 [(0, rv g 0 0), (1, .int l1)] [] h _
  unfold fX2_lastsFrom
  refine s_iload_n 1 dX2_lastsFrom_0 rfl rfl ?_
  refine s_jn (fun (k22_0 : Hp → Option (Int32 × Hp)) => ∀ (h2 : Hp), Sim cvi 0 g mX2_lastsFrom 2 22 [] [] h2 (k22_0 h2)) (fun h2 => ?_) (fun k22_0 Hk22_0 => ?_)
  ·
    refine s_iconst (v := (-1)) dX2_lastsFrom_22 rfl ?_
    refine s_goto (tgt := 32) dX2_lastsFrom_23 (by decide) ?_
    exact s_iret rfl dX2_lastsFrom_32
  refine s_if_lt (tgt := 22) dX2_lastsFrom_1 (by decide) ?_ ?_
  ·
    refine s_sub [] rfl ?_
    exact Hk22_0 h
  ·
    refine s_iload_n 1 dX2_lastsFrom_4 rfl rfl ?_
    refine s_aload_n 0 dX2_lastsFrom_5 rfl rfl ?_
    refine s_geti (s0 := 0) dX2_lastsFrom_6 fl_X2_22 ?_
    refine s_icmp_ge (tgt := 22) dX2_lastsFrom_9 (by decide) ?_ ?_
    ·
      refine s_sub [] rfl ?_
      exact Hk22_0 h
    ·
      refine s_aload_n 0 dX2_lastsFrom_12 rfl rfl ?_
      refine s_getr (s0 := 0) dX2_lastsFrom_13 fl_X2_49 ?_
      refine s_iload_n 1 dX2_lastsFrom_16 rfl rfl ?_
      refine s_bald (s0 := 0) ka_14 dX2_lastsFrom_17 ?_
      refine s_iconst (v := 3) dX2_lastsFrom_18 rfl ?_
      refine s_icmp_ne (tgt := 26) dX2_lastsFrom_19 (by decide) ?_ ?_
      ·
        refine s_sub [] rfl ?_
        exact Hk22_0 h
      ·
        refine s_aload_n 0 dX2_lastsFrom_26 rfl rfl ?_
        refine s_getr (s0 := 0) dX2_lastsFrom_27 fl_X2_55 ?_
        refine s_iload_n 1 dX2_lastsFrom_30 rfl rfl ?_
        refine s_sald (s0 := 0) ka_16 dX2_lastsFrom_31 ?_
        exact s_iret rfl dX2_lastsFrom_32
def fX11_behind (l1 : Int32) (l2 : Int32) (l3 : Int32) (h : Hp) : Option (Int32 × Hp) :=
  bnd (fX9_stageAt 0 l1 h) fun x2 h1 =>
  nl x2 (some ((-2), h1))
  fun b3 => (bnd (fX8_has b3 l2 h1) fun x5 h4 =>
  if x5 = 0 then (some ((-2), h4))
  else (if l3 < 0 then (some ((-2), h4))
  else (if l3 ≤ 2 then (bnd (fX2_exploreAll b3 h4) fun _ h6 =>
  bnd (fX2_behindFirst l2 h6) fun x8 h7 =>
  if l3 = 0 then (if x8 = (-1) then (some (0, h7))
  else (some (1, h7)))
  else (if x8 = (-1) then (some ((-2), h7))
  else (if l3 = 1 then (bnd (fX2_isForever x8 h7) fun x10 h9 =>
  if x10 = 0 then (some (0, h9))
  else (some (1, h9)))
  else (bnd (fX2_lastsFrom x8 h7) fun x12 h11 =>
  some (x12, h11)))))
  else (some ((-2), h4)))))
set_option maxHeartbeats 4000000 in
set_option maxRecDepth 100000 in
theorem cX11_behind_ok (g : GE) (l1 : Int32) (l2 : Int32) (l3 : Int32) (h : Hp) : Con cvi 0 g mX11_behind 8 [rv g 9 0, .int l1, .int l2, .int l3] h (fX11_behind l1 l2 l3 h) := by
  refine Con.of (by decide +kernel) (Nat.le_of_ble_eq_true rfl) ?_
  show Sim cvi 0 g mX11_behind 8 0 [(0, rv g 9 0), (1, .int l1), (2, .int l2), (3, .int l3)] [] h _
  unfold fX11_behind
  refine s_aload_n 0 dX11_behind_0 rfl rfl ?_
  refine s_getr (s0 := 0) dX11_behind_1 fl_X11_10 ?_
  refine s_iload_n 1 dX11_behind_4 rfl rfl ?_
  refine s_callVq (s0 := 0) (As := [.int l1]) (rest := []) (cX9_stageAt_ok g 0 l1 h) vl_X11_85 rfl (Nat.le_of_ble_eq_true rfl) (Nat.le_of_ble_eq_true rfl) dX11_behind_5 rfl (fun x2 h1 => ?_)
  refine s_astoreq (ls' := [(4, rq g 6 x2), (0, rv g 9 0), (1, .int l1), (2, .int l2), (3, .int l3)]) dX11_behind_8 (by decide) (List.forall_mem_cons.mpr ⟨rfl, (List.forall_mem_cons.mpr ⟨rfl, (List.forall_mem_cons.mpr ⟨rfl, (List.forall_mem_cons.mpr ⟨rfl, (fun _ h => absurd h List.not_mem_nil)⟩)⟩)⟩)⟩) rfl ?_
  refine s_aloadq 0 dX11_behind_10 rfl ?_
  refine s_ifnull x2 (tgt := 33) (fun qq => [(4, rq g 6 qq), (0, rv g 9 0), (1, .int l1), (2, .int l2), (3, .int l3)]) dX11_behind_12 (by decide) ?_ (fun b3 => ?_)
  ·
    refine s_bipush (v := (-2)) dX11_behind_33 rfl ?_
    exact s_iret rfl dX11_behind_35
  ·
    refine s_aload 0 dX11_behind_15 rfl ?_
    refine s_iload_n 3 dX11_behind_17 rfl rfl ?_
    refine s_callVi (s0 := b3) (As := [.int l2]) (rest := []) (cX8_has_ok g b3 l2 h1) vl_X11_172 rfl (Nat.le_of_ble_eq_true rfl) (Nat.le_of_ble_eq_true rfl) dX11_behind_18 rfl (fun x5 h4 => ?_)
    refine s_if_eq (tgt := 33) dX11_behind_21 (by decide) ?_ ?_
    ·
      refine s_bipush (v := (-2)) dX11_behind_33 rfl ?_
      exact s_iret rfl dX11_behind_35
    ·
      refine s_iload_n 4 dX11_behind_24 rfl rfl ?_
      refine s_if_lt (tgt := 33) dX11_behind_25 (by decide) ?_ ?_
      ·
        refine s_bipush (v := (-2)) dX11_behind_33 rfl ?_
        exact s_iret rfl dX11_behind_35
      ·
        refine s_iload_n 4 dX11_behind_28 rfl rfl ?_
        refine s_iconst (v := 2) dX11_behind_29 rfl ?_
        refine s_icmp_le (tgt := 36) dX11_behind_30 (by decide) ?_ ?_
        ·
          refine s_aload_n 1 dX11_behind_36 rfl rfl ?_
          refine s_getr (s0 := 0) dX11_behind_37 fl_X11_49 ?_
          refine s_aload 0 dX11_behind_40 rfl ?_
          refine s_callVv (s0 := 0) (As := [rv g 6 b3]) (rest := []) (cX2_exploreAll_ok g b3 h4) vl_X11_131 rfl (Nat.le_of_ble_eq_true rfl) (Nat.le_of_ble_eq_true rfl) dX11_behind_42 rfl (fun h6 => ?_)
          refine s_aload_n 1 dX11_behind_45 rfl rfl ?_
          refine s_getr (s0 := 0) dX11_behind_46 fl_X11_49 ?_
          refine s_iload_n 3 dX11_behind_49 rfl rfl ?_
          refine s_callVi (s0 := 0) (As := [.int l2]) (rest := []) (cX2_behindFirst_ok g l2 h6) vl_X11_173 rfl (Nat.le_of_ble_eq_true rfl) (Nat.le_of_ble_eq_true rfl) dX11_behind_50 rfl (fun x8 h7 => ?_)
          refine s_istore (ls' := [(5, .int x8), (4, rv g 6 b3), (0, rv g 9 0), (1, .int l1), (2, .int l2), (3, .int l3)]) dX11_behind_53 (by decide) rfl ?_
          refine s_iload_n 5 dX11_behind_55 rfl rfl ?_
          refine s_if_ne (tgt := 71) dX11_behind_56 (by decide) ?_ ?_
          ·
            refine s_iload 0 dX11_behind_59 rfl ?_
            refine s_iconst (v := (-1)) dX11_behind_61 rfl ?_
            refine s_icmp_ne (tgt := 69) dX11_behind_62 (by decide) ?_ ?_
            ·
              refine s_iconst (v := 0) dX11_behind_65 rfl ?_
              refine s_goto (tgt := 70) dX11_behind_66 (by decide) ?_
              exact s_iret rfl dX11_behind_70
            ·
              refine s_iconst (v := 1) dX11_behind_69 rfl ?_
              exact s_iret rfl dX11_behind_70
          ·
            refine s_iload 0 dX11_behind_71 rfl ?_
            refine s_iconst (v := (-1)) dX11_behind_73 rfl ?_
            refine s_icmp_ne (tgt := 80) dX11_behind_74 (by decide) ?_ ?_
            ·
              refine s_bipush (v := (-2)) dX11_behind_77 rfl ?_
              exact s_iret rfl dX11_behind_79
            ·
              refine s_iload_n 5 dX11_behind_80 rfl rfl ?_
              refine s_iconst (v := 1) dX11_behind_81 rfl ?_
              refine s_icmp_ne (tgt := 103) dX11_behind_82 (by decide) ?_ ?_
              ·
                refine s_aload_n 2 dX11_behind_85 rfl rfl ?_
                refine s_getr (s0 := 0) dX11_behind_86 fl_X11_49 ?_
                refine s_iload 0 dX11_behind_89 rfl ?_
                refine s_callVi (s0 := 0) (As := [.int x8]) (rest := []) (cX2_isForever_ok g x8 h7) vl_X11_176 rfl (Nat.le_of_ble_eq_true rfl) (Nat.le_of_ble_eq_true rfl) dX11_behind_91 rfl (fun x10 h9 => ?_)
                refine s_if_eq (tgt := 101) dX11_behind_94 (by decide) ?_ ?_
                ·
                  refine s_iconst (v := 0) dX11_behind_101 rfl ?_
                  exact s_iret rfl dX11_behind_102
                ·
                  refine s_iconst (v := 1) dX11_behind_97 rfl ?_
                  refine s_goto (tgt := 102) dX11_behind_98 (by decide) ?_
                  exact s_iret rfl dX11_behind_102
              ·
                refine s_aload_n 2 dX11_behind_103 rfl rfl ?_
                refine s_getr (s0 := 0) dX11_behind_104 fl_X11_49 ?_
                refine s_iload 0 dX11_behind_107 rfl ?_
                refine s_callVi (s0 := 0) (As := [.int x8]) (rest := []) (cX2_lastsFrom_ok g x8 h7) vl_X11_179 rfl (Nat.le_of_ble_eq_true rfl) (Nat.le_of_ble_eq_true rfl) dX11_behind_109 rfl (fun x12 h11 => ?_)
                exact s_iret rfl dX11_behind_112
        ·
          refine s_bipush (v := (-2)) dX11_behind_33 rfl ?_
          exact s_iret rfl dX11_behind_35
def fX11_commonDivisor_l7 (K : Int32 → Hp → Option (Int32 × Hp)) (rec : Int32 → Int32 → Int32 → Hp → Option (Int32 × Hp)) (l2 l3 l4 : Int32) (h : Hp) : Option (Int32 × Hp) :=
  if (100 : Int32) ≤ l4 then (K l2 h)
  else (if l3 = 0 then (K l2 h)
  else (ck (!decide (l3 = 0)) (
  lt (irm l2 l3) fun x1 =>
  lt (l4 + 1) fun x2 =>
  rec l3 x1 x2 h)))
def fX11_commonDivisor (l0 : Int32) (l1 : Int32) (h : Hp) : Option (Int32 × Hp) :=
  itr3 (fX11_commonDivisor_l7 (fun y3 h4 => some (y3, h4))) FU l0 l1 0 h
set_option maxHeartbeats 4000000 in
set_option maxRecDepth 100000 in
theorem sX11_commonDivisor_l7 (g : GE) (K : Int32 → Hp → Option (Int32 × Hp)) (hK : ∀ (y2 : Int32) (h : Hp), Sim cvi 0 g mX11_commonDivisor 2 34 [(2, .int y2)] [] h (K y2 h)) : ∀ (n : Nat) (l2 l3 l4 : Int32) (h : Hp), Sim cvi 0 g mX11_commonDivisor 2 7 [(2, .int l2), (3, .int l3), (4, .int l4)] [] h (itr3 (fX11_commonDivisor_l7 K) n l2 l3 l4 h) := by
  refine s_itr3 (fun l2 l3 l4 h o => Sim cvi 0 g mX11_commonDivisor 2 7 [(2, .int l2), (3, .int l3), (4, .int l4)] [] h o) (fun _ _ _ _ => s_none) ?_
  intro rec hrec l2 l3 l4 h
  unfold fX11_commonDivisor_l7
  refine s_iload 2 dX11_commonDivisor_7 rfl ?_
  refine s_bipush (v := 100) dX11_commonDivisor_9 rfl ?_
  refine s_icmp_ge (tgt := 34) dX11_commonDivisor_11 (by decide) ?_ ?_
  ·
    refine s_sub [0] rfl ?_
    exact hK l2 h
  ·
    refine s_iload_n 1 dX11_commonDivisor_14 rfl rfl ?_
    refine s_if_eq (tgt := 34) dX11_commonDivisor_15 (by decide) ?_ ?_
    ·
      refine s_sub [0] rfl ?_
      exact hK l2 h
    ·
      refine s_iload_n 0 dX11_commonDivisor_18 rfl rfl ?_
      refine s_iload_n 1 dX11_commonDivisor_19 rfl rfl ?_
      refine s_irem dX11_commonDivisor_20 ?_
      refine s_leti (fun x1 => ?_)
      refine s_istore (ls' := [(5, .int x1), (2, .int l2), (3, .int l3), (4, .int l4)]) dX11_commonDivisor_21 (by decide) rfl ?_
      refine s_iload_n 2 dX11_commonDivisor_23 rfl rfl ?_
      refine s_istore_n (ls' := [(2, .int l3), (5, .int x1), (3, .int l3), (4, .int l4)]) dX11_commonDivisor_24 rfl (by decide) rfl ?_
      refine s_iload 1 dX11_commonDivisor_25 rfl ?_
      refine s_istore_n (ls' := [(3, .int x1), (2, .int l3), (5, .int x1), (4, .int l4)]) dX11_commonDivisor_27 rfl (by decide) rfl ?_
      refine s_iincl 3 (w := 1) (fun x2 => [(4, .int x2), (3, .int x1), (2, .int l3), (5, .int x1)]) dX11_commonDivisor_28 rfl rfl (by decide) (fun _ => rfl) (fun x2 => ?_)
      refine s_goto (tgt := 7) dX11_commonDivisor_31 (by decide) ?_
      refine s_sub [2, 1, 0] rfl ?_
      exact hrec l3 x1 x2 h
set_option maxHeartbeats 4000000 in
set_option maxRecDepth 100000 in
theorem cX11_commonDivisor_ok (g : GE) (l0 : Int32) (l1 : Int32) (h : Hp) : Con cvi 0 g mX11_commonDivisor 2 [.int l0, .int l1] h (fX11_commonDivisor l0 l1 h) := by
  refine Con.of (by decide +kernel) (Nat.le_of_ble_eq_true rfl) ?_
  show Sim cvi 0 g mX11_commonDivisor 2 0 [(0, .int l0), (1, .int l1)] [] h _
  unfold fX11_commonDivisor
  refine s_iload_n 0 dX11_commonDivisor_0 rfl rfl ?_
  refine s_istore_n (ls' := [(2, .int l0), (0, .int l0), (1, .int l1)]) dX11_commonDivisor_1 rfl (by decide) rfl ?_
  refine s_iload_n 2 dX11_commonDivisor_2 rfl rfl ?_
  refine s_istore_n (ls' := [(3, .int l1), (2, .int l0), (0, .int l0), (1, .int l1)]) dX11_commonDivisor_3 rfl (by decide) rfl ?_
  refine s_iconst (v := 0) dX11_commonDivisor_4 rfl ?_
  refine s_istore (ls' := [(4, .int 0), (3, .int l1), (2, .int l0), (0, .int l0), (1, .int l1)]) dX11_commonDivisor_5 (by decide) rfl ?_
  refine s_sub (ls' := [(2, .int l0), (3, .int l1), (4, .int 0)]) [2, 1, 0] rfl ?_
  refine sX11_commonDivisor_l7 g _ (fun y3 h4 => ?_) FU l0 l1 0 h
  refine s_iload_n 0 dX11_commonDivisor_34 rfl rfl ?_
  exact s_iret rfl dX11_commonDivisor_35
