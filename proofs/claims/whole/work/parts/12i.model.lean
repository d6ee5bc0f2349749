def fX12_play_l2 (l1 : Int32) (K : Int32 → Hp → Option (Int32 × Hp)) (rec : Int32 → Hp → Option (Int32 × Hp)) (l2 : Int32) (h : Hp) : Option (Int32 × Hp) :=
  if l1 ≤ l2 then (K l2 h)
  else (bnd (fX12_doesDeed l2 h) fun x2 h1 =>
  if x2 = 0 then (K l2 h1)
  else (lt (l2 + 1) fun x3 =>
  rec x3 h1))
def fX12_play (l1 : Int32) (h : Hp) : Option (Int32 × Hp) :=
  itr1 (fX12_play_l2 l1 (fun y4 h5 => some (y4, h5))) FU 0 h
set_option maxHeartbeats 4000000 in
set_option maxRecDepth 100000 in
theorem sX12_play_l2 (g : GE) (l1 : Int32) (K : Int32 → Hp → Option (Int32 × Hp)) (hK : ∀ (y2 : Int32) (h : Hp), Sim cvi 1 g mX12_play 7 21 [(2, .int y2)] [] h (K y2 h)) : ∀ (n : Nat) (l2 : Int32) (h : Hp), Sim cvi 1 g mX12_play 7 2 [(0, rv g 10 0), (1, .int l1), (2, .int l2)] [] h (itr1 (fX12_play_l2 l1 K) n l2 h) := by
  refine s_itr1 (fun l2 h o => Sim cvi 1 g mX12_play 7 2 [(0, rv g 10 0), (1, .int l1), (2, .int l2)] [] h o) (fun _ _ => s_none) ?_
  intro rec hrec l2 h
  unfold fX12_play_l2
  refine s_iload_n 2 dX12_play_2 rfl rfl ?_
  refine s_iload_n 1 dX12_play_3 rfl rfl ?_
  refine s_icmp_ge (tgt := 21) dX12_play_4 (by decide) ?_ ?_
  ·
    refine s_sub [2] rfl ?_
    exact hK l2 h
  ·
    refine s_aload_n 0 dX12_play_7 rfl rfl ?_
    refine s_iload_n 2 dX12_play_8 rfl rfl ?_
    refine s_callVi (s0 := 0) (As := [.int l2]) (rest := []) (cX12_doesDeed_ok g l2 h) vl_X12_313 rfl (Nat.le_of_ble_eq_true rfl) (Nat.le_of_ble_eq_true rfl) dX12_play_9 rfl (fun x2 h1 => ?_)
    refine s_if_eq (tgt := 21) dX12_play_12 (by decide) ?_ ?_
    ·
      refine s_sub [2] rfl ?_
      exact hK l2 h1
    ·
      refine s_iincl 2 (w := 1) (fun x3 => [(2, .int x3), (0, rv g 10 0), (1, .int l1)]) dX12_play_15 rfl rfl (by decide) (fun _ => rfl) (fun x3 => ?_)
      refine s_goto (tgt := 2) dX12_play_18 (by decide) ?_
      refine s_sub [1, 2, 0] rfl ?_
      exact hrec x3 h1
set_option maxHeartbeats 4000000 in
set_option maxRecDepth 100000 in
theorem cX12_play_ok (g : GE) (l1 : Int32) (h : Hp) : Con cvi 1 g mX12_play 7 [rv g 10 0, .int l1] h (fX12_play l1 h) := by
  refine Con.of (by decide +kernel) (Nat.le_of_ble_eq_true rfl) ?_
  show Sim cvi 1 g mX12_play 7 0 [(0, rv g 10 0), (1, .int l1)] [] h _
  unfold fX12_play
  refine s_iconst (v := 0) dX12_play_0 rfl ?_
  refine s_istore_n (ls' := [(2, .int 0), (0, rv g 10 0), (1, .int l1)]) dX12_play_1 rfl (by decide) rfl ?_
  refine s_sub (ls' := [(0, rv g 10 0), (1, .int l1), (2, .int 0)]) [1, 2, 0] rfl ?_
  refine sX12_play_l2 g l1 _ (fun y4 h5 => ?_) FU 0 h
  refine s_iload_n 0 dX12_play_21 rfl rfl ?_
  exact s_iret rfl dX12_play_22
def fX12_readText_l2 (K : Hp → Option (Int32 × Hp)) (rec : Int32 → Hp → Option (Int32 × Hp)) (l2 : Int32) (h : Hp) : Option (Int32 × Hp) :=
  if (81 : Int32) ≤ l2 then (K h)
  else (ck (ib l2 81) (lt (wa h 51 0 l2 0) fun h1 =>
  lt (l2 + 1) fun x2 =>
  rec x2 h1))
def fX12_readText (l1 : Int32) (h : Hp) : Option (Int32 × Hp) :=
  itr1 (fX12_readText_l2 (fun h3 => jn (κ := Int32 → Hp → Option (Int32 × Hp)) (fun z0_3 h5 => ck (ib 0 81) (lt (wa h5 51 0 0 z0_3) fun h6 =>
  lt (wr h6 10 0 9 0) fun h7 =>
  lt (wr h7 10 0 16 0) fun h8 =>
  bnd (fX12_token h8) fun _ h9 =>
  bnd (fX12_allLines l1 h9) fun x11 h10 =>
  jn (κ := Int32 → Hp → Option (Int32 × Hp)) (fun z0_11 h13 => ck (ib 0 4) (lt (wa h13 45 0 0 z0_11) fun h14 =>
  jn (κ := Int32 → Hp → Option (Int32 × Hp)) (fun z0_14 h16 => ck (ib 0 4) (lt (wa h16 46 0 0 z0_14) fun h17 =>
  ck (ib 0 4) (
  if (ra h17 45 0 0) = 0 then (ck (zk 1) (some (1, h17)))
  else (ck (zk 0) (some (0, h17)))))) fun k114_14 =>
  if x11 = 0 then (k114_14 (rd h14 10 0 15) h14)
  else (if (rd h14 10 0 16) ≤ 0 then (k114_14 (-1) h14)
  else (k114_14 (rd h14 10 0 17) h14)))) fun k82_11 =>
  if x11 = 0 then (k82_11 1 h10)
  else (k82_11 (rd h10 10 0 16) h10))) fun k44_3 =>
  if l1 = 0 then (k44_3 2 h3)
  else (if l1 = 2 then (k44_3 1 h3)
  else (k44_3 0 h3)))) FU 0 h
set_option maxHeartbeats 4000000 in
set_option maxRecDepth 100000 in
theorem sX12_readText_l2 (g : GE) (l1 : Int32) (K : Hp → Option (Int32 × Hp)) (hK : ∀ (h : Hp), Sim cvi 1 g mX12_readText 8 21 [(0, rv g 10 0), (1, .int l1)] [] h (K  h)) : ∀ (n : Nat) (l2 : Int32) (h : Hp), Sim cvi 1 g mX12_readText 8 2 [(0, rv g 10 0), (1, .int l1), (2, .int l2)] [] h (itr1 (fX12_readText_l2 K) n l2 h) := by
  refine s_itr1 (fun l2 h o => Sim cvi 1 g mX12_readText 8 2 [(0, rv g 10 0), (1, .int l1), (2, .int l2)] [] h o) (fun _ _ => s_none) ?_
  intro rec hrec l2 h
  unfold fX12_readText_l2
  refine s_iload_n 2 dX12_readText_2 rfl rfl ?_
  refine s_bipush (v := 81) dX12_readText_3 rfl ?_
  refine s_icmp_ge (tgt := 21) dX12_readText_5 (by decide) ?_ ?_
  ·
    refine s_sub [0, 1] rfl ?_
    exact hK h
  ·
    refine s_aload_n 0 dX12_readText_8 rfl rfl ?_
    refine s_getr (s0 := 0) dX12_readText_9 fl_X12_35 ?_
    refine s_iload_n 2 dX12_readText_12 rfl rfl ?_
    refine s_iconst (v := 0) dX12_readText_13 rfl ?_
    refine s_iast (s0 := 0) ka_51 dX12_readText_14 (fun h1 => ?_)
    refine s_iincl 2 (w := 1) (fun x2 => [(2, .int x2), (0, rv g 10 0), (1, .int l1)]) dX12_readText_15 rfl rfl (by decide) (fun _ => rfl) (fun x2 => ?_)
    refine s_goto (tgt := 2) dX12_readText_18 (by decide) ?_
    refine s_sub [1, 2, 0] rfl ?_
    exact hrec x2 h1
set_option maxHeartbeats 4000000 in
set_option maxRecDepth 100000 in
theorem cX12_readText_ok (g : GE) (l1 : Int32) (h : Hp) : Con cvi 1 g mX12_readText 8 [rv g 10 0, .int l1] h (fX12_readText l1 h) := by
  refine Con.of (by decide +kernel) (Nat.le_of_ble_eq_true rfl) ?_
  show Sim cvi 1 g mX12_readText 8 0 [(0, rv g 10 0), (1, .int l1)] [] h _
  unfold fX12_readText
  refine s_iconst (v := 0) dX12_readText_0 rfl ?_
  refine s_istore_n (ls' := [(2, .int 0), (0, rv g 10 0), (1, .int l1)]) dX12_readText_1 rfl (by decide) rfl ?_
  refine s_sub (ls' := [(0, rv g 10 0), (1, .int l1), (2, .int 0)]) [1, 2, 0] rfl ?_
  refine sX12_readText_l2 g l1 _ (fun h3 => ?_) FU 0 h
  refine s_aload_n 0 dX12_readText_21 rfl rfl ?_
  refine s_getr (s0 := 0) dX12_readText_22 fl_X12_35 ?_
  refine s_iconst (v := 0) dX12_readText_25 rfl ?_
  refine s_iload_n 1 dX12_readText_26 rfl rfl ?_
  refine s_jn (fun (k44_3 : Int32 → Hp → Option (Int32 × Hp)) => ∀ (z0_3 : Int32) (h5 : Hp), Sim cvi 1 g mX12_readText 8 44 [(0, rv g 10 0), (1, .int l1)] [.int z0_3, .int 0, rv g 51 0] h5 (k44_3 z0_3 h5)) (fun z0_3 h5 => ?_) (fun k44_3 Hk44_3 => ?_)
  ·
    refine s_iast (s0 := 0) ka_51 dX12_readText_44 (fun h6 => ?_)
    refine s_aload_n 0 dX12_readText_45 rfl rfl ?_
    refine s_iconst (v := 0) dX12_readText_46 rfl ?_
    refine s_puti (s0 := 0) dX12_readText_47 fl_X12_108 (fun h7 => ?_)
    refine s_aload_n 0 dX12_readText_50 rfl rfl ?_
    refine s_iconst (v := 0) dX12_readText_51 rfl ?_
    refine s_puti (s0 := 0) dX12_readText_52 fl_X12_134 (fun h8 => ?_)
    refine s_aload_n 0 dX12_readText_55 rfl rfl ?_
    refine s_callVv (s0 := 0) (As := []) (rest := []) (cX12_token_ok g h8) vl_X12_152 rfl (Nat.le_of_ble_eq_true rfl) (Nat.le_of_ble_eq_true rfl) dX12_readText_56 rfl (fun h9 => ?_)
    refine s_aload_n 0 dX12_readText_59 rfl rfl ?_
    refine s_iload_n 1 dX12_readText_60 rfl rfl ?_
    refine s_callVi (s0 := 0) (As := [.int l1]) (rest := []) (cX12_allLines_ok g l1 h9) vl_X12_206 rfl (Nat.le_of_ble_eq_true rfl) (Nat.le_of_ble_eq_true rfl) dX12_readText_61 rfl (fun x11 h10 => ?_)
    refine s_istore_n (ls' := [(2, .int x11), (0, rv g 10 0), (1, .int l1)]) dX12_readText_64 rfl (by decide) rfl ?_
    refine s_aload_n 1 dX12_readText_65 rfl rfl ?_
    refine s_getr (s0 := 0) dX12_readText_66 fl_X12_17 ?_
    refine s_iconst (v := 0) dX12_readText_69 rfl ?_
    refine s_iload_n 0 dX12_readText_70 rfl rfl ?_
    refine s_jn (fun (k82_11 : Int32 → Hp → Option (Int32 × Hp)) => ∀ (z0_11 : Int32) (h13 : Hp), Sim cvi 1 g mX12_readText 8 82 [(0, rv g 10 0), (2, .int x11)] [.int z0_11, .int 0, rv g 45 0] h13 (k82_11 z0_11 h13)) (fun z0_11 h13 => ?_) (fun k82_11 Hk82_11 => ?_)
    ·
      refine s_iast (s0 := 0) ka_45 dX12_readText_82 (fun h14 => ?_)
      refine s_aload_n 0 dX12_readText_83 rfl rfl ?_
      refine s_getr (s0 := 0) dX12_readText_84 fl_X12_20 ?_
      refine s_iconst (v := 0) dX12_readText_87 rfl ?_
      refine s_iload_n 1 dX12_readText_88 rfl rfl ?_
      refine s_jn (fun (k114_14 : Int32 → Hp → Option (Int32 × Hp)) => ∀ (z0_14 : Int32) (h16 : Hp), Sim cvi 1 g mX12_readText 8 114 [(0, rv g 10 0)] [.int z0_14, .int 0, rv g 46 0] h16 (k114_14 z0_14 h16)) (fun z0_14 h16 => ?_) (fun k114_14 Hk114_14 => ?_)
      ·
        refine s_iast (s0 := 0) ka_46 dX12_readText_114 (fun h17 => ?_)
        refine s_aload_n 0 dX12_readText_115 rfl rfl ?_
        refine s_getr (s0 := 0) dX12_readText_116 fl_X12_17 ?_
        refine s_iconst (v := 0) dX12_readText_119 rfl ?_
        refine s_iald (s0 := 0) ka_45 dX12_readText_120 ?_
        refine s_if_ne (tgt := 128) dX12_readText_121 (by decide) ?_ ?_
        ·
          refine s_iconst (v := 1) dX12_readText_124 rfl ?_
          refine s_goto (tgt := 129) dX12_readText_125 (by decide) ?_
          exact s_zret rfl dX12_readText_129
        ·
          refine s_iconst (v := 0) dX12_readText_128 rfl ?_
          exact s_zret rfl dX12_readText_129
      refine s_if_ne (tgt := 99) dX12_readText_89 (by decide) ?_ ?_
      ·
        refine s_aload_n 0 dX12_readText_92 rfl rfl ?_
        refine s_geti (s0 := 0) dX12_readText_93 fl_X12_131 ?_
        refine s_goto (tgt := 114) dX12_readText_96 (by decide) ?_
        refine s_sub [0] rfl ?_
        exact Hk114_14 (rd h14 10 0 15) h14
      ·
        refine s_aload_n 0 dX12_readText_99 rfl rfl ?_
        refine s_geti (s0 := 0) dX12_readText_100 fl_X12_134 ?_
        refine s_if_le (tgt := 113) dX12_readText_103 (by decide) ?_ ?_
        ·
          refine s_iconst (v := (-1)) dX12_readText_113 rfl ?_
          refine s_sub [0] rfl ?_
          exact Hk114_14 (-1) h14
        ·
          refine s_aload_n 0 dX12_readText_106 rfl rfl ?_
          refine s_geti (s0 := 0) dX12_readText_107 fl_X12_137 ?_
          refine s_goto (tgt := 114) dX12_readText_110 (by decide) ?_
          refine s_sub [0] rfl ?_
          exact Hk114_14 (rd h14 10 0 17) h14
    refine s_if_eq (tgt := 81) dX12_readText_71 (by decide) ?_ ?_
    ·
      refine s_iconst (v := 1) dX12_readText_81 rfl ?_
      refine s_sub [1, 0] rfl ?_
      exact Hk82_11 1 h10
    ·
      refine s_aload_n 1 dX12_readText_74 rfl rfl ?_
      refine s_geti (s0 := 0) dX12_readText_75 fl_X12_134 ?_
      refine s_goto (tgt := 82) dX12_readText_78 (by decide) ?_
      refine s_sub [1, 0] rfl ?_
      exact Hk82_11 (rd h10 10 0 16) h10
  refine s_if_ne (tgt := 34) dX12_readText_27 (by decide) ?_ ?_
  ·
    refine s_iconst (v := 2) dX12_readText_30 rfl ?_
    refine s_goto (tgt := 44) dX12_readText_31 (by decide) ?_
    exact Hk44_3 2 h3
  ·
    refine s_iload_n 1 dX12_readText_34 rfl rfl ?_
    refine s_iconst (v := 2) dX12_readText_35 rfl ?_
    refine s_icmp_ne (tgt := 43) dX12_readText_36 (by decide) ?_ ?_
    ·
      refine s_iconst (v := 1) dX12_readText_39 rfl ?_
      refine s_goto (tgt := 44) dX12_readText_40 (by decide) ?_
      exact Hk44_3 1 h3
    ·
      refine s_iconst (v := 0) dX12_readText_43 rfl ?_
      exact Hk44_3 0 h3
def fX12_saved_l63 (l1 : Int32) (l2 : Int32) (K : Hp → Option (Int32 × Hp)) (rec : Int32 → Hp → Option (Int32 × Hp)) (l5 : Int32) (h : Hp) : Option (Int32 × Hp) :=
  if (rd h 10 0 30) ≤ l5 then (K h)
  else (bnd (fX12_digit l1 l5 l2 h) fun x8 h7 =>
  if x8 = 5 then (lt (l5 + 1) fun x9 =>
  rec x9 h7)
  else (some ((-1), h7)))
def fX12_saved_l6 (l1 : Int32) (l2 : Int32) (K : Hp → Option (Int32 × Hp)) (rec : Int32 → Hp → Option (Int32 × Hp)) (l3 : Int32) (h : Hp) : Option (Int32 × Hp) :=
  if l2 ≤ l3 then (K h)
  else (bnd (fX12_digit l1 l3 l2 h) fun x3 h2 =>
  jn (κ := Hp → Option (Int32 × Hp)) (fun h5 => if (rd h5 10 0 30) ≤ l2 then (lt (l3 + (1 : Int32)) fun x6 =>
  itr1 (fX12_saved_l63 l1 l2 (fun h10 => lt (rd h10 10 0 30) fun x11 =>
  rec x11 h10)) FU x6 h5)
  else (some ((-1), h5))) fun k48_3 =>
  if x3 = 5 then (bnd (fX12_does 0 (-1) h2) fun x13 h12 =>
  if x13 = 0 then (some ((-1), h12))
  else (k48_3 h12))
  else (bnd (fX12_does 1 x3 h2) fun x15 h14 =>
  if x15 = 0 then (some ((-1), h14))
  else (k48_3 h14)))
def fX12_saved (l1 : Int32) (l2 : Int32) (h : Hp) : Option (Int32 × Hp) :=
  bnd (fX12_beginShow h) fun _ h1 =>
  itr1 (fX12_saved_l6 l1 l2 (fun h16 => bnd (fX12_standNow h16) fun x18 h17 =>
  bnd (fX12_ones x18 h17) fun x20 h19 =>
  some (x20, h19))) FU 0 h1
set_option maxHeartbeats 4000000 in
set_option maxRecDepth 100000 in
theorem sX12_saved_l63 (g : GE) (l1 : Int32) (l2 : Int32) (K : Hp → Option (Int32 × Hp)) (hK : ∀ (h : Hp), Sim cvi 1 g mX12_saved 6 92 [(0, rv g 10 0), (1, .int l1), (2, .int l2)] [] h (K  h)) : ∀ (n : Nat) (l5 : Int32) (h : Hp), Sim cvi 1 g mX12_saved 6 63 [(0, rv g 10 0), (1, .int l1), (2, .int l2), (5, .int l5)] [] h (itr1 (fX12_saved_l63 l1 l2 K) n l5 h) := by
  refine s_itr1 (fun l5 h o => Sim cvi 1 g mX12_saved 6 63 [(0, rv g 10 0), (1, .int l1), (2, .int l2), (5, .int l5)] [] h o) (fun _ _ => s_none) ?_
  intro rec hrec l5 h
  unfold fX12_saved_l63
  refine s_iload 3 dX12_saved_63 rfl ?_
  refine s_aload_n 0 dX12_saved_65 rfl rfl ?_
  refine s_geti (s0 := 0) dX12_saved_66 fl_X12_250 ?_
  refine s_icmp_ge (tgt := 92) dX12_saved_69 (by decide) ?_ ?_
  ·
    refine s_sub [0, 1, 2] rfl ?_
    exact hK h
  ·
    refine s_aload_n 0 dX12_saved_72 rfl rfl ?_
    refine s_iload_n 1 dX12_saved_73 rfl rfl ?_
    refine s_iload 3 dX12_saved_74 rfl ?_
    refine s_iload_n 2 dX12_saved_76 rfl rfl ?_
    refine s_callVi (s0 := 0) (As := [.int l1, .int l5, .int l2]) (rest := []) (cX12_digit_ok g l1 l5 l2 h) vl_X12_417 rfl (Nat.le_of_ble_eq_true rfl) (Nat.le_of_ble_eq_true rfl) dX12_saved_77 rfl (fun x8 h7 => ?_)
    refine s_iconst (v := 5) dX12_saved_80 rfl ?_
    refine s_icmp_eq (tgt := 86) dX12_saved_81 (by decide) ?_ ?_
    ·
      refine s_iincl 3 (w := 1) (fun x9 => [(5, .int x9), (0, rv g 10 0), (1, .int l1), (2, .int l2)]) dX12_saved_86 rfl rfl (by decide) (fun _ => rfl) (fun x9 => ?_)
      refine s_goto (tgt := 63) dX12_saved_89 (by decide) ?_
      refine s_sub [1, 2, 3, 0] rfl ?_
      exact hrec x9 h7
    ·
      refine s_iconst (v := (-1)) dX12_saved_84 rfl ?_
      exact s_iret rfl dX12_saved_85
set_option maxHeartbeats 4000000 in
set_option maxRecDepth 100000 in
theorem sX12_saved_l6 (g : GE) (l1 : Int32) (l2 : Int32) (K : Hp → Option (Int32 × Hp)) (hK : ∀ (h : Hp), Sim cvi 1 g mX12_saved 6 100 [(0, rv g 10 0)] [] h (K  h)) : ∀ (n : Nat) (l3 : Int32) (h : Hp), Sim cvi 1 g mX12_saved 6 6 [(0, rv g 10 0), (1, .int l1), (2, .int l2), (3, .int l3)] [] h (itr1 (fX12_saved_l6 l1 l2 K) n l3 h) := by
  refine s_itr1 (fun l3 h o => Sim cvi 1 g mX12_saved 6 6 [(0, rv g 10 0), (1, .int l1), (2, .int l2), (3, .int l3)] [] h o) (fun _ _ => s_none) ?_
  intro rec hrec l3 h
  unfold fX12_saved_l6
  refine s_iload_n 3 dX12_saved_6 rfl rfl ?_
  refine s_iload_n 2 dX12_saved_7 rfl rfl ?_
  refine s_icmp_ge (tgt := 100) dX12_saved_8 (by decide) ?_ ?_
  ·
    refine s_sub [0] rfl ?_
    exact hK h
  ·
    refine s_aload_n 0 dX12_saved_11 rfl rfl ?_
    refine s_iload_n 1 dX12_saved_12 rfl rfl ?_
    refine s_iload_n 3 dX12_saved_13 rfl rfl ?_
    refine s_iload_n 2 dX12_saved_14 rfl rfl ?_
    refine s_callVi (s0 := 0) (As := [.int l1, .int l3, .int l2]) (rest := []) (cX12_digit_ok g l1 l3 l2 h) vl_X12_417 rfl (Nat.le_of_ble_eq_true rfl) (Nat.le_of_ble_eq_true rfl) dX12_saved_15 rfl (fun x3 h2 => ?_)
    refine s_istore (ls' := [(4, .int x3), (0, rv g 10 0), (1, .int l1), (2, .int l2), (3, .int l3)]) dX12_saved_18 (by decide) rfl ?_
    refine s_iload 0 dX12_saved_20 rfl ?_
    refine s_iconst (v := 5) dX12_saved_22 rfl ?_
    refine s_jn (fun (k48_3 : Hp → Option (Int32 × Hp)) => ∀ (h5 : Hp), Sim cvi 1 g mX12_saved 6 48 [(0, rv g 10 0), (1, .int l1), (2, .int l2), (3, .int l3)] [] h5 (k48_3 h5)) (fun h5 => ?_) (fun k48_3 Hk48_3 => ?_)
    ·
      refine s_aload_n 0 dX12_saved_48 rfl rfl ?_
      refine s_geti (s0 := 0) dX12_saved_49 fl_X12_250 ?_
      refine s_iload_n 2 dX12_saved_52 rfl rfl ?_
      refine s_icmp_le (tgt := 58) dX12_saved_53 (by decide) ?_ ?_
      ·
        refine s_iload_n 3 dX12_saved_58 rfl rfl ?_
        refine s_iconst (v := 1) dX12_saved_59 rfl ?_
        refine s_iadd dX12_saved_60 ?_
        refine s_leti (fun x6 => ?_)
        refine s_istore (ls' := [(5, .int x6), (0, rv g 10 0), (1, .int l1), (2, .int l2), (3, .int l3)]) dX12_saved_61 (by decide) rfl ?_
        refine s_sub (ls' := [(0, rv g 10 0), (1, .int l1), (2, .int l2), (5, .int x6)]) [1, 2, 3, 0] rfl ?_
        refine sX12_saved_l63 g l1 l2 _ (fun h10 => ?_) FU x6 h5
        refine s_aload_n 0 dX12_saved_92 rfl rfl ?_
        refine s_geti (s0 := 0) dX12_saved_93 fl_X12_250 ?_
        refine s_leti (fun x11 => ?_)
        refine s_istore_n (ls' := [(3, .int x11), (0, rv g 10 0), (1, .int l1), (2, .int l2)]) dX12_saved_96 rfl (by decide) rfl ?_
        refine s_goto (tgt := 6) dX12_saved_97 (by decide) ?_
        refine s_sub [1, 2, 3, 0] rfl ?_
        exact hrec x11 h10
      ·
        refine s_iconst (v := (-1)) dX12_saved_56 rfl ?_
        exact s_iret rfl dX12_saved_57
    refine s_icmp_ne (tgt := 38) dX12_saved_23 (by decide) ?_ ?_
    ·
      refine s_aload_n 1 dX12_saved_26 rfl rfl ?_
      refine s_iconst (v := 0) dX12_saved_27 rfl ?_
      refine s_iconst (v := (-1)) dX12_saved_28 rfl ?_
      refine s_callVi (s0 := 0) (As := [.int 0, .int (-1)]) (rest := []) (cX12_does_ok g 0 (-1) h2) vl_X12_310 rfl (Nat.le_of_ble_eq_true rfl) (Nat.le_of_ble_eq_true rfl) dX12_saved_29 rfl (fun x13 h12 => ?_)
      refine s_if_eq (tgt := 56) dX12_saved_32 (by decide) ?_ ?_
      ·
        refine s_iconst (v := (-1)) dX12_saved_56 rfl ?_
        exact s_iret rfl dX12_saved_57
      ·
        refine s_goto (tgt := 48) dX12_saved_35 (by decide) ?_
        refine s_sub [1, 2, 3, 4] rfl ?_
        exact Hk48_3 h12
    ·
      refine s_aload_n 1 dX12_saved_38 rfl rfl ?_
      refine s_iconst (v := 1) dX12_saved_39 rfl ?_
      refine s_iload 0 dX12_saved_40 rfl ?_
      refine s_callVi (s0 := 0) (As := [.int 1, .int x3]) (rest := []) (cX12_does_ok g 1 x3 h2) vl_X12_310 rfl (Nat.le_of_ble_eq_true rfl) (Nat.le_of_ble_eq_true rfl) dX12_saved_42 rfl (fun x15 h14 => ?_)
      refine s_if_eq (tgt := 56) dX12_saved_45 (by decide) ?_ ?_
      ·
        refine s_iconst (v := (-1)) dX12_saved_56 rfl ?_
        exact s_iret rfl dX12_saved_57
      ·
        refine s_sub [1, 2, 3, 4] rfl ?_
        exact Hk48_3 h14
set_option maxHeartbeats 4000000 in
set_option maxRecDepth 100000 in
theorem cX12_saved_ok (g : GE) (l1 : Int32) (l2 : Int32) (h : Hp) : Con cvi 1 g mX12_saved 6 [rv g 10 0, .int l1, .int l2] h (fX12_saved l1 l2 h) := by
  refine Con.of (by decide +kernel) (Nat.le_of_ble_eq_true rfl) ?_
  show Sim cvi 1 g mX12_saved 6 0 [(0, rv g 10 0), (1, .int l1), (2, .int l2)] [] h _
  unfold fX12_saved
  refine s_aload_n 0 dX12_saved_0 rfl rfl ?_
  refine s_callVv (s0 := 0) (As := []) (rest := []) (cX12_beginShow_ok g h) vl_X12_316 rfl (Nat.le_of_ble_eq_true rfl) (Nat.le_of_ble_eq_true rfl) dX12_saved_1 rfl (fun h1 => ?_)
  refine s_iconst (v := 0) dX12_saved_4 rfl ?_
  refine s_istore_n (ls' := [(3, .int 0), (0, rv g 10 0), (1, .int l1), (2, .int l2)]) dX12_saved_5 rfl (by decide) rfl ?_
  refine s_sub (ls' := [(0, rv g 10 0), (1, .int l1), (2, .int l2), (3, .int 0)]) [1, 2, 3, 0] rfl ?_
  refine sX12_saved_l6 g l1 l2 _ (fun h16 => ?_) FU 0 h1
  refine s_aload_n 0 dX12_saved_100 rfl rfl ?_
  refine s_callVi (s0 := 0) (As := []) (rest := []) (cX12_standNow_ok g h16) vl_X12_274 rfl (Nat.le_of_ble_eq_true rfl) (Nat.le_of_ble_eq_true rfl) dX12_saved_101 rfl (fun x18 h17 => ?_)
  refine s_callSi (As := [.int x18]) (rest := []) (cX12_ones_ok g x18 h17) sl_X12_389 rfl (Nat.le_of_ble_eq_true rfl) (Nat.le_of_ble_eq_true rfl) dX12_saved_104 rfl (fun x20 h19 => ?_)
  exact s_iret rfl dX12_saved_107
def fX12_save_l35 (l2 : Int32) (K : Int32 → Int32 → Hp → Option (Int32 × Hp)) (rec : Int32 → Int32 → Int32 → Hp → Option (Int32 × Hp)) (l4 l5 l6 : Int32) (h : Hp) : Option (Int32 × Hp) :=
  bnd (fX12_sixes l2 h) fun x7 h6 =>
  if x7 ≤ l6 then (K l4 l5 h6)
  else (bnd (fX12_saved l6 l2 h6) fun x9 h8 =>
  jn (κ := Int32 → Hp → Option (Int32 × Hp)) (fun z0_9 h11 => bnd (fX12_greater l4 x9 h11) fun x13 h12 =>
  lt (l6 + 1) fun x14 =>
  rec x13 z0_9 x14 h12) fun k77_9 =>
  jn (κ := Hp → Option (Int32 × Hp)) (fun h16 => k77_9 l5 h16) fun k75_14 =>
  if x9 ≤ l4 then (k75_14 h8)
  else (if l2 ≤ 0 then (k75_14 h8)
  else (bnd (fX12_digit l6 0 l2 h8) fun x18 h17 =>
  k77_9 x18 h17)))
def fX12_save (l1 : Int32) (l2 : Int32) (l3 : Int32) (h : Hp) : Option (Int32 × Hp) :=
  lt (wr h 10 0 0 0) fun h1 =>
  bnd (fX12_in l2 0 6 h1) fun x3 h2 =>
  if x3 = 0 then (some ((-9), h2))
  else (bnd (fX12_hand l1 h2) fun x5 h4 =>
  if x5 = 0 then (some ((-9), h4))
  else (itr3 (fX12_save_l35 l2 (fun y19 y20 h21 => if l3 = 0 then (some (y19, h21))
  else (some (y20, h21)))) FU (-1) (-1) 0 h4))
set_option maxHeartbeats 4000000 in
set_option maxRecDepth 100000 in
theorem sX12_save_l35 (g : GE) (l2 : Int32) (l3 : Int32) (K : Int32 → Int32 → Hp → Option (Int32 × Hp)) (hK : ∀ (y4 y5 : Int32) (h : Hp), Sim cvi 1 g mX12_save 7 94 [(3, .int l3), (4, .int y4), (5, .int y5)] [] h (K y4 y5 h)) : ∀ (n : Nat) (l4 l5 l6 : Int32) (h : Hp), Sim cvi 1 g mX12_save 7 35 [(0, rv g 10 0), (2, .int l2), (3, .int l3), (4, .int l4), (5, .int l5), (6, .int l6)] [] h (itr3 (fX12_save_l35 l2 K) n l4 l5 l6 h) := by
  refine s_itr3 (fun l4 l5 l6 h o => Sim cvi 1 g mX12_save 7 35 [(0, rv g 10 0), (2, .int l2), (3, .int l3), (4, .int l4), (5, .int l5), (6, .int l6)] [] h o) (fun _ _ _ _ => s_none) ?_
  intro rec hrec l4 l5 l6 h
  unfold fX12_save_l35
  refine s_iload 5 dX12_save_35 rfl ?_
  refine s_iload_n 1 dX12_save_37 rfl rfl ?_
  refine s_callSi (As := [.int l2]) (rest := [.int l6]) (cX12_sixes_ok g l2 h) sl_X12_414 rfl (Nat.le_of_ble_eq_true rfl) (Nat.le_of_ble_eq_true rfl) dX12_save_38 rfl (fun x7 h6 => ?_)
  refine s_icmp_ge (tgt := 94) dX12_save_41 (by decide) ?_ ?_
  ·
    refine s_sub [2, 3, 4] rfl ?_
    exact hK l4 l5 h6
  ·
    refine s_aload_n 0 dX12_save_44 rfl rfl ?_
    refine s_iload 5 dX12_save_45 rfl ?_
    refine s_iload_n 1 dX12_save_47 rfl rfl ?_
    refine s_callVi (s0 := 0) (As := [.int l6, .int l2]) (rest := []) (cX12_saved_ok g l6 l2 h6) vl_X12_421 rfl (Nat.le_of_ble_eq_true rfl) (Nat.le_of_ble_eq_true rfl) dX12_save_48 rfl (fun x9 h8 => ?_)
    refine s_istore (ls' := [(7, .int x9), (0, rv g 10 0), (2, .int l2), (3, .int l3), (4, .int l4), (5, .int l5), (6, .int l6)]) dX12_save_51 (by decide) rfl ?_
    refine s_iload 0 dX12_save_53 rfl ?_
    refine s_iload 4 dX12_save_55 rfl ?_
    refine s_jn (fun (k77_9 : Int32 → Hp → Option (Int32 × Hp)) => ∀ (z0_9 : Int32) (h11 : Hp), Sim cvi 1 g mX12_save 7 77 [(0, rv g 10 0), (2, .int l2), (3, .int l3), (4, .int l4), (6, .int l6), (7, .int x9)] [.int z0_9] h11 (k77_9 z0_9 h11)) (fun z0_9 h11 => ?_) (fun k77_9 Hk77_9 => ?_)
    ·
      refine s_istore (ls' := [(5, .int z0_9), (0, rv g 10 0), (2, .int l2), (3, .int l3), (4, .int l4), (6, .int l6), (7, .int x9)]) dX12_save_77 (by decide) rfl ?_
      refine s_iload 4 dX12_save_79 rfl ?_
      refine s_iload 6 dX12_save_81 rfl ?_
      refine s_callSi (As := [.int l4, .int x9]) (rest := []) (cX12_greater_ok g l4 x9 h11) sl_X12_280 rfl (Nat.le_of_ble_eq_true rfl) (Nat.le_of_ble_eq_true rfl) dX12_save_83 rfl (fun x13 h12 => ?_)
      refine s_istore (ls' := [(4, .int x13), (5, .int z0_9), (0, rv g 10 0), (2, .int l2), (3, .int l3), (6, .int l6), (7, .int x9)]) dX12_save_86 (by decide) rfl ?_
      refine s_iincl 5 (w := 1) (fun x14 => [(6, .int x14), (4, .int x13), (5, .int z0_9), (0, rv g 10 0), (2, .int l2), (3, .int l3), (7, .int x9)]) dX12_save_88 rfl rfl (by decide) (fun _ => rfl) (fun x14 => ?_)
      refine s_goto (tgt := 35) dX12_save_91 (by decide) ?_
      refine s_sub [3, 4, 5, 1, 2, 0] rfl ?_
      exact hrec x13 z0_9 x14 h12
    refine s_jn (fun (k75_14 : Hp → Option (Int32 × Hp)) => ∀ (h16 : Hp), Sim cvi 1 g mX12_save 7 75 [(0, rv g 10 0), (2, .int l2), (3, .int l3), (4, .int l4), (5, .int l5), (6, .int l6), (7, .int x9)] [] h16 (k75_14 h16)) (fun h16 => ?_) (fun k75_14 Hk75_14 => ?_)
    ·
      refine s_iload 4 dX12_save_75 rfl ?_
      refine s_sub [0, 1, 2, 3, 5, 6] rfl ?_
      exact Hk77_9 l5 h16
    refine s_icmp_le (tgt := 75) dX12_save_57 (by decide) ?_ ?_
    ·
      refine s_sub [1, 2, 3, 4, 5, 6, 0] rfl ?_
      exact Hk75_14 h8
    ·
      refine s_iload_n 2 dX12_save_60 rfl rfl ?_
      refine s_if_le (tgt := 75) dX12_save_61 (by decide) ?_ ?_
      ·
        refine s_sub [1, 2, 3, 4, 5, 6, 0] rfl ?_
        exact Hk75_14 h8
      ·
        refine s_aload_n 1 dX12_save_64 rfl rfl ?_
        refine s_iload 6 dX12_save_65 rfl ?_
        refine s_iconst (v := 0) dX12_save_67 rfl ?_
        refine s_iload_n 2 dX12_save_68 rfl rfl ?_
        refine s_callVi (s0 := 0) (As := [.int l6, .int 0, .int l2]) (rest := []) (cX12_digit_ok g l6 0 l2 h8) vl_X12_417 rfl (Nat.le_of_ble_eq_true rfl) (Nat.le_of_ble_eq_true rfl) dX12_save_69 rfl (fun x18 h17 => ?_)
        refine s_goto (tgt := 77) dX12_save_72 (by decide) ?_
        refine s_sub [1, 2, 3, 4, 6, 0] rfl ?_
        exact Hk77_9 x18 h17
set_option maxHeartbeats 4000000 in
set_option maxRecDepth 100000 in
theorem cX12_save_ok (g : GE) (l1 : Int32) (l2 : Int32) (l3 : Int32) (h : Hp) : Con cvi 1 g mX12_save 7 [rv g 10 0, .int l1, .int l2, .int l3] h (fX12_save l1 l2 l3 h) := by
  refine Con.of (by decide +kernel) (Nat.le_of_ble_eq_true rfl) ?_
  show Sim cvi 1 g mX12_save 7 0 [(0, rv g 10 0), (1, .int l1), (2, .int l2), (3, .int l3)] [] h _
  unfold fX12_save
  refine s_aload_n 0 dX12_save_0 rfl rfl ?_
  refine s_iconst (v := 0) dX12_save_1 rfl ?_
  refine s_puti (s0 := 0) dX12_save_2 fl_X12_88 (fun h1 => ?_)
  refine s_iload_n 2 dX12_save_5 rfl rfl ?_
  refine s_iconst (v := 0) dX12_save_6 rfl ?_
  refine s_bipush (v := 6) dX12_save_7 rfl ?_
  refine s_callSi (As := [.int l2, .int 0, .int 6]) (rest := []) (cX12_in_ok g l2 0 6 h1) sl_X12_100 rfl (Nat.le_of_ble_eq_true rfl) (Nat.le_of_ble_eq_true rfl) dX12_save_9 rfl (fun x3 h2 => ?_)
  refine s_if_eq (tgt := 23) dX12_save_12 (by decide) ?_ ?_
  ·
    refine s_bipush (v := (-9)) dX12_save_23 rfl ?_
    exact s_iret rfl dX12_save_25
  ·
    refine s_aload_n 0 dX12_save_15 rfl rfl ?_
    refine s_iload_n 1 dX12_save_16 rfl rfl ?_
    refine s_callVi (s0 := 0) (As := [.int l1]) (rest := []) (cX12_hand_ok g l1 h2) vl_X12_241 rfl (Nat.le_of_ble_eq_true rfl) (Nat.le_of_ble_eq_true rfl) dX12_save_17 rfl (fun x5 h4 => ?_)
    refine s_if_ne (tgt := 26) dX12_save_20 (by decide) ?_ ?_
    ·
      refine s_bipush (v := (-9)) dX12_save_23 rfl ?_
      exact s_iret rfl dX12_save_25
    ·
      refine s_iconst (v := (-1)) dX12_save_26 rfl ?_
      refine s_istore (ls' := [(4, .int (-1)), (0, rv g 10 0), (1, .int l1), (2, .int l2), (3, .int l3)]) dX12_save_27 (by decide) rfl ?_
      refine s_iconst (v := (-1)) dX12_save_29 rfl ?_
      refine s_istore (ls' := [(5, .int (-1)), (4, .int (-1)), (0, rv g 10 0), (1, .int l1), (2, .int l2), (3, .int l3)]) dX12_save_30 (by decide) rfl ?_
      refine s_iconst (v := 0) dX12_save_32 rfl ?_
      refine s_istore (ls' := [(6, .int 0), (5, .int (-1)), (4, .int (-1)), (0, rv g 10 0), (1, .int l1), (2, .int l2), (3, .int l3)]) dX12_save_33 (by decide) rfl ?_
      refine s_sub (ls' := [(0, rv g 10 0), (2, .int l2), (3, .int l3), (4, .int (-1)), (5, .int (-1)), (6, .int 0)]) [3, 5, 6, 2, 1, 0] rfl ?_
      refine sX12_save_l35 g l2 l3 _ (fun y19 y20 h21 => ?_) FU (-1) (-1) 0 h4
      refine s_iload_n 0 dX12_save_94 rfl rfl ?_
      refine s_if_eq (tgt := 103) dX12_save_95 (by decide) ?_ ?_
      ·
        refine s_iload 1 dX12_save_103 rfl ?_
        exact s_iret rfl dX12_save_105
      ·
        refine s_iload 2 dX12_save_98 rfl ?_
        refine s_goto (tgt := 105) dX12_save_100 (by decide) ?_
        exact s_iret rfl dX12_save_105
def fX12_stage (l1 : Int32) (l2 : Int32) (h : Hp) : Option (Int32 × Hp) :=
  lt (wr h 10 0 0 0) fun h1 =>
  bnd (fX12_hand l1 h1) fun x3 h2 =>
  if x3 = 0 then (some ((-1), h2))
  else (lt (irm l2 10) fun x4 =>
  if (10 : Int32) ≤ l2 then (jn (κ := Hp → Option (Int32 × Hp)) (fun h6 => some ((-1), h6)) fun k78_4 =>
  if (40 : Int32) ≤ l2 then (k78_4 h2)
  else (bnd (fX12_isPlate x4 h2) fun x8 h7 =>
  if x8 = 0 then (k78_4 h7)
  else (bnd (fX12_of (((3 : Int32) + ((5 : Int32) * ((l2 / 10) - (1 : Int32)))) + x4) h7) fun x10 h9 =>
  some (x10, h9))))
  else (bnd (fX12_in l2 0 2 h2) fun x12 h11 =>
  if x12 = 0 then (some ((-1), h11))
  else (bnd (fX12_of l2 h11) fun x14 h13 =>
  some (x14, h13))))
set_option maxHeartbeats 4000000 in
set_option maxRecDepth 100000 in
theorem cX12_stage_ok (g : GE) (l1 : Int32) (l2 : Int32) (h : Hp) : Con cvi 1 g mX12_stage 5 [rv g 10 0, .int l1, .int l2] h (fX12_stage l1 l2 h) := by
  refine Con.of (by decide +kernel) (Nat.le_of_ble_eq_true rfl) ?_
  show Sim cvi 1 g mX12_stage 5 0 [(0, rv g 10 0), (1, .int l1), (2, .int l2)] [] h _
  unfold fX12_stage
  refine s_aload_n 0 dX12_stage_0 rfl rfl ?_
  refine s_iconst (v := 0) dX12_stage_1 rfl ?_
  refine s_puti (s0 := 0) dX12_stage_2 fl_X12_88 (fun h1 => ?_)
  refine s_aload_n 0 dX12_stage_5 rfl rfl ?_
  refine s_iload_n 1 dX12_stage_6 rfl rfl ?_
  refine s_callVi (s0 := 0) (As := [.int l1]) (rest := []) (cX12_hand_ok g l1 h1) vl_X12_241 rfl (Nat.le_of_ble_eq_true rfl) (Nat.le_of_ble_eq_true rfl) dX12_stage_7 rfl (fun x3 h2 => ?_)
  refine s_if_ne (tgt := 15) dX12_stage_10 (by decide) ?_ ?_
  ·
    refine s_iconst (v := (-1)) dX12_stage_13 rfl ?_
    exact s_iret rfl dX12_stage_14
  ·
    refine s_iload_n 2 dX12_stage_15 rfl rfl ?_
    refine s_bipush (v := 10) dX12_stage_16 rfl ?_
    refine s_iremc dX12_stage_18 (by decide) ?_
    refine s_leti (fun x4 => ?_)
    refine s_istore_n (ls' := [(3, .int x4), (0, rv g 10 0), (1, .int l1), (2, .int l2)]) dX12_stage_19 rfl (by decide) rfl ?_
    refine s_iload_n 3 dX12_stage_20 rfl rfl ?_
    refine s_bipush (v := 10) dX12_stage_21 rfl ?_
    refine s_icmp_ge (tgt := 45) dX12_stage_23 (by decide) ?_ ?_
    ·
      refine s_iload_n 3 dX12_stage_45 rfl rfl ?_
      refine s_bipush (v := 40) dX12_stage_46 rfl ?_
      refine s_jn (fun (k78_4 : Hp → Option (Int32 × Hp)) => ∀ (h6 : Hp), Sim cvi 1 g mX12_stage 5 78 [] [] h6 (k78_4 h6)) (fun h6 => ?_) (fun k78_4 Hk78_4 => ?_)
      ·
        refine s_iconst (v := (-1)) dX12_stage_78 rfl ?_
        exact s_iret rfl dX12_stage_79
      refine s_icmp_ge (tgt := 78) dX12_stage_48 (by decide) ?_ ?_
      ·
        refine s_sub [] rfl ?_
        exact Hk78_4 h2
      ·
        refine s_aload_n 1 dX12_stage_51 rfl rfl ?_
        refine s_iload_n 0 dX12_stage_52 rfl rfl ?_
        refine s_callVi (s0 := 0) (As := [.int x4]) (rest := []) (cX12_isPlate_ok g x4 h2) vl_X12_244 rfl (Nat.le_of_ble_eq_true rfl) (Nat.le_of_ble_eq_true rfl) dX12_stage_53 rfl (fun x8 h7 => ?_)
        refine s_if_eq (tgt := 78) dX12_stage_56 (by decide) ?_ ?_
        ·
          refine s_sub [] rfl ?_
          exact Hk78_4 h7
        ·
          refine s_aload_n 1 dX12_stage_59 rfl rfl ?_
          refine s_iconst (v := 3) dX12_stage_60 rfl ?_
          refine s_iconst (v := 5) dX12_stage_61 rfl ?_
          refine s_iload_n 3 dX12_stage_62 rfl rfl ?_
          refine s_bipush (v := 10) dX12_stage_63 rfl ?_
          refine s_idivc dX12_stage_65 (by decide) ?_
          refine s_iconst (v := 1) dX12_stage_66 rfl ?_
          refine s_isub dX12_stage_67 ?_
          refine s_imul dX12_stage_68 ?_
          refine s_iadd dX12_stage_69 ?_
          refine s_iload_n 0 dX12_stage_70 rfl rfl ?_
          refine s_iadd dX12_stage_71 ?_
          refine s_callVi (s0 := 0) (As := [.int (((3 : Int32) + ((5 : Int32) * ((l2 / 10) - (1 : Int32)))) + x4)]) (rest := []) (cX12_of_ok g (((3 : Int32) + ((5 : Int32) * ((l2 / 10) - (1 : Int32)))) + x4) h7) vl_X12_222 rfl (Nat.le_of_ble_eq_true rfl) (Nat.le_of_ble_eq_true rfl) dX12_stage_72 rfl (fun x10 h9 => ?_)
          refine s_goto (tgt := 79) dX12_stage_75 (by decide) ?_
          exact s_iret rfl dX12_stage_79
    ·
      refine s_iload_n 3 dX12_stage_26 rfl rfl ?_
      refine s_iconst (v := 0) dX12_stage_27 rfl ?_
      refine s_iconst (v := 2) dX12_stage_28 rfl ?_
      refine s_callSi (As := [.int l2, .int 0, .int 2]) (rest := []) (cX12_in_ok g l2 0 2 h2) sl_X12_100 rfl (Nat.le_of_ble_eq_true rfl) (Nat.le_of_ble_eq_true rfl) dX12_stage_29 rfl (fun x12 h11 => ?_)
      refine s_if_eq (tgt := 43) dX12_stage_32 (by decide) ?_ ?_
      ·
        refine s_iconst (v := (-1)) dX12_stage_43 rfl ?_
        exact s_iret rfl dX12_stage_44
      ·
        refine s_aload_n 1 dX12_stage_35 rfl rfl ?_
        refine s_iload_n 3 dX12_stage_36 rfl rfl ?_
        refine s_callVi (s0 := 0) (As := [.int l2]) (rest := []) (cX12_of_ok g l2 h11) vl_X12_222 rfl (Nat.le_of_ble_eq_true rfl) (Nat.le_of_ble_eq_true rfl) dX12_stage_37 rfl (fun x14 h13 => ?_)
        refine s_goto (tgt := 44) dX12_stage_40 (by decide) ?_
        exact s_iret rfl dX12_stage_44
def fX12_state (l1 : Int32) (l2 : Int32) (l3 : Int32) (l4 : Int32) (h : Hp) : Option (Int32 × Hp) :=
  lt (wr h 10 0 0 0) fun h1 =>
  bnd (fX12_layAll l1 l2 h1) fun x3 h2 =>
  jn (κ := Hp → Option (Int32 × Hp)) (fun h5 => some ((-1), h5)) fun k44_3 =>
  if x3 = 0 then (k44_3 h2)
  else (bnd (fX12_deeds h2) fun x7 h6 =>
  bnd (fX12_in l3 0 x7 h6) fun x9 h8 =>
  if x9 = 0 then (k44_3 h8)
  else (bnd (fX12_play l3 h8) fun x11 h10 =>
  if x11 = l3 then (bnd (fX12_ofState l4 h10) fun x13 h12 =>
  some (x13, h12))
  else (k44_3 h10)))
set_option maxHeartbeats 4000000 in
set_option maxRecDepth 100000 in
theorem cX12_state_ok (g : GE) (l1 : Int32) (l2 : Int32) (l3 : Int32) (l4 : Int32) (h : Hp) : Con cvi 1 g mX12_state 8 [rv g 10 0, .int l1, .int l2, .int l3, .int l4] h (fX12_state l1 l2 l3 l4 h) := by
  refine Con.of (by decide +kernel) (Nat.le_of_ble_eq_true rfl) ?_
  show Sim cvi 1 g mX12_state 8 0 [(0, rv g 10 0), (1, .int l1), (2, .int l2), (3, .int l3), (4, .int l4)] [] h _
  unfold fX12_state
  refine s_aload_n 0 dX12_state_0 rfl rfl ?_
  refine s_iconst (v := 0) dX12_state_1 rfl ?_
  refine s_puti (s0 := 0) dX12_state_2 fl_X12_88 (fun h1 => ?_)
  refine s_aload_n 0 dX12_state_5 rfl rfl ?_
  refine s_iload_n 1 dX12_state_6 rfl rfl ?_
  refine s_iload_n 2 dX12_state_7 rfl rfl ?_
  refine s_callVi (s0 := 0) (As := [.int l1, .int l2]) (rest := []) (cX12_layAll_ok g l1 l2 h1) vl_X12_319 rfl (Nat.le_of_ble_eq_true rfl) (Nat.le_of_ble_eq_true rfl) dX12_state_8 rfl (fun x3 h2 => ?_)
  refine s_jn (fun (k44_3 : Hp → Option (Int32 × Hp)) => ∀ (h5 : Hp), Sim cvi 1 g mX12_state 8 44 [] [] h5 (k44_3 h5)) (fun h5 => ?_) (fun k44_3 Hk44_3 => ?_)
  ·
    refine s_iconst (v := (-1)) dX12_state_44 rfl ?_
    exact s_iret rfl dX12_state_45
  refine s_if_eq (tgt := 44) dX12_state_11 (by decide) ?_ ?_
  ·
    refine s_sub [] rfl ?_
    exact Hk44_3 h2
  ·
    refine s_iload_n 3 dX12_state_14 rfl rfl ?_
    refine s_iconst (v := 0) dX12_state_15 rfl ?_
    refine s_aload_n 0 dX12_state_16 rfl rfl ?_
    refine s_callVi (s0 := 0) (As := []) (rest := [.int 0, .int l3]) (cX12_deeds_ok g h2) vl_X12_304 rfl (Nat.le_of_ble_eq_true rfl) (Nat.le_of_ble_eq_true rfl) dX12_state_17 rfl (fun x7 h6 => ?_)
    refine s_callSi (As := [.int l3, .int 0, .int x7]) (rest := []) (cX12_in_ok g l3 0 x7 h6) sl_X12_100 rfl (Nat.le_of_ble_eq_true rfl) (Nat.le_of_ble_eq_true rfl) dX12_state_20 rfl (fun x9 h8 => ?_)
    refine s_if_eq (tgt := 44) dX12_state_23 (by decide) ?_ ?_
    ·
      refine s_sub [] rfl ?_
      exact Hk44_3 h8
    ·
      refine s_aload_n 0 dX12_state_26 rfl rfl ?_
      refine s_iload_n 3 dX12_state_27 rfl rfl ?_
      refine s_callVi (s0 := 0) (As := [.int l3]) (rest := []) (cX12_play_ok g l3 h8) vl_X12_322 rfl (Nat.le_of_ble_eq_true rfl) (Nat.le_of_ble_eq_true rfl) dX12_state_28 rfl (fun x11 h10 => ?_)
      refine s_iload_n 3 dX12_state_31 rfl rfl ?_
      refine s_icmp_ne (tgt := 44) dX12_state_32 (by decide) ?_ ?_
      ·
        refine s_aload_n 0 dX12_state_35 rfl rfl ?_
        refine s_iload 4 dX12_state_36 rfl ?_
        refine s_callVi (s0 := 0) (As := [.int l4]) (rest := []) (cX12_ofState_ok g l4 h10) vl_X12_325 rfl (Nat.le_of_ble_eq_true rfl) (Nat.le_of_ble_eq_true rfl) dX12_state_38 rfl (fun x13 h12 => ?_)
        refine s_goto (tgt := 45) dX12_state_41 (by decide) ?_
        exact s_iret rfl dX12_state_45
      ·
        refine s_sub [] rfl ?_
        exact Hk44_3 h10
def fX12_stop (l1 : Int32) (l2 : Int32) (h : Hp) : Option (Int32 × Hp) :=
  lt (wr h 10 0 0 0) fun h1 =>
  bnd (fX12_layAll l1 l2 h1) fun x3 h2 =>
  if x3 = 0 then (some ((-1), h2))
  else (bnd (fX12_deeds h2) fun x5 h4 =>
  bnd (fX12_play x5 h4) fun x7 h6 =>
  some (x7, h6))
set_option maxHeartbeats 4000000 in
set_option maxRecDepth 100000 in
theorem cX12_stop_ok (g : GE) (l1 : Int32) (l2 : Int32) (h : Hp) : Con cvi 1 g mX12_stop 8 [rv g 10 0, .int l1, .int l2] h (fX12_stop l1 l2 h) := by
  refine Con.of (by decide +kernel) (Nat.le_of_ble_eq_true rfl) ?_
  show Sim cvi 1 g mX12_stop 8 0 [(0, rv g 10 0), (1, .int l1), (2, .int l2)] [] h _
  unfold fX12_stop
  refine s_aload_n 0 dX12_stop_0 rfl rfl ?_
  refine s_iconst (v := 0) dX12_stop_1 rfl ?_
  refine s_puti (s0 := 0) dX12_stop_2 fl_X12_88 (fun h1 => ?_)
  refine s_aload_n 0 dX12_stop_5 rfl rfl ?_
  refine s_iload_n 1 dX12_stop_6 rfl rfl ?_
  refine s_iload_n 2 dX12_stop_7 rfl rfl ?_
  refine s_callVi (s0 := 0) (As := [.int l1, .int l2]) (rest := []) (cX12_layAll_ok g l1 l2 h1) vl_X12_319 rfl (Nat.le_of_ble_eq_true rfl) (Nat.le_of_ble_eq_true rfl) dX12_stop_8 rfl (fun x3 h2 => ?_)
  refine s_if_eq (tgt := 25) dX12_stop_11 (by decide) ?_ ?_
  ·
    refine s_iconst (v := (-1)) dX12_stop_25 rfl ?_
    exact s_iret rfl dX12_stop_26
  ·
    refine s_aload_n 0 dX12_stop_14 rfl rfl ?_
    refine s_aload_n 0 dX12_stop_15 rfl rfl ?_
    refine s_callVi (s0 := 0) (As := []) (rest := [rv g 10 0]) (cX12_deeds_ok g h2) vl_X12_304 rfl (Nat.le_of_ble_eq_true rfl) (Nat.le_of_ble_eq_true rfl) dX12_stop_16 rfl (fun x5 h4 => ?_)
    refine s_callVi (s0 := 0) (As := [.int x5]) (rest := []) (cX12_play_ok g x5 h4) vl_X12_322 rfl (Nat.le_of_ble_eq_true rfl) (Nat.le_of_ble_eq_true rfl) dX12_stop_19 rfl (fun x7 h6 => ?_)
    refine s_goto (tgt := 26) dX12_stop_22 (by decide) ?_
    exact s_iret rfl dX12_stop_26
def fX12_store_48_l3 (l2 : Int32) (l3 : Int32) (K : Hp → Option (Unit × Hp)) (rec : Int32 → Hp → Option (Unit × Hp)) (l4 : Int32) (h : Hp) : Option (Unit × Hp) :=
  if l2 ≤ l4 then (K h)
  else (ck (ib l4 81) (
  ck (ib ((l2 * l3) + l4) 144) (lt (wa h 48 0 ((l2 * l3) + l4) (ra h 51 0 l4)) fun h1 =>
  lt (l4 + 1) fun x2 =>
  rec x2 h1)))
def fX12_store_48 (l2 : Int32) (l3 : Int32) (h : Hp) : Option (Unit × Hp) :=
  itr1 (fX12_store_48_l3 l2 l3 (fun h3 => some ((), h3))) FU 0 h
set_option maxHeartbeats 4000000 in
set_option maxRecDepth 100000 in
theorem sX12_store_48_l3 (g : GE) (l2 : Int32) (l3 : Int32) (K : Hp → Option (Unit × Hp)) (hK : ∀ (h : Hp), Sim cvv 1 g mX12_store 2 30 [] [] h (K  h)) : ∀ (n : Nat) (l4 : Int32) (h : Hp), Sim cvv 1 g mX12_store 2 3 [(0, rv g 10 0), (1, rv g 48 0), (2, .int l2), (3, .int l3), (4, .int l4)] [] h (itr1 (fX12_store_48_l3 l2 l3 K) n l4 h) := by
  refine s_itr1 (fun l4 h o => Sim cvv 1 g mX12_store 2 3 [(0, rv g 10 0), (1, rv g 48 0), (2, .int l2), (3, .int l3), (4, .int l4)] [] h o) (fun _ _ => s_none) ?_
  intro rec hrec l4 h
  unfold fX12_store_48_l3
  refine s_iload 4 dX12_store_3 rfl ?_
  refine s_iload_n 2 dX12_store_5 rfl rfl ?_
  refine s_icmp_ge (tgt := 30) dX12_store_6 (by decide) ?_ ?_
  ·
    refine s_sub [] rfl ?_
    exact hK h
  ·
    refine s_aload_n 1 dX12_store_9 rfl rfl ?_
    refine s_iload_n 2 dX12_store_10 rfl rfl ?_
    refine s_iload_n 3 dX12_store_11 rfl rfl ?_
    refine s_imul dX12_store_12 ?_
    refine s_iload 4 dX12_store_13 rfl ?_
    refine s_iadd dX12_store_15 ?_
    refine s_aload_n 0 dX12_store_16 rfl rfl ?_
    refine s_getr (s0 := 0) dX12_store_17 fl_X12_35 ?_
    refine s_iload 4 dX12_store_20 rfl ?_
    refine s_iald (s0 := 0) ka_51 dX12_store_22 ?_
    refine s_iast (s0 := 0) ka_48 dX12_store_23 (fun h1 => ?_)
    refine s_iincl 4 (w := 1) (fun x2 => [(4, .int x2), (0, rv g 10 0), (1, rv g 48 0), (2, .int l2), (3, .int l3)]) dX12_store_24 rfl rfl (by decide) (fun _ => rfl) (fun x2 => ?_)
    refine s_goto (tgt := 3) dX12_store_27 (by decide) ?_
    refine s_sub [1, 2, 3, 4, 0] rfl ?_
    exact hrec x2 h1
set_option maxHeartbeats 4000000 in
set_option maxRecDepth 100000 in
theorem cX12_store_48_ok (g : GE) (l2 : Int32) (l3 : Int32) (h : Hp) : Con cvv 1 g mX12_store 2 [rv g 10 0, rv g 48 0, .int l2, .int l3] h (fX12_store_48 l2 l3 h) := by
  refine Con.of (by decide +kernel) (Nat.le_of_ble_eq_true rfl) ?_
  show Sim cvv 1 g mX12_store 2 0 [(0, rv g 10 0), (1, rv g 48 0), (2, .int l2), (3, .int l3)] [] h _
  unfold fX12_store_48
  refine s_iconst (v := 0) dX12_store_0 rfl ?_
  refine s_istore (ls' := [(4, .int 0), (0, rv g 10 0), (1, rv g 48 0), (2, .int l2), (3, .int l3)]) dX12_store_1 (by decide) rfl ?_
  refine s_sub (ls' := [(0, rv g 10 0), (1, rv g 48 0), (2, .int l2), (3, .int l3), (4, .int 0)]) [1, 2, 3, 4, 0] rfl ?_
  refine sX12_store_48_l3 g l2 l3 _ (fun h3 => ?_) FU 0 h
  exact s_vret rfl dX12_store_30
def fX12_store_49_l3 (l2 : Int32) (l3 : Int32) (K : Hp → Option (Unit × Hp)) (rec : Int32 → Hp → Option (Unit × Hp)) (l4 : Int32) (h : Hp) : Option (Unit × Hp) :=
  if l2 ≤ l4 then (K h)
  else (ck (ib l4 81) (
  ck (ib ((l2 * l3) + l4) 648) (lt (wa h 49 0 ((l2 * l3) + l4) (ra h 51 0 l4)) fun h1 =>
  lt (l4 + 1) fun x2 =>
  rec x2 h1)))
def fX12_store_49 (l2 : Int32) (l3 : Int32) (h : Hp) : Option (Unit × Hp) :=
  itr1 (fX12_store_49_l3 l2 l3 (fun h3 => some ((), h3))) FU 0 h
set_option maxHeartbeats 4000000 in
set_option maxRecDepth 100000 in
theorem sX12_store_49_l3 (g : GE) (l2 : Int32) (l3 : Int32) (K : Hp → Option (Unit × Hp)) (hK : ∀ (h : Hp), Sim cvv 1 g mX12_store 2 30 [] [] h (K  h)) : ∀ (n : Nat) (l4 : Int32) (h : Hp), Sim cvv 1 g mX12_store 2 3 [(0, rv g 10 0), (1, rv g 49 0), (2, .int l2), (3, .int l3), (4, .int l4)] [] h (itr1 (fX12_store_49_l3 l2 l3 K) n l4 h) := by
  refine s_itr1 (fun l4 h o => Sim cvv 1 g mX12_store 2 3 [(0, rv g 10 0), (1, rv g 49 0), (2, .int l2), (3, .int l3), (4, .int l4)] [] h o) (fun _ _ => s_none) ?_
  intro rec hrec l4 h
  unfold fX12_store_49_l3
  refine s_iload 4 dX12_store_3 rfl ?_
  refine s_iload_n 2 dX12_store_5 rfl rfl ?_
  refine s_icmp_ge (tgt := 30) dX12_store_6 (by decide) ?_ ?_
  ·
    refine s_sub [] rfl ?_
    exact hK h
  ·
    refine s_aload_n 1 dX12_store_9 rfl rfl ?_
    refine s_iload_n 2 dX12_store_10 rfl rfl ?_
    refine s_iload_n 3 dX12_store_11 rfl rfl ?_
    refine s_imul dX12_store_12 ?_
    refine s_iload 4 dX12_store_13 rfl ?_
    refine s_iadd dX12_store_15 ?_
    refine s_aload_n 0 dX12_store_16 rfl rfl ?_
    refine s_getr (s0 := 0) dX12_store_17 fl_X12_35 ?_
    refine s_iload 4 dX12_store_20 rfl ?_
    refine s_iald (s0 := 0) ka_51 dX12_store_22 ?_
    refine s_iast (s0 := 0) ka_49 dX12_store_23 (fun h1 => ?_)
    refine s_iincl 4 (w := 1) (fun x2 => [(4, .int x2), (0, rv g 10 0), (1, rv g 49 0), (2, .int l2), (3, .int l3)]) dX12_store_24 rfl rfl (by decide) (fun _ => rfl) (fun x2 => ?_)
    refine s_goto (tgt := 3) dX12_store_27 (by decide) ?_
    refine s_sub [1, 2, 3, 4, 0] rfl ?_
    exact hrec x2 h1
set_option maxHeartbeats 4000000 in
set_option maxRecDepth 100000 in
theorem cX12_store_49_ok (g : GE) (l2 : Int32) (l3 : Int32) (h : Hp) : Con cvv 1 g mX12_store 2 [rv g 10 0, rv g 49 0, .int l2, .int l3] h (fX12_store_49 l2 l3 h) := by
  refine Con.of (by decide +kernel) (Nat.le_of_ble_eq_true rfl) ?_
  show Sim cvv 1 g mX12_store 2 0 [(0, rv g 10 0), (1, rv g 49 0), (2, .int l2), (3, .int l3)] [] h _
  unfold fX12_store_49
  refine s_iconst (v := 0) dX12_store_0 rfl ?_
  refine s_istore (ls' := [(4, .int 0), (0, rv g 10 0), (1, rv g 49 0), (2, .int l2), (3, .int l3)]) dX12_store_1 (by decide) rfl ?_
  refine s_sub (ls' := [(0, rv g 10 0), (1, rv g 49 0), (2, .int l2), (3, .int l3), (4, .int 0)]) [1, 2, 3, 4, 0] rfl ?_
  refine sX12_store_49_l3 g l2 l3 _ (fun h3 => ?_) FU 0 h
  exact s_vret rfl dX12_store_30
def fX12_store_50_l3 (l2 : Int32) (l3 : Int32) (K : Hp → Option (Unit × Hp)) (rec : Int32 → Hp → Option (Unit × Hp)) (l4 : Int32) (h : Hp) : Option (Unit × Hp) :=
  if l2 ≤ l4 then (K h)
  else (ck (ib l4 81) (
  ck (ib ((l2 * l3) + l4) 208) (lt (wa h 50 0 ((l2 * l3) + l4) (ra h 51 0 l4)) fun h1 =>
  lt (l4 + 1) fun x2 =>
  rec x2 h1)))
def fX12_store_50 (l2 : Int32) (l3 : Int32) (h : Hp) : Option (Unit × Hp) :=
  itr1 (fX12_store_50_l3 l2 l3 (fun h3 => some ((), h3))) FU 0 h
set_option maxHeartbeats 4000000 in
set_option maxRecDepth 100000 in
theorem sX12_store_50_l3 (g : GE) (l2 : Int32) (l3 : Int32) (K : Hp → Option (Unit × Hp)) (hK : ∀ (h : Hp), Sim cvv 1 g mX12_store 2 30 [] [] h (K  h)) : ∀ (n : Nat) (l4 : Int32) (h : Hp), Sim cvv 1 g mX12_store 2 3 [(0, rv g 10 0), (1, rv g 50 0), (2, .int l2), (3, .int l3), (4, .int l4)] [] h (itr1 (fX12_store_50_l3 l2 l3 K) n l4 h) := by
  refine s_itr1 (fun l4 h o => Sim cvv 1 g mX12_store 2 3 [(0, rv g 10 0), (1, rv g 50 0), (2, .int l2), (3, .int l3), (4, .int l4)] [] h o) (fun _ _ => s_none) ?_
  intro rec hrec l4 h
  unfold fX12_store_50_l3
  refine s_iload 4 dX12_store_3 rfl ?_
  refine s_iload_n 2 dX12_store_5 rfl rfl ?_
  refine s_icmp_ge (tgt := 30) dX12_store_6 (by decide) ?_ ?_
  ·
    refine s_sub [] rfl ?_
    exact hK h
  ·
    refine s_aload_n 1 dX12_store_9 rfl rfl ?_
    refine s_iload_n 2 dX12_store_10 rfl rfl ?_
    refine s_iload_n 3 dX12_store_11 rfl rfl ?_
    refine s_imul dX12_store_12 ?_
    refine s_iload 4 dX12_store_13 rfl ?_
    refine s_iadd dX12_store_15 ?_
    refine s_aload_n 0 dX12_store_16 rfl rfl ?_
    refine s_getr (s0 := 0) dX12_store_17 fl_X12_35 ?_
    refine s_iload 4 dX12_store_20 rfl ?_
    refine s_iald (s0 := 0) ka_51 dX12_store_22 ?_
    refine s_iast (s0 := 0) ka_50 dX12_store_23 (fun h1 => ?_)
    refine s_iincl 4 (w := 1) (fun x2 => [(4, .int x2), (0, rv g 10 0), (1, rv g 50 0), (2, .int l2), (3, .int l3)]) dX12_store_24 rfl rfl (by decide) (fun _ => rfl) (fun x2 => ?_)
    refine s_goto (tgt := 3) dX12_store_27 (by decide) ?_
    refine s_sub [1, 2, 3, 4, 0] rfl ?_
    exact hrec x2 h1
set_option maxHeartbeats 4000000 in
set_option maxRecDepth 100000 in
theorem cX12_store_50_ok (g : GE) (l2 : Int32) (l3 : Int32) (h : Hp) : Con cvv 1 g mX12_store 2 [rv g 10 0, rv g 50 0, .int l2, .int l3] h (fX12_store_50 l2 l3 h) := by
  refine Con.of (by decide +kernel) (Nat.le_of_ble_eq_true rfl) ?_
  show Sim cvv 1 g mX12_store 2 0 [(0, rv g 10 0), (1, rv g 50 0), (2, .int l2), (3, .int l3)] [] h _
  unfold fX12_store_50
  refine s_iconst (v := 0) dX12_store_0 rfl ?_
  refine s_istore (ls' := [(4, .int 0), (0, rv g 10 0), (1, rv g 50 0), (2, .int l2), (3, .int l3)]) dX12_store_1 (by decide) rfl ?_
  refine s_sub (ls' := [(0, rv g 10 0), (1, rv g 50 0), (2, .int l2), (3, .int l3), (4, .int 0)]) [1, 2, 3, 4, 0] rfl ?_
  refine sX12_store_50_l3 g l2 l3 _ (fun h3 => ?_) FU 0 h
  exact s_vret rfl dX12_store_30
def fX12_text (l1 : Int32) (l2 : Int32) (h : Hp) : Option (Int32 × Hp) :=
  lt (wr h 10 0 0 0) fun h1 =>
  ck (ib 0 4) (
  lt (wr h1 10 0 10 (ra h1 44 0 0)) fun h2 =>
  ck (ib 0 4) (lt (wa h2 44 0 0 0) fun h3 =>
  ck (ib 0 4) (lt (wa h3 45 0 0 0) fun h4 =>
  ck (ib 0 4) (lt (wa h4 46 0 0 (-1)) fun h5 =>
  bnd (fX12_in l1 0 2 h5) fun x7 h6 =>
  if x7 = 0 then (some ((-2), h6))
  else (jn (κ := Hp → Option (Int32 × Hp)) (fun h9 => bnd (fX12_readText l1 h9) fun x11 h10 =>
  if x11 = 0 then (some ((-1), h10))
  else (jn (κ := Int32 → Hp → Option (Int32 × Hp)) (fun z0_11 h13 => ck (ib l1 12) (
  jn (κ := Int32 → Hp → Option (Int32 × Hp)) (fun z0_13 h15 => ck (ib l1 12) (lt (wa h15 47 0 l1 ((ra h13 47 0 l1) + z0_13)) fun h16 =>
  if l1 = 0 then (bnd (fX12_store_48 18 z0_11 h16) fun _ h17 =>
  some (z0_11, h17))
  else (if l1 = 1 then (bnd (fX12_store_49 81 z0_11 h16) fun _ h18 =>
  some (z0_11, h18))
  else (bnd (fX12_store_50 26 z0_11 h16) fun _ h19 =>
  some (z0_11, h19))))) fun k118_13 =>
  if l2 = (-1) then (k118_13 1 h13)
  else (k118_13 0 h13))) fun k100_11 =>
  if l2 = (-1) then (ck (ib l1 12) (
  k100_11 (ra h10 47 0 l1) h10))
  else (k100_11 l2 h10))) fun k75_7 =>
  if l2 = (-1) then (ck (ib l1 12) (
  if (ra h6 47 0 l1) = 2 then (some ((-2), h6))
  else (k75_7 h6)))
  else (bnd (fX12_is l1 l2 h6) fun x21 h20 =>
  if x21 = 0 then (some ((-2), h20))
  else (k75_7 h20)))))))
set_option maxHeartbeats 4000000 in
set_option maxRecDepth 100000 in
theorem cX12_text_ok (g : GE) (l1 : Int32) (l2 : Int32) (h : Hp) : Con cvi 1 g mX12_text 9 [rv g 10 0, .int l1, .int l2] h (fX12_text l1 l2 h) := by
  refine Con.of (by decide +kernel) (Nat.le_of_ble_eq_true rfl) ?_
  show Sim cvi 1 g mX12_text 9 0 [(0, rv g 10 0), (1, .int l1), (2, .int l2)] [] h _
  unfold fX12_text
  refine s_aload_n 0 dX12_text_0 rfl rfl ?_
  refine s_iconst (v := 0) dX12_text_1 rfl ?_
  refine s_puti (s0 := 0) dX12_text_2 fl_X12_88 (fun h1 => ?_)
  refine s_aload_n 0 dX12_text_5 rfl rfl ?_
  refine s_aload_n 0 dX12_text_6 rfl rfl ?_
  refine s_getr (s0 := 0) dX12_text_7 fl_X12_13 ?_
  refine s_iconst (v := 0) dX12_text_10 rfl ?_
  refine s_iald (s0 := 0) ka_44 dX12_text_11 ?_
  refine s_puti (s0 := 0) dX12_text_12 fl_X12_111 (fun h2 => ?_)
  refine s_aload_n 0 dX12_text_15 rfl rfl ?_
  refine s_getr (s0 := 0) dX12_text_16 fl_X12_13 ?_
  refine s_iconst (v := 0) dX12_text_19 rfl ?_
  refine s_iconst (v := 0) dX12_text_20 rfl ?_
  refine s_iast (s0 := 0) ka_44 dX12_text_21 (fun h3 => ?_)
  refine s_aload_n 0 dX12_text_22 rfl rfl ?_
  refine s_getr (s0 := 0) dX12_text_23 fl_X12_17 ?_
  refine s_iconst (v := 0) dX12_text_26 rfl ?_
  refine s_iconst (v := 0) dX12_text_27 rfl ?_
  refine s_iast (s0 := 0) ka_45 dX12_text_28 (fun h4 => ?_)
  refine s_aload_n 0 dX12_text_29 rfl rfl ?_
  refine s_getr (s0 := 0) dX12_text_30 fl_X12_20 ?_
  refine s_iconst (v := 0) dX12_text_33 rfl ?_
  refine s_iconst (v := (-1)) dX12_text_34 rfl ?_
  refine s_iast (s0 := 0) ka_46 dX12_text_35 (fun h5 => ?_)
  refine s_iload_n 1 dX12_text_36 rfl rfl ?_
  refine s_iconst (v := 0) dX12_text_37 rfl ?_
  refine s_iconst (v := 2) dX12_text_38 rfl ?_
  refine s_callSi (As := [.int l1, .int 0, .int 2]) (rest := []) (cX12_in_ok g l1 0 2 h5) sl_X12_100 rfl (Nat.le_of_ble_eq_true rfl) (Nat.le_of_ble_eq_true rfl) dX12_text_39 rfl (fun x7 h6 => ?_)
  refine s_if_eq (tgt := 72) dX12_text_42 (by decide) ?_ ?_
  ·
    refine s_bipush (v := (-2)) dX12_text_72 rfl ?_
    exact s_iret rfl dX12_text_74
  ·
    refine s_iload_n 2 dX12_text_45 rfl rfl ?_
    refine s_iconst (v := (-1)) dX12_text_46 rfl ?_
    refine s_jn (fun (k75_7 : Hp → Option (Int32 × Hp)) => ∀ (h9 : Hp), Sim cvi 1 g mX12_text 9 75 [(0, rv g 10 0), (1, .int l1), (2, .int l2)] [] h9 (k75_7 h9)) (fun h9 => ?_) (fun k75_7 Hk75_7 => ?_)
    ·
      refine s_aload_n 0 dX12_text_75 rfl rfl ?_
      refine s_iload_n 1 dX12_text_76 rfl rfl ?_
      refine s_callVi (s0 := 0) (As := [.int l1]) (rest := []) (cX12_readText_ok g l1 h9) vl_X12_212 rfl (Nat.le_of_ble_eq_true rfl) (Nat.le_of_ble_eq_true rfl) dX12_text_77 rfl (fun x11 h10 => ?_)
      refine s_if_ne (tgt := 85) dX12_text_80 (by decide) ?_ ?_
      ·
        refine s_iconst (v := (-1)) dX12_text_83 rfl ?_
        exact s_iret rfl dX12_text_84
      ·
        refine s_iload_n 2 dX12_text_85 rfl rfl ?_
        refine s_iconst (v := (-1)) dX12_text_86 rfl ?_
        refine s_jn (fun (k100_11 : Int32 → Hp → Option (Int32 × Hp)) => ∀ (z0_11 : Int32) (h13 : Hp), Sim cvi 1 g mX12_text 9 100 [(0, rv g 10 0), (1, .int l1), (2, .int l2)] [.int z0_11] h13 (k100_11 z0_11 h13)) (fun z0_11 h13 => ?_) (fun k100_11 Hk100_11 => ?_)
        ·
          refine s_istore_n (ls' := [(3, .int z0_11), (0, rv g 10 0), (1, .int l1), (2, .int l2)]) dX12_text_100 rfl (by decide) rfl ?_
          refine s_aload_n 1 dX12_text_101 rfl rfl ?_
          refine s_getr (s0 := 0) dX12_text_102 fl_X12_23 ?_
          refine s_iload_n 2 dX12_text_105 rfl rfl ?_
          refine s_dup2 dX12_text_106 rfl rfl ?_
          refine s_iald (s0 := 0) ka_47 dX12_text_107 ?_
          refine s_iload_n 3 dX12_text_108 rfl rfl ?_
          refine s_iconst (v := (-1)) dX12_text_109 rfl ?_
          refine s_jn (fun (k118_13 : Int32 → Hp → Option (Int32 × Hp)) => ∀ (z0_13 : Int32) (h15 : Hp), Sim cvi 1 g mX12_text 9 118 [(0, rv g 10 0), (1, .int l1), (3, .int z0_11)] [.int z0_13, .int (ra h13 47 0 l1), .int l1, rv g 47 0] h15 (k118_13 z0_13 h15)) (fun z0_13 h15 => ?_) (fun k118_13 Hk118_13 => ?_)
          ·
            refine s_iadd dX12_text_118 ?_
            refine s_iast (s0 := 0) ka_47 dX12_text_119 (fun h16 => ?_)
            refine s_iload_n 1 dX12_text_120 rfl rfl ?_
            refine s_if_ne (tgt := 138) dX12_text_121 (by decide) ?_ ?_
            ·
              refine s_aload_n 0 dX12_text_124 rfl rfl ?_
              refine s_aload_n 0 dX12_text_125 rfl rfl ?_
              refine s_getr (s0 := 0) dX12_text_126 fl_X12_26 ?_
              refine s_bipush (v := 18) dX12_text_129 rfl ?_
              refine s_iload_n 2 dX12_text_131 rfl rfl ?_
              refine s_callVv (s0 := 0) (As := [rv g 48 0, .int 18, .int z0_11]) (rest := []) (cX12_store_48_ok g 18 z0_11 h16) vl_X12_215 rfl (Nat.le_of_ble_eq_true rfl) (Nat.le_of_ble_eq_true rfl) dX12_text_132 rfl (fun h17 => ?_)
              refine s_goto (tgt := 168) dX12_text_135 (by decide) ?_
              refine s_iload_n 2 dX12_text_168 rfl rfl ?_
              exact s_iret rfl dX12_text_169
            ·
              refine s_iload_n 1 dX12_text_138 rfl rfl ?_
              refine s_iconst (v := 1) dX12_text_139 rfl ?_
              refine s_icmp_ne (tgt := 157) dX12_text_140 (by decide) ?_ ?_
              ·
                refine s_aload_n 0 dX12_text_143 rfl rfl ?_
                refine s_aload_n 0 dX12_text_144 rfl rfl ?_
                refine s_getr (s0 := 0) dX12_text_145 fl_X12_29 ?_
                refine s_bipush (v := 81) dX12_text_148 rfl ?_
                refine s_iload_n 2 dX12_text_150 rfl rfl ?_
                refine s_callVv (s0 := 0) (As := [rv g 49 0, .int 81, .int z0_11]) (rest := []) (cX12_store_49_ok g 81 z0_11 h16) vl_X12_215 rfl (Nat.le_of_ble_eq_true rfl) (Nat.le_of_ble_eq_true rfl) dX12_text_151 rfl (fun h18 => ?_)
                refine s_goto (tgt := 168) dX12_text_154 (by decide) ?_
                refine s_iload_n 2 dX12_text_168 rfl rfl ?_
                exact s_iret rfl dX12_text_169
              ·
                refine s_aload_n 0 dX12_text_157 rfl rfl ?_
                refine s_aload_n 0 dX12_text_158 rfl rfl ?_
                refine s_getr (s0 := 0) dX12_text_159 fl_X12_32 ?_
                refine s_bipush (v := 26) dX12_text_162 rfl ?_
                refine s_iload_n 2 dX12_text_164 rfl rfl ?_
                refine s_callVv (s0 := 0) (As := [rv g 50 0, .int 26, .int z0_11]) (rest := []) (cX12_store_50_ok g 26 z0_11 h16) vl_X12_215 rfl (Nat.le_of_ble_eq_true rfl) (Nat.le_of_ble_eq_true rfl) dX12_text_165 rfl (fun h19 => ?_)
                refine s_iload_n 2 dX12_text_168 rfl rfl ?_
                exact s_iret rfl dX12_text_169
          refine s_icmp_ne (tgt := 117) dX12_text_110 (by decide) ?_ ?_
          ·
            refine s_iconst (v := 1) dX12_text_113 rfl ?_
            refine s_goto (tgt := 118) dX12_text_114 (by decide) ?_
            refine s_sub [1, 2, 0] rfl ?_
            exact Hk118_13 1 h13
          ·
            refine s_iconst (v := 0) dX12_text_117 rfl ?_
            refine s_sub [1, 2, 0] rfl ?_
            exact Hk118_13 0 h13
        refine s_icmp_ne (tgt := 99) dX12_text_87 (by decide) ?_ ?_
        ·
          refine s_aload_n 0 dX12_text_90 rfl rfl ?_
          refine s_getr (s0 := 0) dX12_text_91 fl_X12_23 ?_
          refine s_iload_n 1 dX12_text_94 rfl rfl ?_
          refine s_iald (s0 := 0) ka_47 dX12_text_95 ?_
          refine s_goto (tgt := 100) dX12_text_96 (by decide) ?_
          exact Hk100_11 (ra h10 47 0 l1) h10
        ·
          refine s_iload_n 2 dX12_text_99 rfl rfl ?_
          exact Hk100_11 l2 h10
    refine s_icmp_ne (tgt := 63) dX12_text_47 (by decide) ?_ ?_
    ·
      refine s_aload_n 0 dX12_text_50 rfl rfl ?_
      refine s_getr (s0 := 0) dX12_text_51 fl_X12_23 ?_
      refine s_iload_n 1 dX12_text_54 rfl rfl ?_
      refine s_iald (s0 := 0) ka_47 dX12_text_55 ?_
      refine s_iconst (v := 2) dX12_text_56 rfl ?_
      refine s_icmp_ne (tgt := 75) dX12_text_57 (by decide) ?_ ?_
      ·
        refine s_goto (tgt := 72) dX12_text_60 (by decide) ?_
        refine s_bipush (v := (-2)) dX12_text_72 rfl ?_
        exact s_iret rfl dX12_text_74
      ·
        exact Hk75_7 h6
    ·
      refine s_aload_n 0 dX12_text_63 rfl rfl ?_
      refine s_iload_n 1 dX12_text_64 rfl rfl ?_
      refine s_iload_n 2 dX12_text_65 rfl rfl ?_
      refine s_callVi (s0 := 0) (As := [.int l1, .int l2]) (rest := []) (cX12_is_ok g l1 l2 h6) vl_X12_209 rfl (Nat.le_of_ble_eq_true rfl) (Nat.le_of_ble_eq_true rfl) dX12_text_66 rfl (fun x21 h20 => ?_)
      refine s_if_ne (tgt := 75) dX12_text_69 (by decide) ?_ ?_
      ·
        refine s_bipush (v := (-2)) dX12_text_72 rfl ?_
        exact s_iret rfl dX12_text_74
      ·
        exact Hk75_7 h20
