def fX2_finish_l33 (l1 : Int32) (K : Int32 → Int32 → Hp → Option (Unit × Hp)) (rec : Int32 → Int32 → Int32 → Hp → Option (Unit × Hp)) (l2 l3 l4 : Int32) (h : Hp) : Option (Unit × Hp) :=
  if (rd h 6 10 2) ≤ l4 then (K l2 l3 h)
  else (bnd (fX2_followerOf l1 l4 h) fun x6 h5 =>
  jn (κ := Int32 → Int32 → Hp → Option (Unit × Hp)) (fun y2_6 y3_6 h8 => lt (l4 + 1) fun x9 =>
  rec y2_6 y3_6 x9 h8) fun k99_6 =>
  if x6 = (-1) then (k99_6 l2 l3 h5)
  else (ck (ib x6 2200) (
  jn (κ := Int32 → Hp → Option (Unit × Hp)) (fun z0_9 h11 => lt (l2 ||| z0_9) fun x12 =>
  bnd (fX2_beatsTo l1 l4 h11) fun x14 h13 =>
  ck (ib x6 2200) (
  lt (if l3 < (x14 + (ra h13 16 0 x6)) then (x14 + (ra h13 16 0 x6)) else l3) fun x15 =>
  k99_6 x12 x15 h13)) fun k77_9 =>
  if (ra h5 14 0 x6) = 2 then (k77_9 0 h5)
  else (k77_9 1 h5))))
def fX2_finish (l1 : Int32) (h : Hp) : Option (Unit × Hp) :=
  jn (κ := Int32 → Hp → Option (Unit × Hp)) (fun z0_0 h2 => ck (ib l1 2200) (
  bnd (fX0_soonest 10 (ra h2 13 0 l1) h2) fun x4 h3 =>
  itr3 (fX2_finish_l33 l1 (fun y16 y17 h18 => jn (κ := Int32 → Hp → Option (Unit × Hp)) (fun z0_18 h20 => ck (ib l1 2200) (lt (wa h20 14 0 l1 (vp_nar .byte (z0_18.toInt8.toInt32))) fun h21 =>
  if y16 = 0 then (ck (ib l1 2200) (lt (wa h21 16 0 l1 (vp_nar .short (y17.toInt16.toInt32))) fun h22 =>
  some ((), h22)))
  else (ck (ib l1 2200) (lt (wa h21 16 0 l1 (vp_nar .short ((0 : Int32).toInt16.toInt32))) fun h23 =>
  some ((), h23))))) fun k119_18 =>
  if y16 = 0 then (k119_18 2 h18)
  else (k119_18 3 h18))) FU z0_0 x4 0 h3)) fun k15_0 =>
  if (rd h 6 10 2) = 0 then (k15_0 1 h)
  else (k15_0 0 h)
set_option maxHeartbeats 4000000 in
set_option maxRecDepth 100000 in
theorem sX2_finish_l33 (g : GE) (l1 : Int32) (K : Int32 → Int32 → Hp → Option (Unit × Hp)) (hK : ∀ (y2 y3 : Int32) (h : Hp), Sim cvv 0 g mX2_finish 5 105 [(0, rv g 0 0), (1, .int l1), (2, .int y2), (3, .int y3)] [] h (K y2 y3 h)) : ∀ (n : Nat) (l2 l3 l4 : Int32) (h : Hp), Sim cvv 0 g mX2_finish 5 33 [(0, rv g 0 0), (1, .int l1), (2, .int l2), (3, .int l3), (4, .int l4)] [] h (itr3 (fX2_finish_l33 l1 K) n l2 l3 l4 h) := by
  refine s_itr3 (fun l2 l3 l4 h o => Sim cvv 0 g mX2_finish 5 33 [(0, rv g 0 0), (1, .int l1), (2, .int l2), (3, .int l3), (4, .int l4)] [] h o) (fun _ _ _ _ => s_none) ?_
  intro rec hrec l2 l3 l4 h
  unfold fX2_finish_l33
  refine s_iload 4 dX2_finish_33 rfl ?_
  refine s_aload_n 0 dX2_finish_35 rfl rfl ?_
  refine s_getr (s0 := 0) dX2_finish_36 fl_X2_12 ?_
  refine s_geti (s0 := 10) dX2_finish_39 fl_X2_98 ?_
  refine s_icmp_ge (tgt := 105) dX2_finish_42 (by decide) ?_ ?_
  ·
    refine s_sub [0, 1, 2, 3] rfl ?_
    exact hK l2 l3 h
  ·
    refine s_aload_n 0 dX2_finish_45 rfl rfl ?_
    refine s_iload_n 1 dX2_finish_46 rfl rfl ?_
    refine s_iload 4 dX2_finish_47 rfl ?_
    refine s_callVi (s0 := 0) (As := [.int l1, .int l4]) (rest := []) (cX2_followerOf_ok g l1 l4 h) vl_X2_104 rfl (Nat.le_of_ble_eq_true rfl) (Nat.le_of_ble_eq_true rfl) dX2_finish_49 rfl (fun x6 h5 => ?_)
    refine s_istore (ls' := [(5, .int x6), (0, rv g 0 0), (1, .int l1), (2, .int l2), (3, .int l3), (4, .int l4)]) dX2_finish_52 (by decide) rfl ?_
    refine s_iload 0 dX2_finish_54 rfl ?_
    refine s_iconst (v := (-1)) dX2_finish_56 rfl ?_
    refine s_jn (fun (k99_6 : Int32 → Int32 → Hp → Option (Unit × Hp)) => ∀ (y2_6 : Int32) (y3_6 : Int32) (h8 : Hp), Sim cvv 0 g mX2_finish 5 99 [(0, rv g 0 0), (1, .int l1), (2, .int y2_6), (3, .int y3_6), (4, .int l4)] [] h8 (k99_6 y2_6 y3_6 h8)) (fun y2_6 y3_6 h8 => ?_) (fun k99_6 Hk99_6 => ?_)
    ·
      refine s_iincl 4 (w := 1) (fun x9 => [(4, .int x9), (0, rv g 0 0), (1, .int l1), (2, .int y2_6), (3, .int y3_6)]) dX2_finish_99 rfl rfl (by decide) (fun _ => rfl) (fun x9 => ?_)
      refine s_goto (tgt := 33) dX2_finish_102 (by decide) ?_
      refine s_sub [1, 2, 3, 4, 0] rfl ?_
      exact hrec y2_6 y3_6 x9 h8
    refine s_icmp_eq (tgt := 99) dX2_finish_57 (by decide) ?_ ?_
    ·
      refine s_sub [1, 2, 3, 4, 5] rfl ?_
      exact Hk99_6 l2 l3 h5
    ·
      refine s_iload_n 3 dX2_finish_60 rfl rfl ?_
      refine s_aload_n 1 dX2_finish_61 rfl rfl ?_
      refine s_getr (s0 := 0) dX2_finish_62 fl_X2_49 ?_
      refine s_iload 0 dX2_finish_65 rfl ?_
      refine s_bald (s0 := 0) ka_14 dX2_finish_67 ?_
      refine s_iconst (v := 2) dX2_finish_68 rfl ?_
      refine s_jn (fun (k77_9 : Int32 → Hp → Option (Unit × Hp)) => ∀ (z0_9 : Int32) (h11 : Hp), Sim cvv 0 g mX2_finish 5 77 [(0, rv g 0 0), (1, .int l1), (3, .int l3), (4, .int l4), (5, .int x6)] [.int z0_9, .int l2] h11 (k77_9 z0_9 h11)) (fun z0_9 h11 => ?_) (fun k77_9 Hk77_9 => ?_)
      ·
        refine s_ior dX2_finish_77 ?_
        refine s_leti (fun x12 => ?_)
        refine s_istore_n (ls' := [(2, .int x12), (0, rv g 0 0), (1, .int l1), (3, .int l3), (4, .int l4), (5, .int x6)]) dX2_finish_78 rfl (by decide) rfl ?_
        refine s_iload_n 3 dX2_finish_79 rfl rfl ?_
        refine s_aload_n 1 dX2_finish_80 rfl rfl ?_
        refine s_iload_n 2 dX2_finish_81 rfl rfl ?_
        refine s_iload 4 dX2_finish_82 rfl ?_
        refine s_callVi (s0 := 0) (As := [.int l1, .int l4]) (rest := [.int l3]) (cX2_beatsTo_ok g l1 l4 h11) vl_X2_146 rfl (Nat.le_of_ble_eq_true rfl) (Nat.le_of_ble_eq_true rfl) dX2_finish_84 rfl (fun x14 h13 => ?_)
        refine s_aload_n 1 dX2_finish_87 rfl rfl ?_
        refine s_getr (s0 := 0) dX2_finish_88 fl_X2_55 ?_
        refine s_iload 5 dX2_finish_91 rfl ?_
        refine s_sald (s0 := 0) ka_16 dX2_finish_93 ?_
        refine s_iadd dX2_finish_94 ?_
        refine s_mmax w_4_89 mw_max (Nat.le_of_ble_eq_true rfl) (Nat.le_of_ble_eq_true rfl) dX2_finish_95 ?_
        refine s_leti (fun x15 => ?_)
        refine s_istore_n (ls' := [(3, .int x15), (2, .int x12), (0, rv g 0 0), (1, .int l1), (4, .int l4), (5, .int x6)]) dX2_finish_98 rfl (by decide) rfl ?_
        refine s_sub [2, 3, 1, 0, 4] rfl ?_
        exact Hk99_6 x12 x15 h13
      refine s_icmp_eq (tgt := 76) dX2_finish_69 (by decide) ?_ ?_
      ·
        refine s_iconst (v := 0) dX2_finish_76 rfl ?_
        refine s_sub [1, 2, 4, 5, 0] rfl ?_
        exact Hk77_9 0 h5
      ·
        refine s_iconst (v := 1) dX2_finish_72 rfl ?_
        refine s_goto (tgt := 77) dX2_finish_73 (by decide) ?_
        refine s_sub [1, 2, 4, 5, 0] rfl ?_
        exact Hk77_9 1 h5
set_option maxHeartbeats 4000000 in
set_option maxRecDepth 100000 in
theorem cX2_finish_ok (g : GE) (l1 : Int32) (h : Hp) : Con cvv 0 g mX2_finish 5 [rv g 0 0, .int l1] h (fX2_finish l1 h) := by
  refine Con.of (by decide +kernel) (Nat.le_of_ble_eq_true rfl) ?_
  show Sim cvv 0 g mX2_finish 5 0 [(0, rv g 0 0), (1, .int l1)] [] h _
  unfold fX2_finish
  refine s_aload_n 0 dX2_finish_0 rfl rfl ?_
  refine s_getr (s0 := 0) dX2_finish_1 fl_X2_12 ?_
  refine s_geti (s0 := 10) dX2_finish_4 fl_X2_98 ?_
  refine s_jn (fun (k15_0 : Int32 → Hp → Option (Unit × Hp)) => ∀ (z0_0 : Int32) (h2 : Hp), Sim cvv 0 g mX2_finish 5 15 [(0, rv g 0 0), (1, .int l1)] [.int z0_0] h2 (k15_0 z0_0 h2)) (fun z0_0 h2 => ?_) (fun k15_0 Hk15_0 => ?_)
  ·
    refine s_istore_n (ls' := [(2, .int z0_0), (0, rv g 0 0), (1, .int l1)]) dX2_finish_15 rfl (by decide) rfl ?_
    refine s_aload_n 1 dX2_finish_16 rfl rfl ?_
    refine s_getr (s0 := 0) dX2_finish_17 fl_X2_12 ?_
    refine s_aload_n 1 dX2_finish_20 rfl rfl ?_
    refine s_getr (s0 := 0) dX2_finish_21 fl_X2_46 ?_
    refine s_iload_n 2 dX2_finish_24 rfl rfl ?_
    refine s_sald (s0 := 0) ka_13 dX2_finish_25 ?_
    refine s_callSi (As := [rv g 6 10, .int (ra h2 13 0 l1)]) (rest := []) (cX0_soonest_ok g 10 (ra h2 13 0 l1) h2) sl_X2_142 rfl (Nat.le_of_ble_eq_true rfl) (Nat.le_of_ble_eq_true rfl) dX2_finish_26 rfl (fun x4 h3 => ?_)
    refine s_istore_n (ls' := [(3, .int x4), (2, .int z0_0), (0, rv g 0 0), (1, .int l1)]) dX2_finish_29 rfl (by decide) rfl ?_
    refine s_iconst (v := 0) dX2_finish_30 rfl ?_
    refine s_istore (ls' := [(4, .int 0), (3, .int x4), (2, .int z0_0), (0, rv g 0 0), (1, .int l1)]) dX2_finish_31 (by decide) rfl ?_
    refine s_sub (ls' := [(0, rv g 0 0), (1, .int l1), (2, .int z0_0), (3, .int x4), (4, .int 0)]) [3, 4, 2, 1, 0] rfl ?_
    refine sX2_finish_l33 g l1 _ (fun y16 y17 h18 => ?_) FU z0_0 x4 0 h3
    refine s_aload_n 0 dX2_finish_105 rfl rfl ?_
    refine s_getr (s0 := 0) dX2_finish_106 fl_X2_49 ?_
    refine s_iload_n 1 dX2_finish_109 rfl rfl ?_
    refine s_iload_n 2 dX2_finish_110 rfl rfl ?_
    refine s_jn (fun (k119_18 : Int32 → Hp → Option (Unit × Hp)) => ∀ (z0_18 : Int32) (h20 : Hp), Sim cvv 0 g mX2_finish 5 119 [(0, rv g 0 0), (1, .int l1), (2, .int y16), (3, .int y17)] [.int z0_18, .int l1, rv g 14 0] h20 (k119_18 z0_18 h20)) (fun z0_18 h20 => ?_) (fun k119_18 Hk119_18 => ?_)
    ·
      refine s_i2b dX2_finish_119 ?_
      refine s_bast (s0 := 0) ka_14 dX2_finish_120 (fun h21 => ?_)
      refine s_aload_n 0 dX2_finish_121 rfl rfl ?_
      refine s_getr (s0 := 0) dX2_finish_122 fl_X2_55 ?_
      refine s_iload_n 1 dX2_finish_125 rfl rfl ?_
      refine s_iload_n 2 dX2_finish_126 rfl rfl ?_
      refine s_if_eq (tgt := 134) dX2_finish_127 (by decide) ?_ ?_
      ·
        refine s_iload_n 3 dX2_finish_134 rfl rfl ?_
        refine s_i2s dX2_finish_135 ?_
        refine s_sast (s0 := 0) ka_16 dX2_finish_136 (fun h22 => ?_)
        exact s_vret rfl dX2_finish_137
      ·
        refine s_iconst (v := 0) dX2_finish_130 rfl ?_
        refine s_goto (tgt := 135) dX2_finish_131 (by decide) ?_
        refine s_i2s dX2_finish_135 ?_
        refine s_sast (s0 := 0) ka_16 dX2_finish_136 (fun h23 => ?_)
        exact s_vret rfl dX2_finish_137
    refine s_if_eq (tgt := 118) dX2_finish_111 (by decide) ?_ ?_
    ·
      refine s_iconst (v := 2) dX2_finish_118 rfl ?_
      exact Hk119_18 2 h18
    ·
      refine s_iconst (v := 3) dX2_finish_114 rfl ?_
      refine s_goto (tgt := 119) dX2_finish_115 (by decide) ?_
      exact Hk119_18 3 h18
  refine s_if_ne (tgt := 14) dX2_finish_7 (by decide) ?_ ?_
  ·
    refine s_iconst (v := 1) dX2_finish_10 rfl ?_
    refine s_goto (tgt := 15) dX2_finish_11 (by decide) ?_
    exact Hk15_0 1 h
  ·
    refine s_iconst (v := 0) dX2_finish_14 rfl ?_
    exact Hk15_0 0 h
def fX2_forget_l7 (K : Hp → Option (Unit × Hp)) (rec : Int32 → Hp → Option (Unit × Hp)) (l1 : Int32) (h : Hp) : Option (Unit × Hp) :=
  if l1 < 0 then (K h)
  else (ck (ib l1 2200) (
  ck (ib l1 2200) (
  bnd (fX2_slotOf (ra h 12 0 l1) (ra h 13 0 l1) h) fun x3 h2 =>
  ck (ib x3 4096) (lt (wa h2 11 0 x3 (vp_nar .short 0)) fun h4 =>
  lt (l1 + (-1)) fun x5 =>
  rec x5 h4))))
def fX2_forget (h : Hp) : Option (Unit × Hp) :=
  lt ((rd h 0 0 2) - (1 : Int32)) fun x1 =>
  itr1 (fX2_forget_l7 (fun h6 => lt (wr h6 0 0 2 0) fun h7 =>
  some ((), h7))) FU x1 h
set_option maxHeartbeats 4000000 in
set_option maxRecDepth 100000 in
theorem sX2_forget_l7 (g : GE) (K : Hp → Option (Unit × Hp)) (hK : ∀ (h : Hp), Sim cvv 0 g mX2_forget 3 39 [(0, rv g 0 0)] [] h (K  h)) : ∀ (n : Nat) (l1 : Int32) (h : Hp), Sim cvv 0 g mX2_forget 3 7 [(0, rv g 0 0), (1, .int l1)] [] h (itr1 (fX2_forget_l7 K) n l1 h) := by
  refine s_itr1 (fun l1 h o => Sim cvv 0 g mX2_forget 3 7 [(0, rv g 0 0), (1, .int l1)] [] h o) (fun _ _ => s_none) ?_
  intro rec hrec l1 h
  unfold fX2_forget_l7
  refine s_iload_n 1 dX2_forget_7 rfl rfl ?_
  refine s_if_lt (tgt := 39) dX2_forget_8 (by decide) ?_ ?_
  ·
    refine s_sub [0] rfl ?_
    exact hK h
  ·
    refine s_aload_n 0 dX2_forget_11 rfl rfl ?_
    refine s_getr (s0 := 0) dX2_forget_12 fl_X2_38 ?_
    refine s_aload_n 0 dX2_forget_15 rfl rfl ?_
    refine s_aload_n 0 dX2_forget_16 rfl rfl ?_
    refine s_getr (s0 := 0) dX2_forget_17 fl_X2_42 ?_
    refine s_iload_n 1 dX2_forget_20 rfl rfl ?_
    refine s_bald (s0 := 0) ka_12 dX2_forget_21 ?_
    refine s_aload_n 0 dX2_forget_22 rfl rfl ?_
    refine s_getr (s0 := 0) dX2_forget_23 fl_X2_46 ?_
    refine s_iload_n 1 dX2_forget_26 rfl rfl ?_
    refine s_sald (s0 := 0) ka_13 dX2_forget_27 ?_
    refine s_callVi (s0 := 0) (As := [.int (ra h 12 0 l1), .int (ra h 13 0 l1)]) (rest := [rv g 11 0]) (cX2_slotOf_ok g (ra h 12 0 l1) (ra h 13 0 l1) h) vl_X2_111 rfl (Nat.le_of_ble_eq_true rfl) (Nat.le_of_ble_eq_true rfl) dX2_forget_28 rfl (fun x3 h2 => ?_)
    refine s_iconst (v := 0) dX2_forget_31 rfl ?_
    refine s_sast (s0 := 0) ka_11 dX2_forget_32 (fun h4 => ?_)
    refine s_iincl 1 (w := (-1)) (fun x5 => [(1, .int x5), (0, rv g 0 0)]) dX2_forget_33 rfl rfl (by decide) (fun _ => rfl) (fun x5 => ?_)
    refine s_goto (tgt := 7) dX2_forget_36 (by decide) ?_
    refine s_sub [1, 0] rfl ?_
    exact hrec x5 h4
set_option maxHeartbeats 4000000 in
set_option maxRecDepth 100000 in
theorem cX2_forget_ok (g : GE) (h : Hp) : Con cvv 0 g mX2_forget 3 [rv g 0 0] h (fX2_forget h) := by
  refine Con.of (by decide +kernel) (Nat.le_of_ble_eq_true rfl) ?_
  show Sim cvv 0 g mX2_forget 3 0 [(0, rv g 0 0)] [] h _
  unfold fX2_forget
  refine s_aload_n 0 dX2_forget_0 rfl rfl ?_
  refine s_geti (s0 := 0) dX2_forget_1 fl_X2_22 ?_
  refine s_iconst (v := 1) dX2_forget_4 rfl ?_
  refine s_isub dX2_forget_5 ?_
  refine s_leti (fun x1 => ?_)
  refine s_istore_n (ls' := [(1, .int x1), (0, rv g 0 0)]) dX2_forget_6 rfl (by decide) rfl ?_
  refine s_sub (ls' := [(0, rv g 0 0), (1, .int x1)]) [1, 0] rfl ?_
  refine sX2_forget_l7 g _ (fun h6 => ?_) FU x1 h
  refine s_aload_n 0 dX2_forget_39 rfl rfl ?_
  refine s_iconst (v := 0) dX2_forget_40 rfl ?_
  refine s_puti (s0 := 0) dX2_forget_41 fl_X2_22 (fun h7 => ?_)
  exact s_vret rfl dX2_forget_44
def fX2_isForever (l1 : Int32) (h : Hp) : Option (Int32 × Hp) :=
  jn (κ := Hp → Option (Int32 × Hp)) (fun h2 => ck (zk 0) (some (0, h2))) fun k26_0 =>
  if l1 < 0 then (k26_0 h)
  else (if (rd h 0 0 2) ≤ l1 then (k26_0 h)
  else (ck (ib l1 2200) (
  if (ra h 14 0 l1) = 3 then (ck (zk 1) (some (1, h)))
  else (k26_0 h))))
set_option maxHeartbeats 4000000 in
set_option maxRecDepth 100000 in
theorem cX2_isForever_ok (g : GE) (l1 : Int32) (h : Hp) : Con cvi 0 g mX2_isForever 2 [rv g 0 0, .int l1] h (fX2_isForever l1 h) := by
  refine Con.of (by decide +kernel) (Nat.le_of_ble_eq_true rfl) ?_
  show Sim cvi 0 g mX2_isForever 2 0 [(0, rv g 0 0), (1, .int l1)] [] h _
  unfold fX2_isForever
  refine s_iload_n 1 dX2_isForever_0 rfl rfl ?_
  refine s_jn (fun (k26_0 : Hp → Option (Int32 × Hp)) => ∀ (h2 : Hp), Sim cvi 0 g mX2_isForever 2 26 [] [] h2 (k26_0 h2)) (fun h2 => ?_) (fun k26_0 Hk26_0 => ?_)
  ·
    refine s_iconst (v := 0) dX2_isForever_26 rfl ?_
    exact s_zret rfl dX2_isForever_27
  refine s_if_lt (tgt := 26) dX2_isForever_1 (by decide) ?_ ?_
  ·
    refine s_sub [] rfl ?_
    exact Hk26_0 h
  ·
    refine s_iload_n 1 dX2_isForever_4 rfl rfl ?_
    refine s_aload_n 0 dX2_isForever_5 rfl rfl ?_
    refine s_geti (s0 := 0) dX2_isForever_6 fl_X2_22 ?_
    refine s_icmp_ge (tgt := 26) dX2_isForever_9 (by decide) ?_ ?_
    ·
      refine s_sub [] rfl ?_
      exact Hk26_0 h
    ·
      refine s_aload_n 0 dX2_isForever_12 rfl rfl ?_
      refine s_getr (s0 := 0) dX2_isForever_13 fl_X2_49 ?_
      refine s_iload_n 1 dX2_isForever_16 rfl rfl ?_
      refine s_bald (s0 := 0) ka_14 dX2_isForever_17 ?_
      refine s_iconst (v := 3) dX2_isForever_18 rfl ?_
      refine s_icmp_ne (tgt := 26) dX2_isForever_19 (by decide) ?_ ?_
      ·
        refine s_iconst (v := 1) dX2_isForever_22 rfl ?_
        refine s_goto (tgt := 27) dX2_isForever_23 (by decide) ?_
        exact s_zret rfl dX2_isForever_27
      ·
        refine s_sub [] rfl ?_
        exact Hk26_0 h
def fX8_copyFrom (a0 : Nat) (a1 : Nat) (h : Hp) : Option (Unit × Hp) :=
  lt (wr h 6 a0 0 (rd h 6 a1 0)) fun h1 =>
  lt (wr h1 6 a0 1 (rd h1 6 a1 1)) fun h2 =>
  lt (wr h2 6 a0 2 (rd h2 6 a1 2)) fun h3 =>
  ck (true) (lt (cpy h3 33 a1 33 a0 5) fun h4 =>
  ck (true) (lt (cpy h4 34 a1 34 a0 5) fun h5 =>
  ck (true) (lt (cpy h5 35 a1 35 a0 5) fun h6 =>
  some ((), h6))))
set_option maxHeartbeats 4000000 in
set_option maxRecDepth 100000 in
theorem cX8_copyFrom_ok (g : GE) (a0 : Nat) (a1 : Nat) (h : Hp) : Con cvv 0 g mX8_copyFrom 2 [rv g 6 a0, rv g 6 a1] h (fX8_copyFrom a0 a1 h) := by
  refine Con.of (by decide +kernel) (Nat.le_of_ble_eq_true rfl) ?_
  show Sim cvv 0 g mX8_copyFrom 2 0 [(0, rv g 6 a0), (1, rv g 6 a1)] [] h _
  unfold fX8_copyFrom
  refine s_aload_n 0 dX8_copyFrom_0 rfl rfl ?_
  refine s_aload_n 1 dX8_copyFrom_1 rfl rfl ?_
  refine s_geti (s0 := a1) dX8_copyFrom_2 fl_X8_9 ?_
  refine s_puti (s0 := a0) dX8_copyFrom_5 fl_X8_9 (fun h1 => ?_)
  refine s_aload_n 0 dX8_copyFrom_8 rfl rfl ?_
  refine s_aload_n 1 dX8_copyFrom_9 rfl rfl ?_
  refine s_geti (s0 := a1) dX8_copyFrom_10 fl_X8_15 ?_
  refine s_puti (s0 := a0) dX8_copyFrom_13 fl_X8_15 (fun h2 => ?_)
  refine s_aload_n 0 dX8_copyFrom_16 rfl rfl ?_
  refine s_aload_n 1 dX8_copyFrom_17 rfl rfl ?_
  refine s_geti (s0 := a1) dX8_copyFrom_18 fl_X8_18 ?_
  refine s_puti (s0 := a0) dX8_copyFrom_21 fl_X8_18 (fun h3 => ?_)
  refine s_aload_n 1 dX8_copyFrom_24 rfl rfl ?_
  refine s_getr1 (k2 := 33) (s0 := a1) rfl dX8_copyFrom_25 fl_X8_21 ?_
  refine s_iconst (v := 0) dX8_copyFrom_28 rfl ?_
  refine s_aload_n 0 dX8_copyFrom_29 rfl rfl ?_
  refine s_getr1 (k2 := 33) (s0 := a0) rfl dX8_copyFrom_30 fl_X8_21 ?_
  refine s_iconst (v := 0) dX8_copyFrom_33 rfl ?_
  refine s_iconst (v := 5) dX8_copyFrom_34 rfl ?_
  refine s_acopy (n := 5) (s0 := a1) (s1 := a0) (true) ka_33 ka_33 rfl rfl rfl (by decide) (by decide) (by decide) (fun _ _ _ => rfl) ac_X8_31 (Nat.le_of_ble_eq_true rfl) (Nat.le_of_ble_eq_true rfl) dX8_copyFrom_35 (fun h4 => ?_)
  refine s_aload_n 1 dX8_copyFrom_38 rfl rfl ?_
  refine s_getr1 (k2 := 34) (s0 := a1) rfl dX8_copyFrom_39 fl_X8_25 ?_
  refine s_iconst (v := 0) dX8_copyFrom_42 rfl ?_
  refine s_aload_n 0 dX8_copyFrom_43 rfl rfl ?_
  refine s_getr1 (k2 := 34) (s0 := a0) rfl dX8_copyFrom_44 fl_X8_25 ?_
  refine s_iconst (v := 0) dX8_copyFrom_47 rfl ?_
  refine s_iconst (v := 5) dX8_copyFrom_48 rfl ?_
  refine s_acopy (n := 5) (s0 := a1) (s1 := a0) (true) ka_34 ka_34 rfl rfl rfl (by decide) (by decide) (by decide) (fun _ _ _ => rfl) ac_X8_31 (Nat.le_of_ble_eq_true rfl) (Nat.le_of_ble_eq_true rfl) dX8_copyFrom_49 (fun h5 => ?_)
  refine s_aload_n 1 dX8_copyFrom_52 rfl rfl ?_
  refine s_getr1 (k2 := 35) (s0 := a1) rfl dX8_copyFrom_53 fl_X8_28 ?_
  refine s_iconst (v := 0) dX8_copyFrom_56 rfl ?_
  refine s_aload_n 0 dX8_copyFrom_57 rfl rfl ?_
  refine s_getr1 (k2 := 35) (s0 := a0) rfl dX8_copyFrom_58 fl_X8_28 ?_
  refine s_iconst (v := 0) dX8_copyFrom_61 rfl ?_
  refine s_iconst (v := 5) dX8_copyFrom_62 rfl ?_
  refine s_acopy (n := 5) (s0 := a1) (s1 := a0) (true) ka_35 ka_35 rfl rfl rfl (by decide) (by decide) (by decide) (fun _ _ _ => rfl) ac_X8_31 (Nat.le_of_ble_eq_true rfl) (Nat.le_of_ble_eq_true rfl) dX8_copyFrom_63 (fun h6 => ?_)
  exact s_vret rfl dX8_copyFrom_66
def fX2_explore_l40 (l2 : Int32) (K : Hp → Option (Int32 × Hp)) (rec : Int32 → Hp → Option (Int32 × Hp)) (l3 : Int32) (h : Hp) : Option (Int32 × Hp) :=
  if (1000000 : Int32) ≤ l3 then (K h)
  else (if (rd h 0 0 3) ≤ 0 then (K h)
  else (ck (ib ((rd h 0 0 3) - (1 : Int32)) 2200) (
  lt (ra h 17 0 ((rd h 0 0 3) - (1 : Int32))) fun x10 =>
  ck (ib x10 2200) (
  lt (ra h 15 0 x10) fun x11 =>
  jn (κ := Hp → Option (Int32 × Hp)) (fun h13 => lt (l3 + 1) fun x14 =>
  rec x14 h13) fun k176_11 =>
  if x11 < (rd h 6 10 2) then (ck (ib x10 2200) (
  ck (ib x10 2200) (lt (wa h 15 0 x10 (vp_nar .byte (((ra h 15 0 x10) + (1 : Int32)).toInt8.toInt32))) fun h15 =>
  bnd (fX2_followerOf x10 x11 h15) fun x17 h16 =>
  jn (κ := Hp → Option (Int32 × Hp)) (fun h19 => if x17 = (-1) then (k176_11 h19)
  else (ck (ib x17 2200) (
  if (ra h19 14 0 x17) = 1 then (if l2 = 0 then (ck (zk 1) (some (1, h19)))
  else (k176_11 h19))
  else (k176_11 h19)))) fun k153_17 =>
  if x17 = (-1) then (k153_17 h16)
  else (ck (ib x17 2200) (
  if (ra h16 14 0 x17) = 0 then (bnd (fX2_enter x17 h16) fun _ h20 =>
  k176_11 h20)
  else (k153_17 h16))))))
  else (bnd (fX2_finish x10 h) fun _ h21 =>
  lt (wr h21 0 0 3 ((rd h21 0 0 3) - (1 : Int32))) fun h22 =>
  k176_11 h22)))))
def fX2_explore (a1 : Nat) (l2 : Int32) (h : Hp) : Option (Int32 × Hp) :=
  bnd (fX2_forget h) fun _ h1 =>
  bnd (fX8_copyFrom 10 a1 h1) fun _ h2 =>
  ck (zk l2) (lt (wr h2 0 0 1 l2) fun h3 =>
  lt (wr h3 0 0 3 0) fun h4 =>
  bnd (fX8_packed 10 h4) fun x6 h5 =>
  bnd (fX2_numberFor 5 x6 h5) fun x8 h7 =>
  bnd (fX2_enter x8 h7) fun _ h9 =>
  itr1 (fX2_explore_l40 l2 (fun h23 => bnd (fX2_isForever 0 h23) fun x25 h24 =>
  ck (zk x25) (some (x25, h24)))) FU 0 h9)
set_option maxHeartbeats 4000000 in
set_option maxRecDepth 100000 in
theorem sX2_explore_l40 (g : GE) (l2 : Int32) (K : Hp → Option (Int32 × Hp)) (hK : ∀ (h : Hp), Sim cvi 0 g mX2_explore 6 182 [(0, rv g 0 0)] [] h (K  h)) : ∀ (n : Nat) (l3 : Int32) (h : Hp), Sim cvi 0 g mX2_explore 6 40 [(0, rv g 0 0), (2, .int l2), (3, .int l3)] [] h (itr1 (fX2_explore_l40 l2 K) n l3 h) := by
  refine s_itr1 (fun l3 h o => Sim cvi 0 g mX2_explore 6 40 [(0, rv g 0 0), (2, .int l2), (3, .int l3)] [] h o) (fun _ _ => s_none) ?_
  intro rec hrec l3 h
  unfold fX2_explore_l40
  refine s_iload_n 2 dX2_explore_40 rfl rfl ?_
  refine s_ldc dX2_explore_41 w_4_71 ?_
  refine s_icmp_ge (tgt := 182) dX2_explore_43 (by decide) ?_ ?_
  ·
    refine s_sub [0] rfl ?_
    exact hK h
  ·
    refine s_aload_n 0 dX2_explore_46 rfl rfl ?_
    refine s_geti (s0 := 0) dX2_explore_47 fl_X2_26 ?_
    refine s_if_le (tgt := 182) dX2_explore_50 (by decide) ?_ ?_
    ·
      refine s_sub [0] rfl ?_
      exact hK h
    ·
      refine s_aload_n 0 dX2_explore_53 rfl rfl ?_
      refine s_getr (s0 := 0) dX2_explore_54 fl_X2_58 ?_
      refine s_aload_n 0 dX2_explore_57 rfl rfl ?_
      refine s_geti (s0 := 0) dX2_explore_58 fl_X2_26 ?_
      refine s_iconst (v := 1) dX2_explore_61 rfl ?_
      refine s_isub dX2_explore_62 ?_
      refine s_sald (s0 := 0) ka_17 dX2_explore_63 ?_
      refine s_leti (fun x10 => ?_)
      refine s_istore (ls' := [(4, .int x10), (0, rv g 0 0), (2, .int l2), (3, .int l3)]) dX2_explore_64 (by decide) rfl ?_
      refine s_aload_n 1 dX2_explore_66 rfl rfl ?_
      refine s_getr (s0 := 0) dX2_explore_67 fl_X2_52 ?_
      refine s_iload 0 dX2_explore_70 rfl ?_
      refine s_bald (s0 := 0) ka_15 dX2_explore_72 ?_
      refine s_leti (fun x11 => ?_)
      refine s_istore (ls' := [(5, .int x11), (4, .int x10), (0, rv g 0 0), (2, .int l2), (3, .int l3)]) dX2_explore_73 (by decide) rfl ?_
      refine s_iload 0 dX2_explore_75 rfl ?_
      refine s_aload_n 2 dX2_explore_77 rfl rfl ?_
      refine s_getr (s0 := 0) dX2_explore_78 fl_X2_12 ?_
      refine s_geti (s0 := 10) dX2_explore_81 fl_X2_98 ?_
      refine s_jn (fun (k176_11 : Hp → Option (Int32 × Hp)) => ∀ (h13 : Hp), Sim cvi 0 g mX2_explore 6 176 [(0, rv g 0 0), (2, .int l2), (3, .int l3)] [] h13 (k176_11 h13)) (fun h13 => ?_) (fun k176_11 Hk176_11 => ?_)
      ·
        refine s_iincl 2 (w := 1) (fun x14 => [(3, .int x14), (0, rv g 0 0), (2, .int l2)]) dX2_explore_176 rfl rfl (by decide) (fun _ => rfl) (fun x14 => ?_)
        refine s_goto (tgt := 40) dX2_explore_179 (by decide) ?_
        refine s_sub [1, 2, 0] rfl ?_
        exact hrec x14 h13
      refine s_icmp_lt (tgt := 106) dX2_explore_84 (by decide) ?_ ?_
      ·
        refine s_aload_n 2 dX2_explore_106 rfl rfl ?_
        refine s_getr (s0 := 0) dX2_explore_107 fl_X2_52 ?_
        refine s_iload 1 dX2_explore_110 rfl ?_
        refine s_dup2 dX2_explore_112 rfl rfl ?_
        refine s_bald (s0 := 0) ka_15 dX2_explore_113 ?_
        refine s_iconst (v := 1) dX2_explore_114 rfl ?_
        refine s_iadd dX2_explore_115 ?_
        refine s_i2b dX2_explore_116 ?_
        refine s_bast (s0 := 0) ka_15 dX2_explore_117 (fun h15 => ?_)
        refine s_aload_n 2 dX2_explore_118 rfl rfl ?_
        refine s_iload 1 dX2_explore_119 rfl ?_
        refine s_iload 0 dX2_explore_121 rfl ?_
        refine s_callVi (s0 := 0) (As := [.int x10, .int x11]) (rest := []) (cX2_followerOf_ok g x10 x11 h15) vl_X2_104 rfl (Nat.le_of_ble_eq_true rfl) (Nat.le_of_ble_eq_true rfl) dX2_explore_123 rfl (fun x17 h16 => ?_)
        refine s_istore (ls' := [(6, .int x17), (5, .int x11), (4, .int x10), (0, rv g 0 0), (2, .int l2), (3, .int l3)]) dX2_explore_126 (by decide) rfl ?_
        refine s_iload 0 dX2_explore_128 rfl ?_
        refine s_iconst (v := (-1)) dX2_explore_130 rfl ?_
        refine s_jn (fun (k153_17 : Hp → Option (Int32 × Hp)) => ∀ (h19 : Hp), Sim cvi 0 g mX2_explore 6 153 [(0, rv g 0 0), (2, .int l2), (3, .int l3), (6, .int x17)] [] h19 (k153_17 h19)) (fun h19 => ?_) (fun k153_17 Hk153_17 => ?_)
        ·
          refine s_iload 3 dX2_explore_153 rfl ?_
          refine s_iconst (v := (-1)) dX2_explore_155 rfl ?_
          refine s_icmp_eq (tgt := 176) dX2_explore_156 (by decide) ?_ ?_
          ·
            refine s_sub [0, 1, 2] rfl ?_
            exact Hk176_11 h19
          ·
            refine s_aload_n 0 dX2_explore_159 rfl rfl ?_
            refine s_getr (s0 := 0) dX2_explore_160 fl_X2_49 ?_
            refine s_iload 3 dX2_explore_163 rfl ?_
            refine s_bald (s0 := 0) ka_14 dX2_explore_165 ?_
            refine s_iconst (v := 1) dX2_explore_166 rfl ?_
            refine s_icmp_ne (tgt := 176) dX2_explore_167 (by decide) ?_ ?_
            ·
              refine s_iload_n 1 dX2_explore_170 rfl rfl ?_
              refine s_if_ne (tgt := 176) dX2_explore_171 (by decide) ?_ ?_
              ·
                refine s_iconst (v := 1) dX2_explore_174 rfl ?_
                exact s_zret rfl dX2_explore_175
              ·
                refine s_sub [0, 1, 2] rfl ?_
                exact Hk176_11 h19
            ·
              refine s_sub [0, 1, 2] rfl ?_
              exact Hk176_11 h19
        refine s_icmp_eq (tgt := 153) dX2_explore_131 (by decide) ?_ ?_
        ·
          refine s_sub [3, 4, 5, 0] rfl ?_
          exact Hk153_17 h16
        ·
          refine s_aload_n 3 dX2_explore_134 rfl rfl ?_
          refine s_getr (s0 := 0) dX2_explore_135 fl_X2_49 ?_
          refine s_iload 0 dX2_explore_138 rfl ?_
          refine s_bald (s0 := 0) ka_14 dX2_explore_140 ?_
          refine s_if_ne (tgt := 153) dX2_explore_141 (by decide) ?_ ?_
          ·
            refine s_aload_n 3 dX2_explore_144 rfl rfl ?_
            refine s_iload 0 dX2_explore_145 rfl ?_
            refine s_callVv (s0 := 0) (As := [.int x17]) (rest := []) (cX2_enter_ok g x17 h16) vl_X2_93 rfl (Nat.le_of_ble_eq_true rfl) (Nat.le_of_ble_eq_true rfl) dX2_explore_147 rfl (fun h20 => ?_)
            refine s_goto (tgt := 176) dX2_explore_150 (by decide) ?_
            refine s_sub [3, 4, 5] rfl ?_
            exact Hk176_11 h20
          ·
            refine s_sub [3, 4, 5, 0] rfl ?_
            exact Hk153_17 h16
      ·
        refine s_aload_n 2 dX2_explore_87 rfl rfl ?_
        refine s_iload 1 dX2_explore_88 rfl ?_
        refine s_callVv (s0 := 0) (As := [.int x10]) (rest := []) (cX2_finish_ok g x10 h) vl_X2_101 rfl (Nat.le_of_ble_eq_true rfl) (Nat.le_of_ble_eq_true rfl) dX2_explore_90 rfl (fun h21 => ?_)
        refine s_aload_n 2 dX2_explore_93 rfl rfl ?_
        refine s_dup dX2_explore_94 rfl ?_
        refine s_geti (s0 := 0) dX2_explore_95 fl_X2_26 ?_
        refine s_iconst (v := 1) dX2_explore_98 rfl ?_
        refine s_isub dX2_explore_99 ?_
        refine s_puti (s0 := 0) dX2_explore_100 fl_X2_26 (fun h22 => ?_)
        refine s_goto (tgt := 176) dX2_explore_103 (by decide) ?_
        refine s_sub [2, 3, 4] rfl ?_
        exact Hk176_11 h22
set_option maxHeartbeats 4000000 in
set_option maxRecDepth 100000 in
theorem cX2_explore_ok (g : GE) (a1 : Nat) (l2 : Int32) (h : Hp) : Con cvi 0 g mX2_explore 6 [rv g 0 0, rv g 6 a1, .int l2] h (fX2_explore a1 l2 h) := by
  refine Con.of (by decide +kernel) (Nat.le_of_ble_eq_true rfl) ?_
  show Sim cvi 0 g mX2_explore 6 0 [(0, rv g 0 0), (1, rv g 6 a1), (2, .int l2)] [] h _
  unfold fX2_explore
  refine s_aload_n 0 dX2_explore_0 rfl rfl ?_
  refine s_callVv (s0 := 0) (As := []) (rest := []) (cX2_forget_ok g h) vl_X2_78 rfl (Nat.le_of_ble_eq_true rfl) (Nat.le_of_ble_eq_true rfl) dX2_explore_1 rfl (fun h1 => ?_)
  refine s_aload_n 0 dX2_explore_4 rfl rfl ?_
  refine s_getr (s0 := 0) dX2_explore_5 fl_X2_12 ?_
  refine s_aload_n 1 dX2_explore_8 rfl rfl ?_
  refine s_callVv (s0 := 10) (As := [rv g 6 a1]) (rest := []) (cX8_copyFrom_ok g 10 a1 h1) vl_X2_81 rfl (Nat.le_of_ble_eq_true rfl) (Nat.le_of_ble_eq_true rfl) dX2_explore_9 rfl (fun h2 => ?_)
  refine s_aload_n 0 dX2_explore_12 rfl rfl ?_
  refine s_iload_n 2 dX2_explore_13 rfl rfl ?_
  refine s_putz (s0 := 0) dX2_explore_14 fl_X2_18 (fun h3 => ?_)
  refine s_aload_n 0 dX2_explore_17 rfl rfl ?_
  refine s_iconst (v := 0) dX2_explore_18 rfl ?_
  refine s_puti (s0 := 0) dX2_explore_19 fl_X2_26 (fun h4 => ?_)
  refine s_aload_n 0 dX2_explore_22 rfl rfl ?_
  refine s_aload_n 0 dX2_explore_23 rfl rfl ?_
  refine s_iconst (v := 5) dX2_explore_24 rfl ?_
  refine s_aload_n 0 dX2_explore_25 rfl rfl ?_
  refine s_getr (s0 := 0) dX2_explore_26 fl_X2_12 ?_
  refine s_callVi (s0 := 10) (As := []) (rest := [.int 5, rv g 0 0, rv g 0 0]) (cX8_packed_ok g 10 h4) vl_X2_85 rfl (Nat.le_of_ble_eq_true rfl) (Nat.le_of_ble_eq_true rfl) dX2_explore_29 rfl (fun x6 h5 => ?_)
  refine s_callVi (s0 := 0) (As := [.int 5, .int x6]) (rest := [rv g 0 0]) (cX2_numberFor_ok g 5 x6 h5) vl_X2_89 rfl (Nat.le_of_ble_eq_true rfl) (Nat.le_of_ble_eq_true rfl) dX2_explore_32 rfl (fun x8 h7 => ?_)
  refine s_callVv (s0 := 0) (As := [.int x8]) (rest := []) (cX2_enter_ok g x8 h7) vl_X2_93 rfl (Nat.le_of_ble_eq_true rfl) (Nat.le_of_ble_eq_true rfl) dX2_explore_35 rfl (fun h9 => ?_)
  refine s_iconst (v := 0) dX2_explore_38 rfl ?_
  refine s_istore_n (ls' := [(3, .int 0), (0, rv g 0 0), (1, rv g 6 a1), (2, .int l2)]) dX2_explore_39 rfl (by decide) rfl ?_
  refine s_sub (ls' := [(0, rv g 0 0), (2, .int l2), (3, .int 0)]) [1, 3, 0] rfl ?_
  refine sX2_explore_l40 g l2 _ (fun h23 => ?_) FU 0 h9
  refine s_aload_n 0 dX2_explore_182 rfl rfl ?_
  refine s_iconst (v := 0) dX2_explore_183 rfl ?_
  refine s_callVi (s0 := 0) (As := [.int 0]) (rest := []) (cX2_isForever_ok g 0 h23) vl_X2_107 rfl (Nat.le_of_ble_eq_true rfl) (Nat.le_of_ble_eq_true rfl) dX2_explore_184 rfl (fun x25 h24 => ?_)
  exact s_zret rfl dX2_explore_187
def fX8_add (a0 : Nat) (l1 : Int32) (l2 : Int32) (l3 : Int32) (h : Hp) : Option (Unit × Hp) :=
  if (rd h 6 a0 2) < 5 then (ck (ib (rd h 6 a0 2) 5) (lt (wa h 33 a0 (rd h 6 a0 2) l1) fun h1 =>
  ck (ib (rd h1 6 a0 2) 5) (lt (wa h1 34 a0 (rd h1 6 a0 2) l2) fun h2 =>
  ck (ib (rd h2 6 a0 2) 5) (lt (wa h2 35 a0 (rd h2 6 a0 2) l3) fun h3 =>
  lt (wr h3 6 a0 2 ((rd h3 6 a0 2) + (1 : Int32))) fun h4 =>
  some ((), h4)))))
  else (some ((), h))
set_option maxHeartbeats 4000000 in
set_option maxRecDepth 100000 in
theorem cX8_add_ok (g : GE) (a0 : Nat) (l1 : Int32) (l2 : Int32) (l3 : Int32) (h : Hp) : Con cvv 0 g mX8_add 2 [rv g 6 a0, .int l1, .int l2, .int l3] h (fX8_add a0 l1 l2 l3 h) := by
  refine Con.of (by decide +kernel) (Nat.le_of_ble_eq_true rfl) ?_
  show Sim cvv 0 g mX8_add 2 0 [(0, rv g 6 a0), (1, .int l1), (2, .int l2), (3, .int l3)] [] h _
  unfold fX8_add
  refine s_aload_n 0 dX8_add_0 rfl rfl ?_
  refine s_geti (s0 := a0) dX8_add_1 fl_X8_18 ?_
  refine s_iconst (v := 5) dX8_add_4 rfl ?_
  refine s_icmp_lt (tgt := 9) dX8_add_5 (by decide) ?_ ?_
  ·
    refine s_aload_n 0 dX8_add_9 rfl rfl ?_
    refine s_getr1 (k2 := 33) (s0 := a0) rfl dX8_add_10 fl_X8_21 ?_
    refine s_aload_n 0 dX8_add_13 rfl rfl ?_
    refine s_geti (s0 := a0) dX8_add_14 fl_X8_18 ?_
    refine s_iload_n 1 dX8_add_17 rfl rfl ?_
    refine s_iast (s0 := a0) ka_33 dX8_add_18 (fun h1 => ?_)
    refine s_aload_n 0 dX8_add_19 rfl rfl ?_
    refine s_getr1 (k2 := 34) (s0 := a0) rfl dX8_add_20 fl_X8_25 ?_
    refine s_aload_n 0 dX8_add_23 rfl rfl ?_
    refine s_geti (s0 := a0) dX8_add_24 fl_X8_18 ?_
    refine s_iload_n 2 dX8_add_27 rfl rfl ?_
    refine s_iast (s0 := a0) ka_34 dX8_add_28 (fun h2 => ?_)
    refine s_aload_n 0 dX8_add_29 rfl rfl ?_
    refine s_getr1 (k2 := 35) (s0 := a0) rfl dX8_add_30 fl_X8_28 ?_
    refine s_aload_n 0 dX8_add_33 rfl rfl ?_
    refine s_geti (s0 := a0) dX8_add_34 fl_X8_18 ?_
    refine s_iload_n 3 dX8_add_37 rfl rfl ?_
    refine s_iast (s0 := a0) ka_35 dX8_add_38 (fun h3 => ?_)
    refine s_aload_n 0 dX8_add_39 rfl rfl ?_
    refine s_dup dX8_add_40 rfl ?_
    refine s_geti (s0 := a0) dX8_add_41 fl_X8_18 ?_
    refine s_iconst (v := 1) dX8_add_44 rfl ?_
    refine s_iadd dX8_add_45 ?_
    refine s_puti (s0 := a0) dX8_add_46 fl_X8_18 (fun h4 => ?_)
    exact s_vret rfl dX8_add_49
  ·
    exact s_vret rfl dX8_add_8
def fX8_copySome_l23 (a0 : Nat) (a1 : Nat) (l2 : Int32) (K : Hp → Option (Unit × Hp)) (rec : Int32 → Hp → Option (Unit × Hp)) (l3 : Int32) (h : Hp) : Option (Unit × Hp) :=
  if (rd h 6 a1 2) ≤ l3 then (K h)
  else (jn (κ := Hp → Option (Unit × Hp)) (fun h5 => lt (l3 + 1) fun x6 =>
  rec x6 h5) fun k61_3 =>
  if ((l2 >>> (l3 &&& 31)) &&& (1 : Int32)) = 0 then (k61_3 h)
  else (ck (ib l3 5) (
  ck (ib l3 5) (
  ck (ib l3 5) (
  bnd (fX8_add a0 (ra h 33 a1 l3) (ra h 34 a1 l3) (ra h 35 a1 l3) h) fun _ h7 =>
  k61_3 h7)))))
def fX8_copySome (a0 : Nat) (a1 : Nat) (l2 : Int32) (h : Hp) : Option (Unit × Hp) :=
  lt (wr h 6 a0 0 (rd h 6 a1 0)) fun h1 =>
  lt (wr h1 6 a0 1 (rd h1 6 a1 1)) fun h2 =>
  lt (wr h2 6 a0 2 0) fun h3 =>
  itr1 (fX8_copySome_l23 a0 a1 l2 (fun h8 => some ((), h8))) FU 0 h3
set_option maxHeartbeats 4000000 in
set_option maxRecDepth 100000 in
theorem sX8_copySome_l23 (g : GE) (a0 : Nat) (a1 : Nat) (l2 : Int32) (K : Hp → Option (Unit × Hp)) (hK : ∀ (h : Hp), Sim cvv 0 g mX8_copySome 3 67 [] [] h (K  h)) : ∀ (n : Nat) (l3 : Int32) (h : Hp), Sim cvv 0 g mX8_copySome 3 23 [(0, rv g 6 a0), (1, rv g 6 a1), (2, .int l2), (3, .int l3)] [] h (itr1 (fX8_copySome_l23 a0 a1 l2 K) n l3 h) := by
  refine s_itr1 (fun l3 h o => Sim cvv 0 g mX8_copySome 3 23 [(0, rv g 6 a0), (1, rv g 6 a1), (2, .int l2), (3, .int l3)] [] h o) (fun _ _ => s_none) ?_
  intro rec hrec l3 h
  unfold fX8_copySome_l23
  refine s_iload_n 3 dX8_copySome_23 rfl rfl ?_
  refine s_aload_n 1 dX8_copySome_24 rfl rfl ?_
  refine s_geti (s0 := a1) dX8_copySome_25 fl_X8_18 ?_
  refine s_icmp_ge (tgt := 67) dX8_copySome_28 (by decide) ?_ ?_
  ·
    refine s_sub [] rfl ?_
    exact hK h
  ·
    refine s_iload_n 2 dX8_copySome_31 rfl rfl ?_
    refine s_iload_n 3 dX8_copySome_32 rfl rfl ?_
    refine s_ishr dX8_copySome_33 ?_
    refine s_iconst (v := 1) dX8_copySome_34 rfl ?_
    refine s_iand dX8_copySome_35 ?_
    refine s_jn (fun (k61_3 : Hp → Option (Unit × Hp)) => ∀ (h5 : Hp), Sim cvv 0 g mX8_copySome 3 61 [(0, rv g 6 a0), (1, rv g 6 a1), (2, .int l2), (3, .int l3)] [] h5 (k61_3 h5)) (fun h5 => ?_) (fun k61_3 Hk61_3 => ?_)
    ·
      refine s_iincl 3 (w := 1) (fun x6 => [(3, .int x6), (0, rv g 6 a0), (1, rv g 6 a1), (2, .int l2)]) dX8_copySome_61 rfl rfl (by decide) (fun _ => rfl) (fun x6 => ?_)
      refine s_goto (tgt := 23) dX8_copySome_64 (by decide) ?_
      refine s_sub [1, 2, 3, 0] rfl ?_
      exact hrec x6 h5
    refine s_if_eq (tgt := 61) dX8_copySome_36 (by decide) ?_ ?_
    ·
      exact Hk61_3 h
    ·
      refine s_aload_n 0 dX8_copySome_39 rfl rfl ?_
      refine s_aload_n 1 dX8_copySome_40 rfl rfl ?_
      refine s_getr1 (k2 := 33) (s0 := a1) rfl dX8_copySome_41 fl_X8_21 ?_
      refine s_iload_n 3 dX8_copySome_44 rfl rfl ?_
      refine s_iald (s0 := a1) ka_33 dX8_copySome_45 ?_
      refine s_aload_n 1 dX8_copySome_46 rfl rfl ?_
      refine s_getr1 (k2 := 34) (s0 := a1) rfl dX8_copySome_47 fl_X8_25 ?_
      refine s_iload_n 3 dX8_copySome_50 rfl rfl ?_
      refine s_iald (s0 := a1) ka_34 dX8_copySome_51 ?_
      refine s_aload_n 1 dX8_copySome_52 rfl rfl ?_
      refine s_getr1 (k2 := 35) (s0 := a1) rfl dX8_copySome_53 fl_X8_28 ?_
      refine s_iload_n 3 dX8_copySome_56 rfl rfl ?_
      refine s_iald (s0 := a1) ka_35 dX8_copySome_57 ?_
      refine s_callVv (s0 := a0) (As := [.int (ra h 33 a1 l3), .int (ra h 34 a1 l3), .int (ra h 35 a1 l3)]) (rest := []) (cX8_add_ok g a0 (ra h 33 a1 l3) (ra h 34 a1 l3) (ra h 35 a1 l3) h) vl_X8_37 rfl (Nat.le_of_ble_eq_true rfl) (Nat.le_of_ble_eq_true rfl) dX8_copySome_58 rfl (fun h7 => ?_)
      exact Hk61_3 h7
set_option maxHeartbeats 4000000 in
set_option maxRecDepth 100000 in
theorem cX8_copySome_ok (g : GE) (a0 : Nat) (a1 : Nat) (l2 : Int32) (h : Hp) : Con cvv 0 g mX8_copySome 3 [rv g 6 a0, rv g 6 a1, .int l2] h (fX8_copySome a0 a1 l2 h) := by
  refine Con.of (by decide +kernel) (Nat.le_of_ble_eq_true rfl) ?_
  show Sim cvv 0 g mX8_copySome 3 0 [(0, rv g 6 a0), (1, rv g 6 a1), (2, .int l2)] [] h _
  unfold fX8_copySome
  refine s_aload_n 0 dX8_copySome_0 rfl rfl ?_
  refine s_aload_n 1 dX8_copySome_1 rfl rfl ?_
  refine s_geti (s0 := a1) dX8_copySome_2 fl_X8_9 ?_
  refine s_puti (s0 := a0) dX8_copySome_5 fl_X8_9 (fun h1 => ?_)
  refine s_aload_n 0 dX8_copySome_8 rfl rfl ?_
  refine s_aload_n 1 dX8_copySome_9 rfl rfl ?_
  refine s_geti (s0 := a1) dX8_copySome_10 fl_X8_15 ?_
  refine s_puti (s0 := a0) dX8_copySome_13 fl_X8_15 (fun h2 => ?_)
  refine s_aload_n 0 dX8_copySome_16 rfl rfl ?_
  refine s_iconst (v := 0) dX8_copySome_17 rfl ?_
  refine s_puti (s0 := a0) dX8_copySome_18 fl_X8_18 (fun h3 => ?_)
  refine s_iconst (v := 0) dX8_copySome_21 rfl ?_
  refine s_istore_n (ls' := [(3, .int 0), (0, rv g 6 a0), (1, rv g 6 a1), (2, .int l2)]) dX8_copySome_22 rfl (by decide) rfl ?_
  refine s_sub (ls' := [(0, rv g 6 a0), (1, rv g 6 a1), (2, .int l2), (3, .int 0)]) [1, 2, 3, 0] rfl ?_
  refine sX8_copySome_l23 g a0 a1 l2 _ (fun h8 => ?_) FU 0 h3
  exact s_vret rfl dX8_copySome_67
def fX10_areKept (a1 : Nat) (l2 : Int32) (h : Hp) : Option (Int32 × Hp) :=
  bnd (fX8_copySome 11 a1 l2 h) fun _ h1 =>
  bnd (fX2_explore 11 0 h1) fun x3 h2 =>
  ck (zk x3) (some (x3, h2))
set_option maxHeartbeats 4000000 in
set_option maxRecDepth 100000 in
theorem cX10_areKept_ok (g : GE) (a1 : Nat) (l2 : Int32) (h : Hp) : Con cvi 0 g mX10_areKept 7 [rv g 8 0, rv g 6 a1, .int l2] h (fX10_areKept a1 l2 h) := by
  refine Con.of (by decide +kernel) (Nat.le_of_ble_eq_true rfl) ?_
  show Sim cvi 0 g mX10_areKept 7 0 [(0, rv g 8 0), (1, rv g 6 a1), (2, .int l2)] [] h _
  unfold fX10_areKept
  refine s_aload_n 0 dX10_areKept_0 rfl rfl ?_
  refine s_getr (s0 := 0) dX10_areKept_1 fl_X10_21 ?_
  refine s_aload_n 1 dX10_areKept_4 rfl rfl ?_
  refine s_iload_n 2 dX10_areKept_5 rfl rfl ?_
  refine s_callVv (s0 := 11) (As := [rv g 6 a1, .int l2]) (rest := []) (cX8_copySome_ok g 11 a1 l2 h) vl_X10_25 rfl (Nat.le_of_ble_eq_true rfl) (Nat.le_of_ble_eq_true rfl) dX10_areKept_6 rfl (fun h1 => ?_)
  refine s_aload_n 0 dX10_areKept_9 rfl rfl ?_
  refine s_getr (s0 := 0) dX10_areKept_10 fl_X10_12 ?_
  refine s_aload_n 0 dX10_areKept_13 rfl rfl ?_
  refine s_getr (s0 := 0) dX10_areKept_14 fl_X10_21 ?_
  refine s_iconst (v := 0) dX10_areKept_17 rfl ?_
  refine s_callVi (s0 := 0) (As := [rv g 6 11, .int 0]) (rest := []) (cX2_explore_ok g 11 0 h1) vl_X10_29 rfl (Nat.le_of_ble_eq_true rfl) (Nat.le_of_ble_eq_true rfl) dX10_areKept_18 rfl (fun x3 h2 => ?_)
  exact s_zret rfl dX10_areKept_21
def fX10_alonePlates_l4 (a1 : Nat) (K : Int32 → Hp → Option (Int32 × Hp)) (rec : Int32 → Int32 → Hp → Option (Int32 × Hp)) (l2 l3 : Int32) (h : Hp) : Option (Int32 × Hp) :=
  if (rd h 6 a1 2) ≤ l3 then (K l2 h)
  else (bnd (fX10_areKept a1 ((1 : Int32) <<< (l3 &&& 31)) h) fun x2 h1 =>
  jn (κ := Int32 → Hp → Option (Int32 × Hp)) (fun y2_2 h4 => lt (l3 + 1) fun x5 =>
  rec y2_2 x5 h4) fun k29_2 =>
  if x2 = 0 then (k29_2 l2 h1)
  else (lt (l2 ||| ((1 : Int32) <<< (l3 &&& 31))) fun x6 =>
  k29_2 x6 h1))
def fX10_alonePlates (a1 : Nat) (h : Hp) : Option (Int32 × Hp) :=
  itr2 (fX10_alonePlates_l4 a1 (fun y7 h8 => some (y7, h8))) FU 0 0 h
set_option maxHeartbeats 4000000 in
set_option maxRecDepth 100000 in
theorem sX10_alonePlates_l4 (g : GE) (a1 : Nat) (K : Int32 → Hp → Option (Int32 × Hp)) (hK : ∀ (y2 : Int32) (h : Hp), Sim cvi 0 g mX10_alonePlates 8 35 [(2, .int y2)] [] h (K y2 h)) : ∀ (n : Nat) (l2 l3 : Int32) (h : Hp), Sim cvi 0 g mX10_alonePlates 8 4 [(0, rv g 8 0), (1, rv g 6 a1), (2, .int l2), (3, .int l3)] [] h (itr2 (fX10_alonePlates_l4 a1 K) n l2 l3 h) := by
  refine s_itr2 (fun l2 l3 h o => Sim cvi 0 g mX10_alonePlates 8 4 [(0, rv g 8 0), (1, rv g 6 a1), (2, .int l2), (3, .int l3)] [] h o) (fun _ _ _ => s_none) ?_
  intro rec hrec l2 l3 h
  unfold fX10_alonePlates_l4
  refine s_iload_n 3 dX10_alonePlates_4 rfl rfl ?_
  refine s_aload_n 1 dX10_alonePlates_5 rfl rfl ?_
  refine s_geti (s0 := a1) dX10_alonePlates_6 fl_X10_44 ?_
  refine s_icmp_ge (tgt := 35) dX10_alonePlates_9 (by decide) ?_ ?_
  ·
    refine s_sub [2] rfl ?_
    exact hK l2 h
  ·
    refine s_aload_n 0 dX10_alonePlates_12 rfl rfl ?_
    refine s_aload_n 1 dX10_alonePlates_13 rfl rfl ?_
    refine s_iconst (v := 1) dX10_alonePlates_14 rfl ?_
    refine s_iload_n 3 dX10_alonePlates_15 rfl rfl ?_
    refine s_ishl dX10_alonePlates_16 ?_
    refine s_callVi (s0 := 0) (As := [rv g 6 a1, .int ((1 : Int32) <<< (l3 &&& 31))]) (rest := []) (cX10_areKept_ok g a1 ((1 : Int32) <<< (l3 &&& 31)) h) vl_X10_53 rfl (Nat.le_of_ble_eq_true rfl) (Nat.le_of_ble_eq_true rfl) dX10_alonePlates_17 rfl (fun x2 h1 => ?_)
    refine s_jn (fun (k29_2 : Int32 → Hp → Option (Int32 × Hp)) => ∀ (y2_2 : Int32) (h4 : Hp), Sim cvi 0 g mX10_alonePlates 8 29 [(0, rv g 8 0), (1, rv g 6 a1), (2, .int y2_2), (3, .int l3)] [] h4 (k29_2 y2_2 h4)) (fun y2_2 h4 => ?_) (fun k29_2 Hk29_2 => ?_)
    ·
      refine s_iincl 3 (w := 1) (fun x5 => [(3, .int x5), (0, rv g 8 0), (1, rv g 6 a1), (2, .int y2_2)]) dX10_alonePlates_29 rfl rfl (by decide) (fun _ => rfl) (fun x5 => ?_)
      refine s_goto (tgt := 4) dX10_alonePlates_32 (by decide) ?_
      refine s_sub [1, 2, 3, 0] rfl ?_
      exact hrec y2_2 x5 h4
    refine s_if_eq (tgt := 29) dX10_alonePlates_20 (by decide) ?_ ?_
    ·
      exact Hk29_2 l2 h1
    ·
      refine s_iload_n 2 dX10_alonePlates_23 rfl rfl ?_
      refine s_iconst (v := 1) dX10_alonePlates_24 rfl ?_
      refine s_iload_n 3 dX10_alonePlates_25 rfl rfl ?_
      refine s_ishl dX10_alonePlates_26 ?_
      refine s_ior dX10_alonePlates_27 ?_
      refine s_leti (fun x6 => ?_)
      refine s_istore_n (ls' := [(2, .int x6), (0, rv g 8 0), (1, rv g 6 a1), (3, .int l3)]) dX10_alonePlates_28 rfl (by decide) rfl ?_
      refine s_sub [1, 2, 0, 3] rfl ?_
      exact Hk29_2 x6 h1
set_option maxHeartbeats 4000000 in
set_option maxRecDepth 100000 in
theorem cX10_alonePlates_ok (g : GE) (a1 : Nat) (h : Hp) : Con cvi 0 g mX10_alonePlates 8 [rv g 8 0, rv g 6 a1] h (fX10_alonePlates a1 h) := by
  refine Con.of (by decide +kernel) (Nat.le_of_ble_eq_true rfl) ?_
  show Sim cvi 0 g mX10_alonePlates 8 0 [(0, rv g 8 0), (1, rv g 6 a1)] [] h _
  unfold fX10_alonePlates
  refine s_iconst (v := 0) dX10_alonePlates_0 rfl ?_
  refine s_istore_n (ls' := [(2, .int 0), (0, rv g 8 0), (1, rv g 6 a1)]) dX10_alonePlates_1 rfl (by decide) rfl ?_
  refine s_iconst (v := 0) dX10_alonePlates_2 rfl ?_
  refine s_istore_n (ls' := [(3, .int 0), (2, .int 0), (0, rv g 8 0), (1, rv g 6 a1)]) dX10_alonePlates_3 rfl (by decide) rfl ?_
  refine s_sub (ls' := [(0, rv g 8 0), (1, rv g 6 a1), (2, .int 0), (3, .int 0)]) [2, 3, 1, 0] rfl ?_
  refine sX10_alonePlates_l4 g a1 _ (fun y7 h8 => ?_) FU 0 0 h
  refine s_iload_n 0 dX10_alonePlates_35 rfl rfl ?_
  exact s_iret rfl dX10_alonePlates_36
def fX10_bestSwap_l28 (a1 : Nat) (l2 : Int32) (K : Hp → Option (Int32 × Hp)) (rec : Int32 → Hp → Option (Int32 × Hp)) (l3 : Int32) (h : Hp) : Option (Int32 × Hp) :=
  if (rd h 6 a1 2) ≤ l3 then (K h)
  else (bnd (fX8_copyFrom 11 a1 h) fun _ h4 =>
  ck (ib l3 5) (
  ck (ib l2 5) (lt (wa h4 33 11 l2 (ra h4 33 a1 l3)) fun h5 =>
  ck (ib l2 5) (
  ck (ib l3 5) (lt (wa h5 33 11 l3 (ra h5 33 a1 l2)) fun h6 =>
  ck (ib l2 5) (
  ck (ib l3 5) (
  jn (κ := Hp → Option (Int32 × Hp)) (fun h8 => lt (l3 + 1) fun x9 =>
  rec x9 h8) fun k111_6 =>
  if (ra h6 33 a1 l2) = (ra h6 33 a1 l3) then (k111_6 h6)
  else (bnd (fX2_explore 11 0 h6) fun x11 h10 =>
  if x11 = 0 then (k111_6 h10)
  else (some (((10 : Int32) * l2) + l3, h10))))))))))
def fX10_bestSwap_l16 (a1 : Nat) (K : Int32 → Int32 → Hp → Option (Int32 × Hp)) (rec : Int32 → Hp → Option (Int32 × Hp)) (l2 : Int32) (h : Hp) : Option (Int32 × Hp) :=
  if (rd h 6 a1 2) ≤ l2 then (some ((-1), h))
  else (lt (l2 + (1 : Int32)) fun x3 =>
  itr1 (fX10_bestSwap_l28 a1 l2 (fun h12 => lt (l2 + 1) fun x13 =>
  rec x13 h12)) FU x3 h)
def fX10_bestSwap (a1 : Nat) (h : Hp) : Option (Int32 × Hp) :=
  bnd (fX2_explore a1 0 h) fun x2 h1 =>
  if x2 = 0 then (itr1 (fX10_bestSwap_l16 a1 (fun y14 y15 h16 => some (((10 : Int32) * y14) + y15, h16))) FU 0 h1)
  else (some ((-1), h1))
set_option maxHeartbeats 4000000 in
set_option maxRecDepth 100000 in
theorem sX10_bestSwap_l28 (g : GE) (a1 : Nat) (l2 : Int32) (K : Hp → Option (Int32 × Hp)) (hK : ∀ (h : Hp), Sim cvi 0 g mX10_bestSwap 7 117 [(0, rv g 8 0), (1, rv g 6 a1), (2, .int l2)] [] h (K  h)) : ∀ (n : Nat) (l3 : Int32) (h : Hp), Sim cvi 0 g mX10_bestSwap 7 28 [(0, rv g 8 0), (1, rv g 6 a1), (2, .int l2), (3, .int l3)] [] h (itr1 (fX10_bestSwap_l28 a1 l2 K) n l3 h) := by
  refine s_itr1 (fun l3 h o => Sim cvi 0 g mX10_bestSwap 7 28 [(0, rv g 8 0), (1, rv g 6 a1), (2, .int l2), (3, .int l3)] [] h o) (fun _ _ => s_none) ?_
  intro rec hrec l3 h
  unfold fX10_bestSwap_l28
  refine s_iload_n 3 dX10_bestSwap_28 rfl rfl ?_
  refine s_aload_n 1 dX10_bestSwap_29 rfl rfl ?_
  refine s_geti (s0 := a1) dX10_bestSwap_30 fl_X10_44 ?_
  refine s_icmp_ge (tgt := 117) dX10_bestSwap_33 (by decide) ?_ ?_
  ·
    refine s_sub [0, 1, 2] rfl ?_
    exact hK h
  ·
    refine s_aload_n 0 dX10_bestSwap_36 rfl rfl ?_
    refine s_getr (s0 := 0) dX10_bestSwap_37 fl_X10_21 ?_
    refine s_aload_n 1 dX10_bestSwap_40 rfl rfl ?_
    refine s_callVv (s0 := 11) (As := [rv g 6 a1]) (rest := []) (cX8_copyFrom_ok g 11 a1 h) vl_X10_33 rfl (Nat.le_of_ble_eq_true rfl) (Nat.le_of_ble_eq_true rfl) dX10_bestSwap_41 rfl (fun h4 => ?_)
    refine s_aload_n 0 dX10_bestSwap_44 rfl rfl ?_
    refine s_getr (s0 := 0) dX10_bestSwap_45 fl_X10_21 ?_
    refine s_getr1 (k2 := 33) (s0 := 11) rfl dX10_bestSwap_48 fl_X10_74 ?_
    refine s_iload_n 2 dX10_bestSwap_51 rfl rfl ?_
    refine s_aload_n 1 dX10_bestSwap_52 rfl rfl ?_
    refine s_getr1 (k2 := 33) (s0 := a1) rfl dX10_bestSwap_53 fl_X10_74 ?_
    refine s_iload_n 3 dX10_bestSwap_56 rfl rfl ?_
    refine s_iald (s0 := a1) ka_33 dX10_bestSwap_57 ?_
    refine s_iast (s0 := 11) ka_33 dX10_bestSwap_58 (fun h5 => ?_)
    refine s_aload_n 0 dX10_bestSwap_59 rfl rfl ?_
    refine s_getr (s0 := 0) dX10_bestSwap_60 fl_X10_21 ?_
    refine s_getr1 (k2 := 33) (s0 := 11) rfl dX10_bestSwap_63 fl_X10_74 ?_
    refine s_iload_n 3 dX10_bestSwap_66 rfl rfl ?_
    refine s_aload_n 1 dX10_bestSwap_67 rfl rfl ?_
    refine s_getr1 (k2 := 33) (s0 := a1) rfl dX10_bestSwap_68 fl_X10_74 ?_
    refine s_iload_n 2 dX10_bestSwap_71 rfl rfl ?_
    refine s_iald (s0 := a1) ka_33 dX10_bestSwap_72 ?_
    refine s_iast (s0 := 11) ka_33 dX10_bestSwap_73 (fun h6 => ?_)
    refine s_aload_n 1 dX10_bestSwap_74 rfl rfl ?_
    refine s_getr1 (k2 := 33) (s0 := a1) rfl dX10_bestSwap_75 fl_X10_74 ?_
    refine s_iload_n 2 dX10_bestSwap_78 rfl rfl ?_
    refine s_iald (s0 := a1) ka_33 dX10_bestSwap_79 ?_
    refine s_aload_n 1 dX10_bestSwap_80 rfl rfl ?_
    refine s_getr1 (k2 := 33) (s0 := a1) rfl dX10_bestSwap_81 fl_X10_74 ?_
    refine s_iload_n 3 dX10_bestSwap_84 rfl rfl ?_
    refine s_iald (s0 := a1) ka_33 dX10_bestSwap_85 ?_
    refine s_jn (fun (k111_6 : Hp → Option (Int32 × Hp)) => ∀ (h8 : Hp), Sim cvi 0 g mX10_bestSwap 7 111 [(0, rv g 8 0), (1, rv g 6 a1), (2, .int l2), (3, .int l3)] [] h8 (k111_6 h8)) (fun h8 => ?_) (fun k111_6 Hk111_6 => ?_)
    ·
      refine s_iincl 3 (w := 1) (fun x9 => [(3, .int x9), (0, rv g 8 0), (1, rv g 6 a1), (2, .int l2)]) dX10_bestSwap_111 rfl rfl (by decide) (fun _ => rfl) (fun x9 => ?_)
      refine s_goto (tgt := 28) dX10_bestSwap_114 (by decide) ?_
      refine s_sub [1, 2, 3, 0] rfl ?_
      exact hrec x9 h8
    refine s_icmp_eq (tgt := 111) dX10_bestSwap_86 (by decide) ?_ ?_
    ·
      exact Hk111_6 h6
    ·
      refine s_aload_n 0 dX10_bestSwap_89 rfl rfl ?_
      refine s_getr (s0 := 0) dX10_bestSwap_90 fl_X10_12 ?_
      refine s_aload_n 0 dX10_bestSwap_93 rfl rfl ?_
      refine s_getr (s0 := 0) dX10_bestSwap_94 fl_X10_21 ?_
      refine s_iconst (v := 0) dX10_bestSwap_97 rfl ?_
      refine s_callVi (s0 := 0) (As := [rv g 6 11, .int 0]) (rest := []) (cX2_explore_ok g 11 0 h6) vl_X10_29 rfl (Nat.le_of_ble_eq_true rfl) (Nat.le_of_ble_eq_true rfl) dX10_bestSwap_98 rfl (fun x11 h10 => ?_)
      refine s_if_eq (tgt := 111) dX10_bestSwap_101 (by decide) ?_ ?_
      ·
        exact Hk111_6 h10
      ·
        refine s_bipush (v := 10) dX10_bestSwap_104 rfl ?_
        refine s_iload_n 2 dX10_bestSwap_106 rfl rfl ?_
        refine s_imul dX10_bestSwap_107 ?_
        refine s_iload_n 3 dX10_bestSwap_108 rfl rfl ?_
        refine s_iadd dX10_bestSwap_109 ?_
        exact s_iret rfl dX10_bestSwap_110
set_option maxHeartbeats 4000000 in
set_option maxRecDepth 100000 in
theorem sX10_bestSwap_l16 (g : GE) (a1 : Nat) (K : Int32 → Int32 → Hp → Option (Int32 × Hp)) (hK : ∀ (y2 y3 : Int32) (h : Hp), Sim cvi 0 g mX10_bestSwap 7 104 [(2, .int y2), (3, .int y3)] [] h (K y2 y3 h)) : ∀ (n : Nat) (l2 : Int32) (h : Hp), Sim cvi 0 g mX10_bestSwap 7 16 [(0, rv g 8 0), (1, rv g 6 a1), (2, .int l2)] [] h (itr1 (fX10_bestSwap_l16 a1 K) n l2 h) := by
  refine s_itr1 (fun l2 h o => Sim cvi 0 g mX10_bestSwap 7 16 [(0, rv g 8 0), (1, rv g 6 a1), (2, .int l2)] [] h o) (fun _ _ => s_none) ?_
  intro rec hrec l2 h
  unfold fX10_bestSwap_l16
  refine s_iload_n 2 dX10_bestSwap_16 rfl rfl ?_
  refine s_aload_n 1 dX10_bestSwap_17 rfl rfl ?_
  refine s_geti (s0 := a1) dX10_bestSwap_18 fl_X10_44 ?_
  refine s_icmp_ge (tgt := 123) dX10_bestSwap_21 (by decide) ?_ ?_
  ·
    refine s_iconst (v := (-1)) dX10_bestSwap_123 rfl ?_
    exact s_iret rfl dX10_bestSwap_124
  ·
    refine s_iload_n 2 dX10_bestSwap_24 rfl rfl ?_
    refine s_iconst (v := 1) dX10_bestSwap_25 rfl ?_
    refine s_iadd dX10_bestSwap_26 ?_
    refine s_leti (fun x3 => ?_)
    refine s_istore_n (ls' := [(3, .int x3), (0, rv g 8 0), (1, rv g 6 a1), (2, .int l2)]) dX10_bestSwap_27 rfl (by decide) rfl ?_
    refine s_sub (ls' := [(0, rv g 8 0), (1, rv g 6 a1), (2, .int l2), (3, .int x3)]) [1, 2, 3, 0] rfl ?_
    refine sX10_bestSwap_l28 g a1 l2 _ (fun h12 => ?_) FU x3 h
    refine s_iincl 2 (w := 1) (fun x13 => [(2, .int x13), (0, rv g 8 0), (1, rv g 6 a1)]) dX10_bestSwap_117 rfl rfl (by decide) (fun _ => rfl) (fun x13 => ?_)
    refine s_goto (tgt := 16) dX10_bestSwap_120 (by decide) ?_
    refine s_sub [1, 2, 0] rfl ?_
    exact hrec x13 h12
set_option maxHeartbeats 4000000 in
set_option maxRecDepth 100000 in
theorem cX10_bestSwap_ok (g : GE) (a1 : Nat) (h : Hp) : Con cvi 0 g mX10_bestSwap 7 [rv g 8 0, rv g 6 a1] h (fX10_bestSwap a1 h) := by
  refine Con.of (by decide +kernel) (Nat.le_of_ble_eq_true rfl) ?_
  show Sim cvi 0 g mX10_bestSwap 7 0 [(0, rv g 8 0), (1, rv g 6 a1)] [] h _
  unfold fX10_bestSwap
  refine s_aload_n 0 dX10_bestSwap_0 rfl rfl ?_
  refine s_getr (s0 := 0) dX10_bestSwap_1 fl_X10_12 ?_
  refine s_aload_n 1 dX10_bestSwap_4 rfl rfl ?_
  refine s_iconst (v := 0) dX10_bestSwap_5 rfl ?_
  refine s_callVi (s0 := 0) (As := [rv g 6 a1, .int 0]) (rest := []) (cX2_explore_ok g a1 0 h) vl_X10_29 rfl (Nat.le_of_ble_eq_true rfl) (Nat.le_of_ble_eq_true rfl) dX10_bestSwap_6 rfl (fun x2 h1 => ?_)
  refine s_if_eq (tgt := 14) dX10_bestSwap_9 (by decide) ?_ ?_
  ·
    refine s_iconst (v := 0) dX10_bestSwap_14 rfl ?_
    refine s_istore_n (ls' := [(2, .int 0), (0, rv g 8 0), (1, rv g 6 a1)]) dX10_bestSwap_15 rfl (by decide) rfl ?_
    refine s_sub (ls' := [(0, rv g 8 0), (1, rv g 6 a1), (2, .int 0)]) [1, 2, 0] rfl ?_
    refine sX10_bestSwap_l16 g a1 _ (fun y14 y15 h16 => ?_) FU 0 h1
    refine s_bipush (v := 10) dX10_bestSwap_104 rfl ?_
    refine s_iload_n 0 dX10_bestSwap_106 rfl rfl ?_
    refine s_imul dX10_bestSwap_107 ?_
    refine s_iload_n 1 dX10_bestSwap_108 rfl rfl ?_
    refine s_iadd dX10_bestSwap_109 ?_
    exact s_iret rfl dX10_bestSwap_110
  ·
    refine s_iconst (v := (-1)) dX10_bestSwap_12 rfl ?_
    exact s_iret rfl dX10_bestSwap_13
def fX10_couplesAlone_l17 (a1 : Nat) (l3 : Int32) (K : Int32 → Hp → Option (Int32 × Hp)) (rec : Int32 → Int32 → Hp → Option (Int32 × Hp)) (l2 l4 : Int32) (h : Hp) : Option (Int32 × Hp) :=
  if (rd h 6 a1 2) ≤ l4 then (K l2 h)
  else (bnd (fX10_areKept a1 (((1 : Int32) <<< (l3 &&& 31)) ||| ((1 : Int32) <<< (l4 &&& 31))) h) fun x3 h2 =>
  jn (κ := Int32 → Hp → Option (Int32 × Hp)) (fun y2_3 h5 => lt (l4 + 1) fun x6 =>
  rec y2_3 x6 h5) fun k45_3 =>
  if x3 = 0 then (k45_3 l2 h2)
  else (lt (l2 + 1) fun x7 =>
  k45_3 x7 h2))
def fX10_couplesAlone_l4 (a1 : Nat) (K : Int32 → Hp → Option (Int32 × Hp)) (rec : Int32 → Int32 → Hp → Option (Int32 × Hp)) (l2 l3 : Int32) (h : Hp) : Option (Int32 × Hp) :=
  if (rd h 6 a1 2) ≤ l3 then (K l2 h)
  else (lt (l3 + (1 : Int32)) fun x1 =>
  itr2 (fX10_couplesAlone_l17 a1 l3 (fun y8 h9 => lt (l3 + 1) fun x10 =>
  rec y8 x10 h9)) FU l2 x1 h)
def fX10_couplesAlone (a1 : Nat) (h : Hp) : Option (Int32 × Hp) :=
  itr2 (fX10_couplesAlone_l4 a1 (fun y11 h12 => some (y11, h12))) FU 0 0 h
set_option maxHeartbeats 4000000 in
set_option maxRecDepth 100000 in
theorem sX10_couplesAlone_l17 (g : GE) (a1 : Nat) (l3 : Int32) (K : Int32 → Hp → Option (Int32 × Hp)) (hK : ∀ (y2 : Int32) (h : Hp), Sim cvi 0 g mX10_couplesAlone 8 51 [(0, rv g 8 0), (1, rv g 6 a1), (2, .int y2), (3, .int l3)] [] h (K y2 h)) : ∀ (n : Nat) (l2 l4 : Int32) (h : Hp), Sim cvi 0 g mX10_couplesAlone 8 17 [(0, rv g 8 0), (1, rv g 6 a1), (2, .int l2), (3, .int l3), (4, .int l4)] [] h (itr2 (fX10_couplesAlone_l17 a1 l3 K) n l2 l4 h) := by
  refine s_itr2 (fun l2 l4 h o => Sim cvi 0 g mX10_couplesAlone 8 17 [(0, rv g 8 0), (1, rv g 6 a1), (2, .int l2), (3, .int l3), (4, .int l4)] [] h o) (fun _ _ _ => s_none) ?_
  intro rec hrec l2 l4 h
  unfold fX10_couplesAlone_l17
  refine s_iload 4 dX10_couplesAlone_17 rfl ?_
  refine s_aload_n 1 dX10_couplesAlone_19 rfl rfl ?_
  refine s_geti (s0 := a1) dX10_couplesAlone_20 fl_X10_44 ?_
  refine s_icmp_ge (tgt := 51) dX10_couplesAlone_23 (by decide) ?_ ?_
  ·
    refine s_sub [0, 1, 2, 3] rfl ?_
    exact hK l2 h
  ·
    refine s_aload_n 0 dX10_couplesAlone_26 rfl rfl ?_
    refine s_aload_n 1 dX10_couplesAlone_27 rfl rfl ?_
    refine s_iconst (v := 1) dX10_couplesAlone_28 rfl ?_
    refine s_iload_n 3 dX10_couplesAlone_29 rfl rfl ?_
    refine s_ishl dX10_couplesAlone_30 ?_
    refine s_iconst (v := 1) dX10_couplesAlone_31 rfl ?_
    refine s_iload 4 dX10_couplesAlone_32 rfl ?_
    refine s_ishl dX10_couplesAlone_34 ?_
    refine s_ior dX10_couplesAlone_35 ?_
    refine s_callVi (s0 := 0) (As := [rv g 6 a1, .int (((1 : Int32) <<< (l3 &&& 31)) ||| ((1 : Int32) <<< (l4 &&& 31)))]) (rest := []) (cX10_areKept_ok g a1 (((1 : Int32) <<< (l3 &&& 31)) ||| ((1 : Int32) <<< (l4 &&& 31))) h) vl_X10_53 rfl (Nat.le_of_ble_eq_true rfl) (Nat.le_of_ble_eq_true rfl) dX10_couplesAlone_36 rfl (fun x3 h2 => ?_)
    refine s_jn (fun (k45_3 : Int32 → Hp → Option (Int32 × Hp)) => ∀ (y2_3 : Int32) (h5 : Hp), Sim cvi 0 g mX10_couplesAlone 8 45 [(0, rv g 8 0), (1, rv g 6 a1), (2, .int y2_3), (3, .int l3), (4, .int l4)] [] h5 (k45_3 y2_3 h5)) (fun y2_3 h5 => ?_) (fun k45_3 Hk45_3 => ?_)
    ·
      refine s_iincl 4 (w := 1) (fun x6 => [(4, .int x6), (0, rv g 8 0), (1, rv g 6 a1), (2, .int y2_3), (3, .int l3)]) dX10_couplesAlone_45 rfl rfl (by decide) (fun _ => rfl) (fun x6 => ?_)
      refine s_goto (tgt := 17) dX10_couplesAlone_48 (by decide) ?_
      refine s_sub [1, 2, 3, 4, 0] rfl ?_
      exact hrec y2_3 x6 h5
    refine s_if_eq (tgt := 45) dX10_couplesAlone_39 (by decide) ?_ ?_
    ·
      exact Hk45_3 l2 h2
    ·
      refine s_iincl 2 (w := 1) (fun x7 => [(2, .int x7), (0, rv g 8 0), (1, rv g 6 a1), (3, .int l3), (4, .int l4)]) dX10_couplesAlone_42 rfl rfl (by decide) (fun _ => rfl) (fun x7 => ?_)
      refine s_sub [1, 2, 0, 3, 4] rfl ?_
      exact Hk45_3 x7 h2
set_option maxHeartbeats 4000000 in
set_option maxRecDepth 100000 in
theorem sX10_couplesAlone_l4 (g : GE) (a1 : Nat) (K : Int32 → Hp → Option (Int32 × Hp)) (hK : ∀ (y2 : Int32) (h : Hp), Sim cvi 0 g mX10_couplesAlone 8 57 [(2, .int y2)] [] h (K y2 h)) : ∀ (n : Nat) (l2 l3 : Int32) (h : Hp), Sim cvi 0 g mX10_couplesAlone 8 4 [(0, rv g 8 0), (1, rv g 6 a1), (2, .int l2), (3, .int l3)] [] h (itr2 (fX10_couplesAlone_l4 a1 K) n l2 l3 h) := by
  refine s_itr2 (fun l2 l3 h o => Sim cvi 0 g mX10_couplesAlone 8 4 [(0, rv g 8 0), (1, rv g 6 a1), (2, .int l2), (3, .int l3)] [] h o) (fun _ _ _ => s_none) ?_
  intro rec hrec l2 l3 h
  unfold fX10_couplesAlone_l4
  refine s_iload_n 3 dX10_couplesAlone_4 rfl rfl ?_
  refine s_aload_n 1 dX10_couplesAlone_5 rfl rfl ?_
  refine s_geti (s0 := a1) dX10_couplesAlone_6 fl_X10_44 ?_
  refine s_icmp_ge (tgt := 57) dX10_couplesAlone_9 (by decide) ?_ ?_
  ·
    refine s_sub [2] rfl ?_
    exact hK l2 h
  ·
    refine s_iload_n 3 dX10_couplesAlone_12 rfl rfl ?_
    refine s_iconst (v := 1) dX10_couplesAlone_13 rfl ?_
    refine s_iadd dX10_couplesAlone_14 ?_
    refine s_leti (fun x1 => ?_)
    refine s_istore (ls' := [(4, .int x1), (0, rv g 8 0), (1, rv g 6 a1), (2, .int l2), (3, .int l3)]) dX10_couplesAlone_15 (by decide) rfl ?_
    refine s_sub (ls' := [(0, rv g 8 0), (1, rv g 6 a1), (2, .int l2), (3, .int l3), (4, .int x1)]) [1, 2, 3, 4, 0] rfl ?_
    refine sX10_couplesAlone_l17 g a1 l3 _ (fun y8 h9 => ?_) FU l2 x1 h
    refine s_iincl 3 (w := 1) (fun x10 => [(3, .int x10), (0, rv g 8 0), (1, rv g 6 a1), (2, .int y8)]) dX10_couplesAlone_51 rfl rfl (by decide) (fun _ => rfl) (fun x10 => ?_)
    refine s_goto (tgt := 4) dX10_couplesAlone_54 (by decide) ?_
    refine s_sub [1, 2, 3, 0] rfl ?_
    exact hrec y8 x10 h9
set_option maxHeartbeats 4000000 in
set_option maxRecDepth 100000 in
theorem cX10_couplesAlone_ok (g : GE) (a1 : Nat) (h : Hp) : Con cvi 0 g mX10_couplesAlone 8 [rv g 8 0, rv g 6 a1] h (fX10_couplesAlone a1 h) := by
  refine Con.of (by decide +kernel) (Nat.le_of_ble_eq_true rfl) ?_
  show Sim cvi 0 g mX10_couplesAlone 8 0 [(0, rv g 8 0), (1, rv g 6 a1)] [] h _
  unfold fX10_couplesAlone
  refine s_iconst (v := 0) dX10_couplesAlone_0 rfl ?_
  refine s_istore_n (ls' := [(2, .int 0), (0, rv g 8 0), (1, rv g 6 a1)]) dX10_couplesAlone_1 rfl (by decide) rfl ?_
  refine s_iconst (v := 0) dX10_couplesAlone_2 rfl ?_
  refine s_istore_n (ls' := [(3, .int 0), (2, .int 0), (0, rv g 8 0), (1, rv g 6 a1)]) dX10_couplesAlone_3 rfl (by decide) rfl ?_
  refine s_sub (ls' := [(0, rv g 8 0), (1, rv g 6 a1), (2, .int 0), (3, .int 0)]) [2, 3, 1, 0] rfl ?_
  refine sX10_couplesAlone_l4 g a1 _ (fun y11 h12 => ?_) FU 0 0 h
  refine s_iload_n 0 dX10_couplesAlone_57 rfl rfl ?_
  exact s_iret rfl dX10_couplesAlone_58
def fX10_leastLife_l20 (a1 : Nat) (l2 : Int32) (K : Hp → Option (Int32 × Hp)) (rec : Int32 → Hp → Option (Int32 × Hp)) (l3 : Int32) (h : Hp) : Option (Int32 × Hp) :=
  if (6 : Int32) < l3 then (K h)
  else (ck (ib l2 5) (lt (wa h 34 11 l2 l3) fun h4 =>
  ck (ib l2 5) (
  lt (if l3 < (ra h4 35 a1 l2) then l3 else (ra h4 35 a1 l2)) fun x5 =>
  ck (ib l2 5) (lt (wa h4 35 11 l2 x5) fun h6 =>
  bnd (fX2_explore 11 0 h6) fun x8 h7 =>
  if x8 = 0 then (lt (l3 + 1) fun x9 =>
  rec x9 h7)
  else (some (l3, h7))))))
def fX10_leastLife (a1 : Nat) (l2 : Int32) (h : Hp) : Option (Int32 × Hp) :=
  bnd (fX8_has a1 l2 h) fun x2 h1 =>
  if x2 = 0 then (some ((-1), h1))
  else (bnd (fX8_copyFrom 11 a1 h1) fun _ h3 =>
  itr1 (fX10_leastLife_l20 a1 l2 (fun h10 => some ((-1), h10))) FU 1 h3)
set_option maxHeartbeats 4000000 in
set_option maxRecDepth 100000 in
theorem sX10_leastLife_l20 (g : GE) (a1 : Nat) (l2 : Int32) (K : Hp → Option (Int32 × Hp)) (hK : ∀ (h : Hp), Sim cvi 0 g mX10_leastLife 7 78 [] [] h (K  h)) : ∀ (n : Nat) (l3 : Int32) (h : Hp), Sim cvi 0 g mX10_leastLife 7 20 [(0, rv g 8 0), (1, rv g 6 a1), (2, .int l2), (3, .int l3)] [] h (itr1 (fX10_leastLife_l20 a1 l2 K) n l3 h) := by
  refine s_itr1 (fun l3 h o => Sim cvi 0 g mX10_leastLife 7 20 [(0, rv g 8 0), (1, rv g 6 a1), (2, .int l2), (3, .int l3)] [] h o) (fun _ _ => s_none) ?_
  intro rec hrec l3 h
  unfold fX10_leastLife_l20
  refine s_iload_n 3 dX10_leastLife_20 rfl rfl ?_
  refine s_bipush (v := 6) dX10_leastLife_21 rfl ?_
  refine s_icmp_gt (tgt := 78) dX10_leastLife_23 (by decide) ?_ ?_
  ·
    refine s_sub [] rfl ?_
    exact hK h
  ·
    refine s_aload_n 0 dX10_leastLife_26 rfl rfl ?_
    refine s_getr (s0 := 0) dX10_leastLife_27 fl_X10_21 ?_
    refine s_getr1 (k2 := 34) (s0 := 11) rfl dX10_leastLife_30 fl_X10_61 ?_
    refine s_iload_n 2 dX10_leastLife_33 rfl rfl ?_
    refine s_iload_n 3 dX10_leastLife_34 rfl rfl ?_
    refine s_iast (s0 := 11) ka_34 dX10_leastLife_35 (fun h4 => ?_)
    refine s_aload_n 0 dX10_leastLife_36 rfl rfl ?_
    refine s_getr (s0 := 0) dX10_leastLife_37 fl_X10_21 ?_
    refine s_getr1 (k2 := 35) (s0 := 11) rfl dX10_leastLife_40 fl_X10_65 ?_
    refine s_iload_n 2 dX10_leastLife_43 rfl rfl ?_
    refine s_aload_n 1 dX10_leastLife_44 rfl rfl ?_
    refine s_getr1 (k2 := 35) (s0 := a1) rfl dX10_leastLife_45 fl_X10_65 ?_
    refine s_iload_n 2 dX10_leastLife_48 rfl rfl ?_
    refine s_iald (s0 := a1) ka_35 dX10_leastLife_49 ?_
    refine s_iload_n 3 dX10_leastLife_50 rfl rfl ?_
    refine s_mmin w_4_174 mw_min (Nat.le_of_ble_eq_true rfl) (Nat.le_of_ble_eq_true rfl) dX10_leastLife_51 ?_
    refine s_leti (fun x5 => ?_)
    refine s_iast (s0 := 11) ka_35 dX10_leastLife_54 (fun h6 => ?_)
    refine s_aload_n 0 dX10_leastLife_55 rfl rfl ?_
    refine s_getr (s0 := 0) dX10_leastLife_56 fl_X10_12 ?_
    refine s_aload_n 0 dX10_leastLife_59 rfl rfl ?_
    refine s_getr (s0 := 0) dX10_leastLife_60 fl_X10_21 ?_
    refine s_iconst (v := 0) dX10_leastLife_63 rfl ?_
    refine s_callVi (s0 := 0) (As := [rv g 6 11, .int 0]) (rest := []) (cX2_explore_ok g 11 0 h6) vl_X10_29 rfl (Nat.le_of_ble_eq_true rfl) (Nat.le_of_ble_eq_true rfl) dX10_leastLife_64 rfl (fun x8 h7 => ?_)
    refine s_if_eq (tgt := 72) dX10_leastLife_67 (by decide) ?_ ?_
    ·
      refine s_iincl 3 (w := 1) (fun x9 => [(3, .int x9), (0, rv g 8 0), (1, rv g 6 a1), (2, .int l2)]) dX10_leastLife_72 rfl rfl (by decide) (fun _ => rfl) (fun x9 => ?_)
      refine s_goto (tgt := 20) dX10_leastLife_75 (by decide) ?_
      refine s_sub [1, 2, 3, 0] rfl ?_
      exact hrec x9 h7
    ·
      refine s_iload_n 3 dX10_leastLife_70 rfl rfl ?_
      exact s_iret rfl dX10_leastLife_71
set_option maxHeartbeats 4000000 in
set_option maxRecDepth 100000 in
theorem cX10_leastLife_ok (g : GE) (a1 : Nat) (l2 : Int32) (h : Hp) : Con cvi 0 g mX10_leastLife 7 [rv g 8 0, rv g 6 a1, .int l2] h (fX10_leastLife a1 l2 h) := by
  refine Con.of (by decide +kernel) (Nat.le_of_ble_eq_true rfl) ?_
  show Sim cvi 0 g mX10_leastLife 7 0 [(0, rv g 8 0), (1, rv g 6 a1), (2, .int l2)] [] h _
  unfold fX10_leastLife
  refine s_aload_n 1 dX10_leastLife_0 rfl rfl ?_
  refine s_iload_n 2 dX10_leastLife_1 rfl rfl ?_
  refine s_callVi (s0 := a1) (As := [.int l2]) (rest := []) (cX8_has_ok g a1 l2 h) vl_X10_57 rfl (Nat.le_of_ble_eq_true rfl) (Nat.le_of_ble_eq_true rfl) dX10_leastLife_2 rfl (fun x2 h1 => ?_)
  refine s_if_ne (tgt := 10) dX10_leastLife_5 (by decide) ?_ ?_
  ·
    refine s_iconst (v := (-1)) dX10_leastLife_8 rfl ?_
    exact s_iret rfl dX10_leastLife_9
  ·
    refine s_aload_n 0 dX10_leastLife_10 rfl rfl ?_
    refine s_getr (s0 := 0) dX10_leastLife_11 fl_X10_21 ?_
    refine s_aload_n 1 dX10_leastLife_14 rfl rfl ?_
    refine s_callVv (s0 := 11) (As := [rv g 6 a1]) (rest := []) (cX8_copyFrom_ok g 11 a1 h1) vl_X10_33 rfl (Nat.le_of_ble_eq_true rfl) (Nat.le_of_ble_eq_true rfl) dX10_leastLife_15 rfl (fun h3 => ?_)
    refine s_iconst (v := 1) dX10_leastLife_18 rfl ?_
    refine s_istore_n (ls' := [(3, .int 1), (0, rv g 8 0), (1, rv g 6 a1), (2, .int l2)]) dX10_leastLife_19 rfl (by decide) rfl ?_
    refine s_sub (ls' := [(0, rv g 8 0), (1, rv g 6 a1), (2, .int l2), (3, .int 1)]) [1, 2, 3, 0] rfl ?_
    refine sX10_leastLife_l20 g a1 l2 _ (fun h10 => ?_) FU 1 h3
    refine s_iconst (v := (-1)) dX10_leastLife_78 rfl ?_
    exact s_iret rfl dX10_leastLife_79
