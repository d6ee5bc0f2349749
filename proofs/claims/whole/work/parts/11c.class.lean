def fX10_leastSpeed_l10 (K : Hp → Option (Int32 × Hp)) (rec : Int32 → Hp → Option (Int32 × Hp)) (l2 : Int32) (h : Hp) : Option (Int32 × Hp) :=
  if (9 : Int32) < l2 then (K h)
  else (lt (wr h 6 11 0 l2) fun h2 =>
  bnd (fX2_explore 11 0 h2) fun x4 h3 =>
  if x4 = 0 then (lt (l2 + 1) fun x5 =>
  rec x5 h3)
  else (some (l2, h3)))
def fX10_leastSpeed (a1 : Nat) (h : Hp) : Option (Int32 × Hp) :=
  bnd (fX8_copyFrom 11 a1 h) fun _ h1 =>
  itr1 (fX10_leastSpeed_l10 (fun h6 => some ((-1), h6))) FU 1 h1
set_option maxHeartbeats 4000000 in
set_option maxRecDepth 100000 in
theorem sX10_leastSpeed_l10 (g : GE) (K : Hp → Option (Int32 × Hp)) (hK : ∀ (h : Hp), Sim cvi 0 g mX10_leastSpeed 7 47 [] [] h (K  h)) : ∀ (n : Nat) (l2 : Int32) (h : Hp), Sim cvi 0 g mX10_leastSpeed 7 10 [(0, rv g 8 0), (2, .int l2)] [] h (itr1 (fX10_leastSpeed_l10 K) n l2 h) := by
  refine s_itr1 (fun l2 h o => Sim cvi 0 g mX10_leastSpeed 7 10 [(0, rv g 8 0), (2, .int l2)] [] h o) (fun _ _ => s_none) ?_
  intro rec hrec l2 h
  unfold fX10_leastSpeed_l10
  refine s_iload_n 1 dX10_leastSpeed_10 rfl rfl ?_
  refine s_bipush (v := 9) dX10_leastSpeed_11 rfl ?_
  refine s_icmp_gt (tgt := 47) dX10_leastSpeed_13 (by decide) ?_ ?_
  ·
    refine s_sub [] rfl ?_
    exact hK h
  ·
    refine s_aload_n 0 dX10_leastSpeed_16 rfl rfl ?_
    refine s_getr (s0 := 0) dX10_leastSpeed_17 fl_X10_21 ?_
    refine s_iload_n 1 dX10_leastSpeed_20 rfl rfl ?_
    refine s_puti (s0 := 11) dX10_leastSpeed_21 fl_X10_37 (fun h2 => ?_)
    refine s_aload_n 0 dX10_leastSpeed_24 rfl rfl ?_
    refine s_getr (s0 := 0) dX10_leastSpeed_25 fl_X10_12 ?_
    refine s_aload_n 0 dX10_leastSpeed_28 rfl rfl ?_
    refine s_getr (s0 := 0) dX10_leastSpeed_29 fl_X10_21 ?_
    refine s_iconst (v := 0) dX10_leastSpeed_32 rfl ?_
    refine s_callVi (s0 := 0) (As := [rv g 6 11, .int 0]) (rest := []) (cX2_explore_ok g 11 0 h2) vl_X10_29 rfl (Nat.le_of_ble_eq_true rfl) (Nat.le_of_ble_eq_true rfl) dX10_leastSpeed_33 rfl (fun x4 h3 => ?_)
    refine s_if_eq (tgt := 41) dX10_leastSpeed_36 (by decide) ?_ ?_
    ·
      refine s_iincl 1 (w := 1) (fun x5 => [(2, .int x5), (0, rv g 8 0)]) dX10_leastSpeed_41 rfl rfl (by decide) (fun _ => rfl) (fun x5 => ?_)
      refine s_goto (tgt := 10) dX10_leastSpeed_44 (by decide) ?_
      refine s_sub [1, 0] rfl ?_
      exact hrec x5 h3
    ·
      refine s_iload_n 1 dX10_leastSpeed_39 rfl rfl ?_
      exact s_iret rfl dX10_leastSpeed_40
set_option maxHeartbeats 4000000 in
set_option maxRecDepth 100000 in
theorem cX10_leastSpeed_ok (g : GE) (a1 : Nat) (h : Hp) : Con cvi 0 g mX10_leastSpeed 7 [rv g 8 0, rv g 6 a1] h (fX10_leastSpeed a1 h) := by
  refine Con.of (by decide +kernel) (Nat.le_of_ble_eq_true rfl) ?_
  show Sim cvi 0 g mX10_leastSpeed 7 0 [(0, rv g 8 0), (1, rv g 6 a1)] [] h _
  unfold fX10_leastSpeed
  refine s_aload_n 0 dX10_leastSpeed_0 rfl rfl ?_
  refine s_getr (s0 := 0) dX10_leastSpeed_1 fl_X10_21 ?_
  refine s_aload_n 1 dX10_leastSpeed_4 rfl rfl ?_
  refine s_callVv (s0 := 11) (As := [rv g 6 a1]) (rest := []) (cX8_copyFrom_ok g 11 a1 h) vl_X10_33 rfl (Nat.le_of_ble_eq_true rfl) (Nat.le_of_ble_eq_true rfl) dX10_leastSpeed_5 rfl (fun h1 => ?_)
  refine s_iconst (v := 1) dX10_leastSpeed_8 rfl ?_
  refine s_istore_n (ls' := [(2, .int 1), (0, rv g 8 0), (1, rv g 6 a1)]) dX10_leastSpeed_9 rfl (by decide) rfl ?_
  refine s_sub (ls' := [(0, rv g 8 0), (2, .int 1)]) [1, 0] rfl ?_
  refine sX10_leastSpeed_l10 g _ (fun h6 => ?_) FU 1 h1
  refine s_iconst (v := (-1)) dX10_leastSpeed_47 rfl ?_
  exact s_iret rfl dX10_leastSpeed_48
def fX10_mostKept_l11 (a1 : Nat) (l2 : Int32) (K : Hp → Option (Int32 × Hp)) (rec : Int32 → Hp → Option (Int32 × Hp)) (l3 : Int32) (h : Hp) : Option (Int32 × Hp) :=
  if ((1 : Int32) <<< ((rd h 6 a1 2) &&& 31)) ≤ l3 then (K h)
  else (bnd (fJ6_bitCount_0f7a4 l3 h) fun x3 h2 =>
  jn (κ := Hp → Option (Int32 × Hp)) (fun h5 => lt (l3 + 1) fun x6 =>
  rec x6 h5) fun k40_3 =>
  if x3 = l2 then (bnd (fX10_areKept a1 l3 h2) fun x8 h7 =>
  if x8 = 0 then (k40_3 h7)
  else (some (l3, h7)))
  else (k40_3 h2))
def fX10_mostKept_l5 (a1 : Nat) (K : Hp → Option (Int32 × Hp)) (rec : Int32 → Hp → Option (Int32 × Hp)) (l2 : Int32) (h : Hp) : Option (Int32 × Hp) :=
  if l2 ≤ 0 then (K h)
  else (itr1 (fX10_mostKept_l11 a1 l2 (fun h9 => lt (l2 + (-1)) fun x10 =>
  rec x10 h9)) FU 1 h)
def fX10_mostKept (a1 : Nat) (h : Hp) : Option (Int32 × Hp) :=
  lt (rd h 6 a1 2) fun x1 =>
  itr1 (fX10_mostKept_l5 a1 (fun h11 => some (0, h11))) FU x1 h
set_option maxHeartbeats 4000000 in
set_option maxRecDepth 100000 in
theorem sX10_mostKept_l11 (g : GE) (a1 : Nat) (l2 : Int32) (K : Hp → Option (Int32 × Hp)) (hK : ∀ (h : Hp), Sim cvi 0 g mX10_mostKept 8 46 [(0, rv g 8 0), (1, rv g 6 a1), (2, .int l2)] [] h (K  h)) : ∀ (n : Nat) (l3 : Int32) (h : Hp), Sim cvi 0 g mX10_mostKept 8 11 [(0, rv g 8 0), (1, rv g 6 a1), (2, .int l2), (3, .int l3)] [] h (itr1 (fX10_mostKept_l11 a1 l2 K) n l3 h) := by
  refine s_itr1 (fun l3 h o => Sim cvi 0 g mX10_mostKept 8 11 [(0, rv g 8 0), (1, rv g 6 a1), (2, .int l2), (3, .int l3)] [] h o) (fun _ _ => s_none) ?_
  intro rec hrec l3 h
  unfold fX10_mostKept_l11
  refine s_iload_n 3 dX10_mostKept_11 rfl rfl ?_
  refine s_iconst (v := 1) dX10_mostKept_12 rfl ?_
  refine s_aload_n 1 dX10_mostKept_13 rfl rfl ?_
  refine s_geti (s0 := a1) dX10_mostKept_14 fl_X10_44 ?_
  refine s_ishl dX10_mostKept_17 ?_
  refine s_icmp_ge (tgt := 46) dX10_mostKept_18 (by decide) ?_ ?_
  ·
    refine s_sub [0, 1, 2] rfl ?_
    exact hK h
  ·
    refine s_iload_n 3 dX10_mostKept_21 rfl rfl ?_
    refine s_callSi (As := [.int l3]) (rest := []) (cJ6_bitCount_0f7a4_ok g l3 h) sl_X10_47 rfl (Nat.le_of_ble_eq_true rfl) (Nat.le_of_ble_eq_true rfl) dX10_mostKept_22 rfl (fun x3 h2 => ?_)
    refine s_iload_n 2 dX10_mostKept_25 rfl rfl ?_
    refine s_jn (fun (k40_3 : Hp → Option (Int32 × Hp)) => ∀ (h5 : Hp), Sim cvi 0 g mX10_mostKept 8 40 [(0, rv g 8 0), (1, rv g 6 a1), (2, .int l2), (3, .int l3)] [] h5 (k40_3 h5)) (fun h5 => ?_) (fun k40_3 Hk40_3 => ?_)
    ·
      refine s_iincl 3 (w := 1) (fun x6 => [(3, .int x6), (0, rv g 8 0), (1, rv g 6 a1), (2, .int l2)]) dX10_mostKept_40 rfl rfl (by decide) (fun _ => rfl) (fun x6 => ?_)
      refine s_goto (tgt := 11) dX10_mostKept_43 (by decide) ?_
      refine s_sub [1, 2, 3, 0] rfl ?_
      exact hrec x6 h5
    refine s_icmp_ne (tgt := 40) dX10_mostKept_26 (by decide) ?_ ?_
    ·
      refine s_aload_n 0 dX10_mostKept_29 rfl rfl ?_
      refine s_aload_n 1 dX10_mostKept_30 rfl rfl ?_
      refine s_iload_n 3 dX10_mostKept_31 rfl rfl ?_
      refine s_callVi (s0 := 0) (As := [rv g 6 a1, .int l3]) (rest := []) (cX10_areKept_ok g a1 l3 h2) vl_X10_53 rfl (Nat.le_of_ble_eq_true rfl) (Nat.le_of_ble_eq_true rfl) dX10_mostKept_32 rfl (fun x8 h7 => ?_)
      refine s_if_eq (tgt := 40) dX10_mostKept_35 (by decide) ?_ ?_
      ·
        exact Hk40_3 h7
      ·
        refine s_iload_n 3 dX10_mostKept_38 rfl rfl ?_
        exact s_iret rfl dX10_mostKept_39
    ·
      exact Hk40_3 h2
set_option maxHeartbeats 4000000 in
set_option maxRecDepth 100000 in
theorem sX10_mostKept_l5 (g : GE) (a1 : Nat) (K : Hp → Option (Int32 × Hp)) (hK : ∀ (h : Hp), Sim cvi 0 g mX10_mostKept 8 52 [] [] h (K  h)) : ∀ (n : Nat) (l2 : Int32) (h : Hp), Sim cvi 0 g mX10_mostKept 8 5 [(0, rv g 8 0), (1, rv g 6 a1), (2, .int l2)] [] h (itr1 (fX10_mostKept_l5 a1 K) n l2 h) := by
  refine s_itr1 (fun l2 h o => Sim cvi 0 g mX10_mostKept 8 5 [(0, rv g 8 0), (1, rv g 6 a1), (2, .int l2)] [] h o) (fun _ _ => s_none) ?_
  intro rec hrec l2 h
  unfold fX10_mostKept_l5
  refine s_iload_n 2 dX10_mostKept_5 rfl rfl ?_
  refine s_if_le (tgt := 52) dX10_mostKept_6 (by decide) ?_ ?_
  ·
    refine s_sub [] rfl ?_
    exact hK h
  ·
    refine s_iconst (v := 1) dX10_mostKept_9 rfl ?_
    refine s_istore_n (ls' := [(3, .int 1), (0, rv g 8 0), (1, rv g 6 a1), (2, .int l2)]) dX10_mostKept_10 rfl (by decide) rfl ?_
    refine s_sub (ls' := [(0, rv g 8 0), (1, rv g 6 a1), (2, .int l2), (3, .int 1)]) [1, 2, 3, 0] rfl ?_
    refine sX10_mostKept_l11 g a1 l2 _ (fun h9 => ?_) FU 1 h
    refine s_iincl 2 (w := (-1)) (fun x10 => [(2, .int x10), (0, rv g 8 0), (1, rv g 6 a1)]) dX10_mostKept_46 rfl rfl (by decide) (fun _ => rfl) (fun x10 => ?_)
    refine s_goto (tgt := 5) dX10_mostKept_49 (by decide) ?_
    refine s_sub [1, 2, 0] rfl ?_
    exact hrec x10 h9
set_option maxHeartbeats 4000000 in
set_option maxRecDepth 100000 in
theorem cX10_mostKept_ok (g : GE) (a1 : Nat) (h : Hp) : Con cvi 0 g mX10_mostKept 8 [rv g 8 0, rv g 6 a1] h (fX10_mostKept a1 h) := by
  refine Con.of (by decide +kernel) (Nat.le_of_ble_eq_true rfl) ?_
  show Sim cvi 0 g mX10_mostKept 8 0 [(0, rv g 8 0), (1, rv g 6 a1)] [] h _
  unfold fX10_mostKept
  refine s_aload_n 1 dX10_mostKept_0 rfl rfl ?_
  refine s_geti (s0 := a1) dX10_mostKept_1 fl_X10_44 ?_
  refine s_leti (fun x1 => ?_)
  refine s_istore_n (ls' := [(2, .int x1), (0, rv g 8 0), (1, rv g 6 a1)]) dX10_mostKept_4 rfl (by decide) rfl ?_
  refine s_sub (ls' := [(0, rv g 8 0), (1, rv g 6 a1), (2, .int x1)]) [1, 2, 0] rfl ?_
  refine sX10_mostKept_l5 g a1 _ (fun h11 => ?_) FU x1 h
  refine s_iconst (v := 0) dX10_mostKept_52 rfl ?_
  exact s_iret rfl dX10_mostKept_53
def fX10_movePlaces_l23 (l2 : Int32) (K : Int32 → Hp → Option (Int32 × Hp)) (rec : Int32 → Int32 → Hp → Option (Int32 × Hp)) (l3 l4 : Int32) (h : Hp) : Option (Int32 × Hp) :=
  if (10 : Int32) ≤ l4 then (K l3 h)
  else (ck (ib l2 5) (lt (wa h 33 11 l2 l4) fun h4 =>
  bnd (fX2_explore 11 0 h4) fun x6 h5 =>
  jn (κ := Int32 → Hp → Option (Int32 × Hp)) (fun y3_6 h8 => lt (l4 + 1) fun x9 =>
  rec y3_6 x9 h8) fun k63_6 =>
  if x6 = 0 then (k63_6 l3 h5)
  else (lt (l3 ||| ((1 : Int32) <<< (l4 &&& 31))) fun x10 =>
  k63_6 x10 h5)))
def fX10_movePlaces (a1 : Nat) (l2 : Int32) (h : Hp) : Option (Int32 × Hp) :=
  bnd (fX8_has a1 l2 h) fun x2 h1 =>
  if x2 = 0 then (some (0, h1))
  else (bnd (fX8_copyFrom 11 a1 h1) fun _ h3 =>
  itr2 (fX10_movePlaces_l23 l2 (fun y11 h12 => some (y11, h12))) FU 0 0 h3)
set_option maxHeartbeats 4000000 in
set_option maxRecDepth 100000 in
theorem sX10_movePlaces_l23 (g : GE) (l2 : Int32) (K : Int32 → Hp → Option (Int32 × Hp)) (hK : ∀ (y3 : Int32) (h : Hp), Sim cvi 0 g mX10_movePlaces 7 69 [(3, .int y3)] [] h (K y3 h)) : ∀ (n : Nat) (l3 l4 : Int32) (h : Hp), Sim cvi 0 g mX10_movePlaces 7 23 [(0, rv g 8 0), (2, .int l2), (3, .int l3), (4, .int l4)] [] h (itr2 (fX10_movePlaces_l23 l2 K) n l3 l4 h) := by
  refine s_itr2 (fun l3 l4 h o => Sim cvi 0 g mX10_movePlaces 7 23 [(0, rv g 8 0), (2, .int l2), (3, .int l3), (4, .int l4)] [] h o) (fun _ _ _ => s_none) ?_
  intro rec hrec l3 l4 h
  unfold fX10_movePlaces_l23
  refine s_iload 3 dX10_movePlaces_23 rfl ?_
  refine s_bipush (v := 10) dX10_movePlaces_25 rfl ?_
  refine s_icmp_ge (tgt := 69) dX10_movePlaces_27 (by decide) ?_ ?_
  ·
    refine s_sub [2] rfl ?_
    exact hK l3 h
  ·
    refine s_aload_n 0 dX10_movePlaces_30 rfl rfl ?_
    refine s_getr (s0 := 0) dX10_movePlaces_31 fl_X10_21 ?_
    refine s_getr1 (k2 := 33) (s0 := 11) rfl dX10_movePlaces_34 fl_X10_74 ?_
    refine s_iload_n 1 dX10_movePlaces_37 rfl rfl ?_
    refine s_iload 3 dX10_movePlaces_38 rfl ?_
    refine s_iast (s0 := 11) ka_33 dX10_movePlaces_40 (fun h4 => ?_)
    refine s_aload_n 0 dX10_movePlaces_41 rfl rfl ?_
    refine s_getr (s0 := 0) dX10_movePlaces_42 fl_X10_12 ?_
    refine s_aload_n 0 dX10_movePlaces_45 rfl rfl ?_
    refine s_getr (s0 := 0) dX10_movePlaces_46 fl_X10_21 ?_
    refine s_iconst (v := 0) dX10_movePlaces_49 rfl ?_
    refine s_callVi (s0 := 0) (As := [rv g 6 11, .int 0]) (rest := []) (cX2_explore_ok g 11 0 h4) vl_X10_29 rfl (Nat.le_of_ble_eq_true rfl) (Nat.le_of_ble_eq_true rfl) dX10_movePlaces_50 rfl (fun x6 h5 => ?_)
    refine s_jn (fun (k63_6 : Int32 → Hp → Option (Int32 × Hp)) => ∀ (y3_6 : Int32) (h8 : Hp), Sim cvi 0 g mX10_movePlaces 7 63 [(0, rv g 8 0), (2, .int l2), (3, .int y3_6), (4, .int l4)] [] h8 (k63_6 y3_6 h8)) (fun y3_6 h8 => ?_) (fun k63_6 Hk63_6 => ?_)
    ·
      refine s_iincl 3 (w := 1) (fun x9 => [(4, .int x9), (0, rv g 8 0), (2, .int l2), (3, .int y3_6)]) dX10_movePlaces_63 rfl rfl (by decide) (fun _ => rfl) (fun x9 => ?_)
      refine s_goto (tgt := 23) dX10_movePlaces_66 (by decide) ?_
      refine s_sub [1, 2, 3, 0] rfl ?_
      exact hrec y3_6 x9 h8
    refine s_if_eq (tgt := 63) dX10_movePlaces_53 (by decide) ?_ ?_
    ·
      exact Hk63_6 l3 h5
    ·
      refine s_iload_n 2 dX10_movePlaces_56 rfl rfl ?_
      refine s_iconst (v := 1) dX10_movePlaces_57 rfl ?_
      refine s_iload 3 dX10_movePlaces_58 rfl ?_
      refine s_ishl dX10_movePlaces_60 ?_
      refine s_ior dX10_movePlaces_61 ?_
      refine s_leti (fun x10 => ?_)
      refine s_istore_n (ls' := [(3, .int x10), (0, rv g 8 0), (2, .int l2), (4, .int l4)]) dX10_movePlaces_62 rfl (by decide) rfl ?_
      refine s_sub [1, 2, 0, 3] rfl ?_
      exact Hk63_6 x10 h5
set_option maxHeartbeats 4000000 in
set_option maxRecDepth 100000 in
theorem cX10_movePlaces_ok (g : GE) (a1 : Nat) (l2 : Int32) (h : Hp) : Con cvi 0 g mX10_movePlaces 7 [rv g 8 0, rv g 6 a1, .int l2] h (fX10_movePlaces a1 l2 h) := by
  refine Con.of (by decide +kernel) (Nat.le_of_ble_eq_true rfl) ?_
  show Sim cvi 0 g mX10_movePlaces 7 0 [(0, rv g 8 0), (1, rv g 6 a1), (2, .int l2)] [] h _
  unfold fX10_movePlaces
  refine s_aload_n 1 dX10_movePlaces_0 rfl rfl ?_
  refine s_iload_n 2 dX10_movePlaces_1 rfl rfl ?_
  refine s_callVi (s0 := a1) (As := [.int l2]) (rest := []) (cX8_has_ok g a1 l2 h) vl_X10_57 rfl (Nat.le_of_ble_eq_true rfl) (Nat.le_of_ble_eq_true rfl) dX10_movePlaces_2 rfl (fun x2 h1 => ?_)
  refine s_if_ne (tgt := 10) dX10_movePlaces_5 (by decide) ?_ ?_
  ·
    refine s_iconst (v := 0) dX10_movePlaces_8 rfl ?_
    exact s_iret rfl dX10_movePlaces_9
  ·
    refine s_aload_n 0 dX10_movePlaces_10 rfl rfl ?_
    refine s_getr (s0 := 0) dX10_movePlaces_11 fl_X10_21 ?_
    refine s_aload_n 1 dX10_movePlaces_14 rfl rfl ?_
    refine s_callVv (s0 := 11) (As := [rv g 6 a1]) (rest := []) (cX8_copyFrom_ok g 11 a1 h1) vl_X10_33 rfl (Nat.le_of_ble_eq_true rfl) (Nat.le_of_ble_eq_true rfl) dX10_movePlaces_15 rfl (fun h3 => ?_)
    refine s_iconst (v := 0) dX10_movePlaces_18 rfl ?_
    refine s_istore_n (ls' := [(3, .int 0), (0, rv g 8 0), (1, rv g 6 a1), (2, .int l2)]) dX10_movePlaces_19 rfl (by decide) rfl ?_
    refine s_iconst (v := 0) dX10_movePlaces_20 rfl ?_
    refine s_istore (ls' := [(4, .int 0), (3, .int 0), (0, rv g 8 0), (1, rv g 6 a1), (2, .int l2)]) dX10_movePlaces_21 (by decide) rfl ?_
    refine s_sub (ls' := [(0, rv g 8 0), (2, .int l2), (3, .int 0), (4, .int 0)]) [2, 4, 1, 0] rfl ?_
    refine sX10_movePlaces_l23 g l2 _ (fun y11 h12 => ?_) FU 0 0 h3
    refine s_iload_n 0 dX10_movePlaces_69 rfl rfl ?_
    exact s_iret rfl dX10_movePlaces_70
def fX10_sparePlates_l14 (a1 : Nat) (l2 : Int32) (K : Int32 → Hp → Option (Int32 × Hp)) (rec : Int32 → Int32 → Hp → Option (Int32 × Hp)) (l3 l4 : Int32) (h : Hp) : Option (Int32 × Hp) :=
  if (rd h 6 a1 2) ≤ l4 then (K l3 h)
  else (bnd (fX10_areKept a1 (l2 &&& (((1 : Int32) <<< (l4 &&& 31)) ^^^ (-1 : Int32))) h) fun x3 h2 =>
  jn (κ := Int32 → Hp → Option (Int32 × Hp)) (fun y3_3 h5 => lt (l4 + 1) fun x6 =>
  rec y3_3 x6 h5) fun k46_3 =>
  if x3 = 0 then (k46_3 l3 h2)
  else (lt (l3 ||| ((1 : Int32) <<< (l4 &&& 31))) fun x7 =>
  k46_3 x7 h2))
def fX10_sparePlates (a1 : Nat) (h : Hp) : Option (Int32 × Hp) :=
  lt (((1 : Int32) <<< ((rd h 6 a1 2) &&& 31)) - (1 : Int32)) fun x1 =>
  itr2 (fX10_sparePlates_l14 a1 x1 (fun y8 h9 => some (y8, h9))) FU 0 0 h
set_option maxHeartbeats 4000000 in
set_option maxRecDepth 100000 in
theorem sX10_sparePlates_l14 (g : GE) (a1 : Nat) (l2 : Int32) (K : Int32 → Hp → Option (Int32 × Hp)) (hK : ∀ (y3 : Int32) (h : Hp), Sim cvi 0 g mX10_sparePlates 8 52 [(3, .int y3)] [] h (K y3 h)) : ∀ (n : Nat) (l3 l4 : Int32) (h : Hp), Sim cvi 0 g mX10_sparePlates 8 14 [(0, rv g 8 0), (1, rv g 6 a1), (2, .int l2), (3, .int l3), (4, .int l4)] [] h (itr2 (fX10_sparePlates_l14 a1 l2 K) n l3 l4 h) := by
  refine s_itr2 (fun l3 l4 h o => Sim cvi 0 g mX10_sparePlates 8 14 [(0, rv g 8 0), (1, rv g 6 a1), (2, .int l2), (3, .int l3), (4, .int l4)] [] h o) (fun _ _ _ => s_none) ?_
  intro rec hrec l3 l4 h
  unfold fX10_sparePlates_l14
  refine s_iload 4 dX10_sparePlates_14 rfl ?_
  refine s_aload_n 1 dX10_sparePlates_16 rfl rfl ?_
  refine s_geti (s0 := a1) dX10_sparePlates_17 fl_X10_44 ?_
  refine s_icmp_ge (tgt := 52) dX10_sparePlates_20 (by decide) ?_ ?_
  ·
    refine s_sub [3] rfl ?_
    exact hK l3 h
  ·
    refine s_aload_n 0 dX10_sparePlates_23 rfl rfl ?_
    refine s_aload_n 1 dX10_sparePlates_24 rfl rfl ?_
    refine s_iload_n 2 dX10_sparePlates_25 rfl rfl ?_
    refine s_iconst (v := 1) dX10_sparePlates_26 rfl ?_
    refine s_iload 4 dX10_sparePlates_27 rfl ?_
    refine s_ishl dX10_sparePlates_29 ?_
    refine s_iconst (v := (-1)) dX10_sparePlates_30 rfl ?_
    refine s_ixor dX10_sparePlates_31 ?_
    refine s_iand dX10_sparePlates_32 ?_
    refine s_callVi (s0 := 0) (As := [rv g 6 a1, .int (l2 &&& (((1 : Int32) <<< (l4 &&& 31)) ^^^ (-1 : Int32)))]) (rest := []) (cX10_areKept_ok g a1 (l2 &&& (((1 : Int32) <<< (l4 &&& 31)) ^^^ (-1 : Int32))) h) vl_X10_53 rfl (Nat.le_of_ble_eq_true rfl) (Nat.le_of_ble_eq_true rfl) dX10_sparePlates_33 rfl (fun x3 h2 => ?_)
    refine s_jn (fun (k46_3 : Int32 → Hp → Option (Int32 × Hp)) => ∀ (y3_3 : Int32) (h5 : Hp), Sim cvi 0 g mX10_sparePlates 8 46 [(0, rv g 8 0), (1, rv g 6 a1), (2, .int l2), (3, .int y3_3), (4, .int l4)] [] h5 (k46_3 y3_3 h5)) (fun y3_3 h5 => ?_) (fun k46_3 Hk46_3 => ?_)
    ·
      refine s_iincl 4 (w := 1) (fun x6 => [(4, .int x6), (0, rv g 8 0), (1, rv g 6 a1), (2, .int l2), (3, .int y3_3)]) dX10_sparePlates_46 rfl rfl (by decide) (fun _ => rfl) (fun x6 => ?_)
      refine s_goto (tgt := 14) dX10_sparePlates_49 (by decide) ?_
      refine s_sub [1, 2, 3, 4, 0] rfl ?_
      exact hrec y3_3 x6 h5
    refine s_if_eq (tgt := 46) dX10_sparePlates_36 (by decide) ?_ ?_
    ·
      exact Hk46_3 l3 h2
    ·
      refine s_iload_n 3 dX10_sparePlates_39 rfl rfl ?_
      refine s_iconst (v := 1) dX10_sparePlates_40 rfl ?_
      refine s_iload 4 dX10_sparePlates_41 rfl ?_
      refine s_ishl dX10_sparePlates_43 ?_
      refine s_ior dX10_sparePlates_44 ?_
      refine s_leti (fun x7 => ?_)
      refine s_istore_n (ls' := [(3, .int x7), (0, rv g 8 0), (1, rv g 6 a1), (2, .int l2), (4, .int l4)]) dX10_sparePlates_45 rfl (by decide) rfl ?_
      refine s_sub [1, 2, 3, 0, 4] rfl ?_
      exact Hk46_3 x7 h2
set_option maxHeartbeats 4000000 in
set_option maxRecDepth 100000 in
theorem cX10_sparePlates_ok (g : GE) (a1 : Nat) (h : Hp) : Con cvi 0 g mX10_sparePlates 8 [rv g 8 0, rv g 6 a1] h (fX10_sparePlates a1 h) := by
  refine Con.of (by decide +kernel) (Nat.le_of_ble_eq_true rfl) ?_
  show Sim cvi 0 g mX10_sparePlates 8 0 [(0, rv g 8 0), (1, rv g 6 a1)] [] h _
  unfold fX10_sparePlates
  refine s_iconst (v := 1) dX10_sparePlates_0 rfl ?_
  refine s_aload_n 1 dX10_sparePlates_1 rfl rfl ?_
  refine s_geti (s0 := a1) dX10_sparePlates_2 fl_X10_44 ?_
  refine s_ishl dX10_sparePlates_5 ?_
  refine s_iconst (v := 1) dX10_sparePlates_6 rfl ?_
  refine s_isub dX10_sparePlates_7 ?_
  refine s_leti (fun x1 => ?_)
  refine s_istore_n (ls' := [(2, .int x1), (0, rv g 8 0), (1, rv g 6 a1)]) dX10_sparePlates_8 rfl (by decide) rfl ?_
  refine s_iconst (v := 0) dX10_sparePlates_9 rfl ?_
  refine s_istore_n (ls' := [(3, .int 0), (2, .int x1), (0, rv g 8 0), (1, rv g 6 a1)]) dX10_sparePlates_10 rfl (by decide) rfl ?_
  refine s_iconst (v := 0) dX10_sparePlates_11 rfl ?_
  refine s_istore (ls' := [(4, .int 0), (3, .int 0), (2, .int x1), (0, rv g 8 0), (1, rv g 6 a1)]) dX10_sparePlates_12 (by decide) rfl ?_
  refine s_sub (ls' := [(0, rv g 8 0), (1, rv g 6 a1), (2, .int x1), (3, .int 0), (4, .int 0)]) [3, 4, 2, 1, 0] rfl ?_
  refine sX10_sparePlates_l14 g a1 x1 _ (fun y8 h9 => ?_) FU 0 0 h
  refine s_iload_n 0 dX10_sparePlates_52 rfl rfl ?_
  exact s_iret rfl dX10_sparePlates_53
def fX10_startPlaces_l12 (K : Int32 → Hp → Option (Int32 × Hp)) (rec : Int32 → Int32 → Hp → Option (Int32 × Hp)) (l2 l3 : Int32) (h : Hp) : Option (Int32 × Hp) :=
  if (10 : Int32) ≤ l3 then (K l2 h)
  else (lt (wr h 6 11 1 l3) fun h2 =>
  bnd (fX2_explore 11 0 h2) fun x4 h3 =>
  jn (κ := Int32 → Hp → Option (Int32 × Hp)) (fun y2_4 h6 => lt (l3 + 1) fun x7 =>
  rec y2_4 x7 h6) fun k47_4 =>
  if x4 = 0 then (k47_4 l2 h3)
  else (lt (l2 ||| ((1 : Int32) <<< (l3 &&& 31))) fun x8 =>
  k47_4 x8 h3))
def fX10_startPlaces (a1 : Nat) (h : Hp) : Option (Int32 × Hp) :=
  bnd (fX8_copyFrom 11 a1 h) fun _ h1 =>
  itr2 (fX10_startPlaces_l12 (fun y9 h10 => some (y9, h10))) FU 0 0 h1
set_option maxHeartbeats 4000000 in
set_option maxRecDepth 100000 in
theorem sX10_startPlaces_l12 (g : GE) (K : Int32 → Hp → Option (Int32 × Hp)) (hK : ∀ (y2 : Int32) (h : Hp), Sim cvi 0 g mX10_startPlaces 7 53 [(2, .int y2)] [] h (K y2 h)) : ∀ (n : Nat) (l2 l3 : Int32) (h : Hp), Sim cvi 0 g mX10_startPlaces 7 12 [(0, rv g 8 0), (2, .int l2), (3, .int l3)] [] h (itr2 (fX10_startPlaces_l12 K) n l2 l3 h) := by
  refine s_itr2 (fun l2 l3 h o => Sim cvi 0 g mX10_startPlaces 7 12 [(0, rv g 8 0), (2, .int l2), (3, .int l3)] [] h o) (fun _ _ _ => s_none) ?_
  intro rec hrec l2 l3 h
  unfold fX10_startPlaces_l12
  refine s_iload_n 2 dX10_startPlaces_12 rfl rfl ?_
  refine s_bipush (v := 10) dX10_startPlaces_13 rfl ?_
  refine s_icmp_ge (tgt := 53) dX10_startPlaces_15 (by decide) ?_ ?_
  ·
    refine s_sub [1] rfl ?_
    exact hK l2 h
  ·
    refine s_aload_n 0 dX10_startPlaces_18 rfl rfl ?_
    refine s_getr (s0 := 0) dX10_startPlaces_19 fl_X10_21 ?_
    refine s_iload_n 2 dX10_startPlaces_22 rfl rfl ?_
    refine s_puti (s0 := 11) dX10_startPlaces_23 fl_X10_41 (fun h2 => ?_)
    refine s_aload_n 0 dX10_startPlaces_26 rfl rfl ?_
    refine s_getr (s0 := 0) dX10_startPlaces_27 fl_X10_12 ?_
    refine s_aload_n 0 dX10_startPlaces_30 rfl rfl ?_
    refine s_getr (s0 := 0) dX10_startPlaces_31 fl_X10_21 ?_
    refine s_iconst (v := 0) dX10_startPlaces_34 rfl ?_
    refine s_callVi (s0 := 0) (As := [rv g 6 11, .int 0]) (rest := []) (cX2_explore_ok g 11 0 h2) vl_X10_29 rfl (Nat.le_of_ble_eq_true rfl) (Nat.le_of_ble_eq_true rfl) dX10_startPlaces_35 rfl (fun x4 h3 => ?_)
    refine s_jn (fun (k47_4 : Int32 → Hp → Option (Int32 × Hp)) => ∀ (y2_4 : Int32) (h6 : Hp), Sim cvi 0 g mX10_startPlaces 7 47 [(0, rv g 8 0), (2, .int y2_4), (3, .int l3)] [] h6 (k47_4 y2_4 h6)) (fun y2_4 h6 => ?_) (fun k47_4 Hk47_4 => ?_)
    ·
      refine s_iincl 2 (w := 1) (fun x7 => [(3, .int x7), (0, rv g 8 0), (2, .int y2_4)]) dX10_startPlaces_47 rfl rfl (by decide) (fun _ => rfl) (fun x7 => ?_)
      refine s_goto (tgt := 12) dX10_startPlaces_50 (by decide) ?_
      refine s_sub [1, 2, 0] rfl ?_
      exact hrec y2_4 x7 h6
    refine s_if_eq (tgt := 47) dX10_startPlaces_38 (by decide) ?_ ?_
    ·
      exact Hk47_4 l2 h3
    ·
      refine s_iload_n 1 dX10_startPlaces_41 rfl rfl ?_
      refine s_iconst (v := 1) dX10_startPlaces_42 rfl ?_
      refine s_iload_n 2 dX10_startPlaces_43 rfl rfl ?_
      refine s_ishl dX10_startPlaces_44 ?_
      refine s_ior dX10_startPlaces_45 ?_
      refine s_leti (fun x8 => ?_)
      refine s_istore_n (ls' := [(2, .int x8), (0, rv g 8 0), (3, .int l3)]) dX10_startPlaces_46 rfl (by decide) rfl ?_
      refine s_sub [1, 0, 2] rfl ?_
      exact Hk47_4 x8 h3
set_option maxHeartbeats 4000000 in
set_option maxRecDepth 100000 in
theorem cX10_startPlaces_ok (g : GE) (a1 : Nat) (h : Hp) : Con cvi 0 g mX10_startPlaces 7 [rv g 8 0, rv g 6 a1] h (fX10_startPlaces a1 h) := by
  refine Con.of (by decide +kernel) (Nat.le_of_ble_eq_true rfl) ?_
  show Sim cvi 0 g mX10_startPlaces 7 0 [(0, rv g 8 0), (1, rv g 6 a1)] [] h _
  unfold fX10_startPlaces
  refine s_aload_n 0 dX10_startPlaces_0 rfl rfl ?_
  refine s_getr (s0 := 0) dX10_startPlaces_1 fl_X10_21 ?_
  refine s_aload_n 1 dX10_startPlaces_4 rfl rfl ?_
  refine s_callVv (s0 := 11) (As := [rv g 6 a1]) (rest := []) (cX8_copyFrom_ok g 11 a1 h) vl_X10_33 rfl (Nat.le_of_ble_eq_true rfl) (Nat.le_of_ble_eq_true rfl) dX10_startPlaces_5 rfl (fun h1 => ?_)
  refine s_iconst (v := 0) dX10_startPlaces_8 rfl ?_
  refine s_istore_n (ls' := [(2, .int 0), (0, rv g 8 0), (1, rv g 6 a1)]) dX10_startPlaces_9 rfl (by decide) rfl ?_
  refine s_iconst (v := 0) dX10_startPlaces_10 rfl ?_
  refine s_istore_n (ls' := [(3, .int 0), (2, .int 0), (0, rv g 8 0), (1, rv g 6 a1)]) dX10_startPlaces_11 rfl (by decide) rfl ?_
  refine s_sub (ls' := [(0, rv g 8 0), (2, .int 0), (3, .int 0)]) [2, 1, 0] rfl ?_
  refine sX10_startPlaces_l12 g _ (fun y9 h10 => ?_) FU 0 0 h1
  refine s_iload_n 0 dX10_startPlaces_53 rfl rfl ?_
  exact s_iret rfl dX10_startPlaces_54
def fX4_mostSpun_l4 (K : Int32 → Hp → Option (Int32 × Hp)) (rec : Int32 → Int32 → Hp → Option (Int32 × Hp)) (l1 l2 : Int32) (h : Hp) : Option (Int32 × Hp) :=
  if (rd h 6 9 2) ≤ l2 then (K l1 h)
  else (ck (ib l2 5) (
  jn (κ := Int32 → Hp → Option (Int32 × Hp)) (fun z0_0 h2 => jn (κ := Int32 → Hp → Option (Int32 × Hp)) (fun y1_2 h4 => lt (l2 + 1) fun x5 =>
  rec y1_2 x5 h4) fun k41_2 =>
  if (ra h 24 0 l2) ≤ z0_0 then (k41_2 l1 h2)
  else (k41_2 l2 h2)) fun k36_0 =>
  if l1 = (-1) then (k36_0 0 h)
  else (ck (ib l1 5) (
  k36_0 (ra h 24 0 l1) h))))
def fX4_mostSpun (h : Hp) : Option (Int32 × Hp) :=
  itr2 (fX4_mostSpun_l4 (fun y6 h7 => some (y6, h7))) FU (-1) 0 h
set_option maxHeartbeats 4000000 in
set_option maxRecDepth 100000 in
theorem sX4_mostSpun_l4 (g : GE) (K : Int32 → Hp → Option (Int32 × Hp)) (hK : ∀ (y1 : Int32) (h : Hp), Sim cvi 0 g mX4_mostSpun 2 47 [(1, .int y1)] [] h (K y1 h)) : ∀ (n : Nat) (l1 l2 : Int32) (h : Hp), Sim cvi 0 g mX4_mostSpun 2 4 [(0, rv g 2 0), (1, .int l1), (2, .int l2)] [] h (itr2 (fX4_mostSpun_l4 K) n l1 l2 h) := by
  refine s_itr2 (fun l1 l2 h o => Sim cvi 0 g mX4_mostSpun 2 4 [(0, rv g 2 0), (1, .int l1), (2, .int l2)] [] h o) (fun _ _ _ => s_none) ?_
  intro rec hrec l1 l2 h
  unfold fX4_mostSpun_l4
  refine s_iload_n 2 dX4_mostSpun_4 rfl rfl ?_
  refine s_aload_n 0 dX4_mostSpun_5 rfl rfl ?_
  refine s_getr (s0 := 0) dX4_mostSpun_6 fl_X4_12 ?_
  refine s_geti (s0 := 9) dX4_mostSpun_9 fl_X4_87 ?_
  refine s_icmp_ge (tgt := 47) dX4_mostSpun_12 (by decide) ?_ ?_
  ·
    refine s_sub [1] rfl ?_
    exact hK l1 h
  ·
    refine s_aload_n 0 dX4_mostSpun_15 rfl rfl ?_
    refine s_getr (s0 := 0) dX4_mostSpun_16 fl_X4_18 ?_
    refine s_iload_n 2 dX4_mostSpun_19 rfl rfl ?_
    refine s_iald (s0 := 0) ka_24 dX4_mostSpun_20 ?_
    refine s_iload_n 1 dX4_mostSpun_21 rfl rfl ?_
    refine s_iconst (v := (-1)) dX4_mostSpun_22 rfl ?_
    refine s_jn (fun (k36_0 : Int32 → Hp → Option (Int32 × Hp)) => ∀ (z0_0 : Int32) (h2 : Hp), Sim cvi 0 g mX4_mostSpun 2 36 [(0, rv g 2 0), (1, .int l1), (2, .int l2)] [.int z0_0, .int (ra h 24 0 l2)] h2 (k36_0 z0_0 h2)) (fun z0_0 h2 => ?_) (fun k36_0 Hk36_0 => ?_)
    ·
      refine s_jn (fun (k41_2 : Int32 → Hp → Option (Int32 × Hp)) => ∀ (y1_2 : Int32) (h4 : Hp), Sim cvi 0 g mX4_mostSpun 2 41 [(0, rv g 2 0), (1, .int y1_2), (2, .int l2)] [] h4 (k41_2 y1_2 h4)) (fun y1_2 h4 => ?_) (fun k41_2 Hk41_2 => ?_)
      ·
        refine s_iincl 2 (w := 1) (fun x5 => [(2, .int x5), (0, rv g 2 0), (1, .int y1_2)]) dX4_mostSpun_41 rfl rfl (by decide) (fun _ => rfl) (fun x5 => ?_)
        refine s_goto (tgt := 4) dX4_mostSpun_44 (by decide) ?_
        refine s_sub [1, 2, 0] rfl ?_
        exact hrec y1_2 x5 h4
      refine s_icmp_le (tgt := 41) dX4_mostSpun_36 (by decide) ?_ ?_
      ·
        exact Hk41_2 l1 h2
      ·
        refine s_iload_n 2 dX4_mostSpun_39 rfl rfl ?_
        refine s_istore_n (ls' := [(1, .int l2), (0, rv g 2 0), (2, .int l2)]) dX4_mostSpun_40 rfl (by decide) rfl ?_
        refine s_sub [1, 0, 2] rfl ?_
        exact Hk41_2 l2 h2
    refine s_icmp_ne (tgt := 30) dX4_mostSpun_23 (by decide) ?_ ?_
    ·
      refine s_iconst (v := 0) dX4_mostSpun_26 rfl ?_
      refine s_goto (tgt := 36) dX4_mostSpun_27 (by decide) ?_
      exact Hk36_0 0 h
    ·
      refine s_aload_n 0 dX4_mostSpun_30 rfl rfl ?_
      refine s_getr (s0 := 0) dX4_mostSpun_31 fl_X4_18 ?_
      refine s_iload_n 1 dX4_mostSpun_34 rfl rfl ?_
      refine s_iald (s0 := 0) ka_24 dX4_mostSpun_35 ?_
      exact Hk36_0 (ra h 24 0 l1) h
set_option maxHeartbeats 4000000 in
set_option maxRecDepth 100000 in
theorem cX4_mostSpun_ok (g : GE) (h : Hp) : Con cvi 0 g mX4_mostSpun 2 [rv g 2 0] h (fX4_mostSpun h) := by
  refine Con.of (by decide +kernel) (Nat.le_of_ble_eq_true rfl) ?_
  show Sim cvi 0 g mX4_mostSpun 2 0 [(0, rv g 2 0)] [] h _
  unfold fX4_mostSpun
  refine s_iconst (v := (-1)) dX4_mostSpun_0 rfl ?_
  refine s_istore_n (ls' := [(1, .int (-1)), (0, rv g 2 0)]) dX4_mostSpun_1 rfl (by decide) rfl ?_
  refine s_iconst (v := 0) dX4_mostSpun_2 rfl ?_
  refine s_istore_n (ls' := [(2, .int 0), (1, .int (-1)), (0, rv g 2 0)]) dX4_mostSpun_3 rfl (by decide) rfl ?_
  refine s_sub (ls' := [(0, rv g 2 0), (1, .int (-1)), (2, .int 0)]) [2, 1, 0] rfl ?_
  refine sX4_mostSpun_l4 g _ (fun y6 h7 => ?_) FU (-1) 0 h
  refine s_iload_n 0 dX4_mostSpun_47 rfl rfl ?_
  exact s_iret rfl dX4_mostSpun_48
def fX4_begin_l63 (K : Hp → Option (Unit × Hp)) (rec : Int32 → Hp → Option (Unit × Hp)) (l2 : Int32) (h : Hp) : Option (Unit × Hp) :=
  if (5 : Int32) ≤ l2 then (K h)
  else (ck (ib l2 5) (lt (wa h 24 0 l2 0) fun h12 =>
  lt (l2 + 1) fun x13 =>
  rec x13 h12))
def fX4_begin (a1 : Nat) (h : Hp) : Option (Unit × Hp) :=
  bnd (fX8_copyFrom 9 a1 h) fun _ h1 =>
  lt (wr h1 2 0 2 (rd h1 6 a1 1)) fun h2 =>
  lt (wr h2 2 0 3 0) fun h3 =>
  lt (wr h3 2 0 4 0) fun h4 =>
  lt (wr h4 2 0 5 0) fun h5 =>
  lt (wr h5 2 0 6 0) fun h6 =>
  lt (wr h6 2 0 8 (-1)) fun h7 =>
  lt (wr h7 2 0 9 0) fun h8 =>
  lt (wr h8 2 0 10 0) fun h9 =>
  lt (wr h9 2 0 11 0) fun h10 =>
  lt (wr h10 2 0 12 0) fun h11 =>
  itr1 (fX4_begin_l63 (fun h14 => some ((), h14))) FU 0 h11
set_option maxHeartbeats 4000000 in
set_option maxRecDepth 100000 in
theorem sX4_begin_l63 (g : GE) (K : Hp → Option (Unit × Hp)) (hK : ∀ (h : Hp), Sim cvv 0 g mX4_begin 3 85 [] [] h (K  h)) : ∀ (n : Nat) (l2 : Int32) (h : Hp), Sim cvv 0 g mX4_begin 3 63 [(0, rv g 2 0), (2, .int l2)] [] h (itr1 (fX4_begin_l63 K) n l2 h) := by
  refine s_itr1 (fun l2 h o => Sim cvv 0 g mX4_begin 3 63 [(0, rv g 2 0), (2, .int l2)] [] h o) (fun _ _ => s_none) ?_
  intro rec hrec l2 h
  unfold fX4_begin_l63
  refine s_iload_n 1 dX4_begin_63 rfl rfl ?_
  refine s_aload_n 0 dX4_begin_64 rfl rfl ?_
  refine s_getr (s0 := 0) dX4_begin_65 fl_X4_18 ?_
  refine s_alen0 (v := 5) ka_24 rfl dX4_begin_68 ?_
  refine s_icmp_ge (tgt := 85) dX4_begin_69 (by decide) ?_ ?_
  ·
    refine s_sub [] rfl ?_
    exact hK h
  ·
    refine s_aload_n 0 dX4_begin_72 rfl rfl ?_
    refine s_getr (s0 := 0) dX4_begin_73 fl_X4_18 ?_
    refine s_iload_n 1 dX4_begin_76 rfl rfl ?_
    refine s_iconst (v := 0) dX4_begin_77 rfl ?_
    refine s_iast (s0 := 0) ka_24 dX4_begin_78 (fun h12 => ?_)
    refine s_iincl 1 (w := 1) (fun x13 => [(2, .int x13), (0, rv g 2 0)]) dX4_begin_79 rfl rfl (by decide) (fun _ => rfl) (fun x13 => ?_)
    refine s_goto (tgt := 63) dX4_begin_82 (by decide) ?_
    refine s_sub [1, 0] rfl ?_
    exact hrec x13 h12
set_option maxHeartbeats 4000000 in
set_option maxRecDepth 100000 in
theorem cX4_begin_ok (g : GE) (a1 : Nat) (h : Hp) : Con cvv 0 g mX4_begin 3 [rv g 2 0, rv g 6 a1] h (fX4_begin a1 h) := by
  refine Con.of (by decide +kernel) (Nat.le_of_ble_eq_true rfl) ?_
  show Sim cvv 0 g mX4_begin 3 0 [(0, rv g 2 0), (1, rv g 6 a1)] [] h _
  unfold fX4_begin
  refine s_aload_n 0 dX4_begin_0 rfl rfl ?_
  refine s_getr (s0 := 0) dX4_begin_1 fl_X4_12 ?_
  refine s_aload_n 1 dX4_begin_4 rfl rfl ?_
  refine s_callVv (s0 := 9) (As := [rv g 6 a1]) (rest := []) (cX8_copyFrom_ok g 9 a1 h) vl_X4_97 rfl (Nat.le_of_ble_eq_true rfl) (Nat.le_of_ble_eq_true rfl) dX4_begin_5 rfl (fun h1 => ?_)
  refine s_aload_n 0 dX4_begin_8 rfl rfl ?_
  refine s_aload_n 1 dX4_begin_9 rfl rfl ?_
  refine s_geti (s0 := a1) dX4_begin_10 fl_X4_100 ?_
  refine s_puti (s0 := 0) dX4_begin_13 fl_X4_22 (fun h2 => ?_)
  refine s_aload_n 0 dX4_begin_16 rfl rfl ?_
  refine s_iconst (v := 0) dX4_begin_17 rfl ?_
  refine s_puti (s0 := 0) dX4_begin_18 fl_X4_26 (fun h3 => ?_)
  refine s_aload_n 0 dX4_begin_21 rfl rfl ?_
  refine s_iconst (v := 0) dX4_begin_22 rfl ?_
  refine s_puti (s0 := 0) dX4_begin_23 fl_X4_29 (fun h4 => ?_)
  refine s_aload_n 0 dX4_begin_26 rfl rfl ?_
  refine s_iconst (v := 0) dX4_begin_27 rfl ?_
  refine s_puti (s0 := 0) dX4_begin_28 fl_X4_32 (fun h5 => ?_)
  refine s_aload_n 0 dX4_begin_31 rfl rfl ?_
  refine s_iconst (v := 0) dX4_begin_32 rfl ?_
  refine s_puti (s0 := 0) dX4_begin_33 fl_X4_35 (fun h6 => ?_)
  refine s_aload_n 0 dX4_begin_36 rfl rfl ?_
  refine s_iconst (v := (-1)) dX4_begin_37 rfl ?_
  refine s_puti (s0 := 0) dX4_begin_38 fl_X4_41 (fun h7 => ?_)
  refine s_aload_n 0 dX4_begin_41 rfl rfl ?_
  refine s_iconst (v := 0) dX4_begin_42 rfl ?_
  refine s_puti (s0 := 0) dX4_begin_43 fl_X4_44 (fun h8 => ?_)
  refine s_aload_n 0 dX4_begin_46 rfl rfl ?_
  refine s_iconst (v := 0) dX4_begin_47 rfl ?_
  refine s_puti (s0 := 0) dX4_begin_48 fl_X4_47 (fun h9 => ?_)
  refine s_aload_n 0 dX4_begin_51 rfl rfl ?_
  refine s_iconst (v := 0) dX4_begin_52 rfl ?_
  refine s_puti (s0 := 0) dX4_begin_53 fl_X4_50 (fun h10 => ?_)
  refine s_aload_n 0 dX4_begin_56 rfl rfl ?_
  refine s_iconst (v := 0) dX4_begin_57 rfl ?_
  refine s_puti (s0 := 0) dX4_begin_58 fl_X4_53 (fun h11 => ?_)
  refine s_iconst (v := 0) dX4_begin_61 rfl ?_
  refine s_istore_n (ls' := [(2, .int 0), (0, rv g 2 0), (1, rv g 6 a1)]) dX4_begin_62 rfl (by decide) rfl ?_
  refine s_sub (ls' := [(0, rv g 2 0), (2, .int 0)]) [1, 0] rfl ?_
  refine sX4_begin_l63 g _ (fun h14 => ?_) FU 0 h11
  exact s_vret rfl dX4_begin_85
def fX4_may (l1 : Int32) (l2 : Int32) (h : Hp) : Option (Int32 × Hp) :=
  if l1 = 0 then (if (99 : Int32) < ((rd h 2 0 3) + (1 : Int32)) then (ck (zk 0) (some (0, h)))
  else (ck (zk 1) (some (1, h))))
  else (bnd (fX8_has 9 l2 h) fun x2 h1 =>
  if x2 = 0 then (ck (zk 0) (some (0, h1)))
  else (ck (ib l2 5) (
  jn (κ := Int32 → Hp → Option (Int32 × Hp)) (fun z0_2 h4 => ck (ib l2 5) (
  bnd (fX8_way 9 (rd h4 2 0 2) (ra h4 33 9 l2) h4) fun x6 h5 =>
  lt (((rd h4 2 0 3) + x6) + (1 : Int32)) fun x7 =>
  if l1 = 1 then (jn (κ := Hp → Option (Int32 × Hp)) (fun h10 => ck (zk 0) (some (0, h10))) fun k127_8 =>
  if z0_2 = 0 then (k127_8 h5)
  else (if (99 : Int32) < x7 then (k127_8 h5)
  else (ck (zk 1) (some (1, h5)))))
  else if l1 = 2 then (jn (κ := Hp → Option (Int32 × Hp)) (fun h13 => ck (zk 0) (some (0, h13))) fun k144_11 =>
  if z0_2 = 0 then (if (99 : Int32) < x7 then (k144_11 h5)
  else (ck (zk 1) (some (1, h5))))
  else (k144_11 h5))
  else if l1 = 3 then (ck (zk z0_2) (some (z0_2, h5)))
  else if l1 = 4 then (ck (ib l2 5) (
  if (6 : Int32) ≤ (ra h5 34 9 l2) then (ck (zk 0) (some (0, h5)))
  else (ck (zk 1) (some (1, h5)))))
  else (ck (zk 0) (some (0, h5))))) fun k51_2 =>
  if (ra h1 35 9 l2) ≤ 0 then (k51_2 0 h1)
  else (k51_2 1 h1))))
set_option maxHeartbeats 4000000 in
set_option maxRecDepth 100000 in
theorem cX4_may_ok (g : GE) (l1 : Int32) (l2 : Int32) (h : Hp) : Con cvi 0 g mX4_may 3 [rv g 2 0, .int l1, .int l2] h (fX4_may l1 l2 h) := by
  refine Con.of (by decide +kernel) (Nat.le_of_ble_eq_true rfl) ?_
  show Sim cvi 0 g mX4_may 3 0 [(0, rv g 2 0), (1, .int l1), (2, .int l2)] [] h _
  unfold fX4_may
  refine s_iload_n 1 dX4_may_0 rfl rfl ?_
  refine s_if_ne (tgt := 21) dX4_may_1 (by decide) ?_ ?_
  ·
    refine s_aload_n 0 dX4_may_4 rfl rfl ?_
    refine s_geti (s0 := 0) dX4_may_5 fl_X4_26 ?_
    refine s_iconst (v := 1) dX4_may_8 rfl ?_
    refine s_iadd dX4_may_9 ?_
    refine s_bipush (v := 99) dX4_may_10 rfl ?_
    refine s_icmp_gt (tgt := 19) dX4_may_12 (by decide) ?_ ?_
    ·
      refine s_iconst (v := 0) dX4_may_19 rfl ?_
      exact s_zret rfl dX4_may_20
    ·
      refine s_iconst (v := 1) dX4_may_15 rfl ?_
      refine s_goto (tgt := 20) dX4_may_16 (by decide) ?_
      exact s_zret rfl dX4_may_20
  ·
    refine s_aload_n 0 dX4_may_21 rfl rfl ?_
    refine s_getr (s0 := 0) dX4_may_22 fl_X4_12 ?_
    refine s_iload_n 2 dX4_may_25 rfl rfl ?_
    refine s_callVi (s0 := 9) (As := [.int l2]) (rest := []) (cX8_has_ok g 9 l2 h) vl_X4_103 rfl (Nat.le_of_ble_eq_true rfl) (Nat.le_of_ble_eq_true rfl) dX4_may_26 rfl (fun x2 h1 => ?_)
    refine s_if_ne (tgt := 34) dX4_may_29 (by decide) ?_ ?_
    ·
      refine s_iconst (v := 0) dX4_may_32 rfl ?_
      exact s_zret rfl dX4_may_33
    ·
      refine s_aload_n 0 dX4_may_34 rfl rfl ?_
      refine s_getr (s0 := 0) dX4_may_35 fl_X4_12 ?_
      refine s_getr1 (k2 := 35) (s0 := 9) rfl dX4_may_38 fl_X4_104 ?_
      refine s_iload_n 2 dX4_may_41 rfl rfl ?_
      refine s_iald (s0 := 9) ka_35 dX4_may_42 ?_
      refine s_jn (fun (k51_2 : Int32 → Hp → Option (Int32 × Hp)) => ∀ (z0_2 : Int32) (h4 : Hp), Sim cvi 0 g mX4_may 3 51 [(0, rv g 2 0), (1, .int l1), (2, .int l2)] [.int z0_2] h4 (k51_2 z0_2 h4)) (fun z0_2 h4 => ?_) (fun k51_2 Hk51_2 => ?_)
      ·
        refine s_istore_n (ls' := [(3, .int z0_2), (0, rv g 2 0), (1, .int l1), (2, .int l2)]) dX4_may_51 rfl (by decide) rfl ?_
        refine s_aload_n 1 dX4_may_52 rfl rfl ?_
        refine s_geti (s0 := 0) dX4_may_53 fl_X4_26 ?_
        refine s_aload_n 1 dX4_may_56 rfl rfl ?_
        refine s_getr (s0 := 0) dX4_may_57 fl_X4_12 ?_
        refine s_aload_n 1 dX4_may_60 rfl rfl ?_
        refine s_geti (s0 := 0) dX4_may_61 fl_X4_22 ?_
        refine s_aload_n 1 dX4_may_64 rfl rfl ?_
        refine s_getr (s0 := 0) dX4_may_65 fl_X4_12 ?_
        refine s_getr1 (k2 := 33) (s0 := 9) rfl dX4_may_68 fl_X4_107 ?_
        refine s_iload_n 3 dX4_may_71 rfl rfl ?_
        refine s_iald (s0 := 9) ka_33 dX4_may_72 ?_
        refine s_callVi (s0 := 9) (As := [.int (rd h4 2 0 2), .int (ra h4 33 9 l2)]) (rest := [.int (rd h4 2 0 3)]) (cX8_way_ok g 9 (rd h4 2 0 2) (ra h4 33 9 l2) h4) vl_X4_110 rfl (Nat.le_of_ble_eq_true rfl) (Nat.le_of_ble_eq_true rfl) dX4_may_73 rfl (fun x6 h5 => ?_)
        refine s_iadd dX4_may_76 ?_
        refine s_iconst (v := 1) dX4_may_77 rfl ?_
        refine s_iadd dX4_may_78 ?_
        refine s_leti (fun x7 => ?_)
        refine s_istore (ls' := [(4, .int x7), (3, .int z0_2), (0, rv g 2 0), (1, .int l1), (2, .int l2)]) dX4_may_79 (by decide) rfl ?_
        refine s_iload_n 3 dX4_may_81 rfl rfl ?_
        refine s_tab 1 (tgt := 112) dX4_may_82 (by decide) (by decide) rfl (by decide) ?_ (fun e8 => ?_)
        ·
          refine s_iload_n 1 dX4_may_112 rfl rfl ?_
          refine s_jn (fun (k127_8 : Hp → Option (Int32 × Hp)) => ∀ (h10 : Hp), Sim cvi 0 g mX4_may 3 127 [] [] h10 (k127_8 h10)) (fun h10 => ?_) (fun k127_8 Hk127_8 => ?_)
          ·
            refine s_iconst (v := 0) dX4_may_127 rfl ?_
            exact s_zret rfl dX4_may_128
          refine s_if_eq (tgt := 127) dX4_may_113 (by decide) ?_ ?_
          ·
            refine s_sub [] rfl ?_
            exact Hk127_8 h5
          ·
            refine s_iload 0 dX4_may_116 rfl ?_
            refine s_bipush (v := 99) dX4_may_118 rfl ?_
            refine s_icmp_gt (tgt := 127) dX4_may_120 (by decide) ?_ ?_
            ·
              refine s_sub [] rfl ?_
              exact Hk127_8 h5
            ·
              refine s_iconst (v := 1) dX4_may_123 rfl ?_
              refine s_goto (tgt := 128) dX4_may_124 (by decide) ?_
              exact s_zret rfl dX4_may_128
        refine s_tab 2 (tgt := 129) dX4_may_82 (by decide) (by decide) rfl (by decide) ?_ (fun e11 => ?_)
        ·
          refine s_iload_n 1 dX4_may_129 rfl rfl ?_
          refine s_jn (fun (k144_11 : Hp → Option (Int32 × Hp)) => ∀ (h13 : Hp), Sim cvi 0 g mX4_may 3 144 [] [] h13 (k144_11 h13)) (fun h13 => ?_) (fun k144_11 Hk144_11 => ?_)
          ·
            refine s_iconst (v := 0) dX4_may_144 rfl ?_
            exact s_zret rfl dX4_may_145
          refine s_if_ne (tgt := 144) dX4_may_130 (by decide) ?_ ?_
          ·
            refine s_iload 0 dX4_may_133 rfl ?_
            refine s_bipush (v := 99) dX4_may_135 rfl ?_
            refine s_icmp_gt (tgt := 144) dX4_may_137 (by decide) ?_ ?_
            ·
              refine s_sub [] rfl ?_
              exact Hk144_11 h5
            ·
              refine s_iconst (v := 1) dX4_may_140 rfl ?_
              refine s_goto (tgt := 145) dX4_may_141 (by decide) ?_
              exact s_zret rfl dX4_may_145
          ·
            refine s_sub [] rfl ?_
            exact Hk144_11 h5
        refine s_tab 3 (tgt := 146) dX4_may_82 (by decide) (by decide) rfl (by decide) ?_ (fun e14 => ?_)
        ·
          refine s_iload_n 1 dX4_may_146 rfl rfl ?_
          exact s_zret rfl dX4_may_147
        refine s_tab 4 (tgt := 148) dX4_may_82 (by decide) (by decide) rfl (by decide) ?_ (fun e15 => ?_)
        ·
          refine s_aload_n 2 dX4_may_148 rfl rfl ?_
          refine s_getr (s0 := 0) dX4_may_149 fl_X4_12 ?_
          refine s_getr1 (k2 := 34) (s0 := 9) rfl dX4_may_152 fl_X4_113 ?_
          refine s_iload_n 4 dX4_may_155 rfl rfl ?_
          refine s_iald (s0 := 9) ka_34 dX4_may_156 ?_
          refine s_bipush (v := 6) dX4_may_157 rfl ?_
          refine s_icmp_ge (tgt := 166) dX4_may_159 (by decide) ?_ ?_
          ·
            refine s_iconst (v := 0) dX4_may_166 rfl ?_
            exact s_zret rfl dX4_may_167
          ·
            refine s_iconst (v := 1) dX4_may_162 rfl ?_
            refine s_goto (tgt := 167) dX4_may_163 (by decide) ?_
            exact s_zret rfl dX4_may_167
        have e8 := lv_neT e8 (show (1 : Int32).toInt = 1 from rfl)
        have e11 := lv_neT e11 (show (2 : Int32).toInt = 2 from rfl)
        have e14 := lv_neT e14 (show (3 : Int32).toInt = 3 from rfl)
        have e15 := lv_neT e15 (show (4 : Int32).toInt = 4 from rfl)
        refine s_tabd (tgt := 168) dX4_may_82 (by omega) (by decide) ?_
        refine s_iconst (v := 0) dX4_may_168 rfl ?_
        exact s_zret rfl dX4_may_169
      refine s_if_le (tgt := 50) dX4_may_43 (by decide) ?_ ?_
      ·
        refine s_iconst (v := 0) dX4_may_50 rfl ?_
        exact Hk51_2 0 h1
      ·
        refine s_iconst (v := 1) dX4_may_46 rfl ?_
        refine s_goto (tgt := 51) dX4_may_47 (by decide) ?_
        exact Hk51_2 1 h1
def fX4_blowAt (l1 : Int32) (h : Hp) : Option (Unit × Hp) :=
  ck (ib l1 5) (
  ck (ib l1 5) (lt (wa h 35 9 l1 ((ra h 35 9 l1) - (1 : Int32))) fun h1 =>
  ck (ib l1 5) (
  if (ra h1 35 9 l1) = 0 then (lt (wr h1 2 0 4 ((rd h1 2 0 4) + (1 : Int32))) fun h2 =>
  some ((), h2))
  else (some ((), h1)))))
set_option maxHeartbeats 4000000 in
set_option maxRecDepth 100000 in
theorem cX4_blowAt_ok (g : GE) (l1 : Int32) (h : Hp) : Con cvv 0 g mX4_blowAt 2 [rv g 2 0, .int l1] h (fX4_blowAt l1 h) := by
  refine Con.of (by decide +kernel) (Nat.le_of_ble_eq_true rfl) ?_
  show Sim cvv 0 g mX4_blowAt 2 0 [(0, rv g 2 0), (1, .int l1)] [] h _
  unfold fX4_blowAt
  refine s_aload_n 0 dX4_blowAt_0 rfl rfl ?_
  refine s_getr (s0 := 0) dX4_blowAt_1 fl_X4_12 ?_
  refine s_getr1 (k2 := 35) (s0 := 9) rfl dX4_blowAt_4 fl_X4_104 ?_
  refine s_iload_n 1 dX4_blowAt_7 rfl rfl ?_
  refine s_dup2 dX4_blowAt_8 rfl rfl ?_
  refine s_iald (s0 := 9) ka_35 dX4_blowAt_9 ?_
  refine s_iconst (v := 1) dX4_blowAt_10 rfl ?_
  refine s_isub dX4_blowAt_11 ?_
  refine s_iast (s0 := 9) ka_35 dX4_blowAt_12 (fun h1 => ?_)
  refine s_aload_n 0 dX4_blowAt_13 rfl rfl ?_
  refine s_getr (s0 := 0) dX4_blowAt_14 fl_X4_12 ?_
  refine s_getr1 (k2 := 35) (s0 := 9) rfl dX4_blowAt_17 fl_X4_104 ?_
  refine s_iload_n 1 dX4_blowAt_20 rfl rfl ?_
  refine s_iald (s0 := 9) ka_35 dX4_blowAt_21 ?_
  refine s_if_ne (tgt := 35) dX4_blowAt_22 (by decide) ?_ ?_
  ·
    refine s_aload_n 0 dX4_blowAt_25 rfl rfl ?_
    refine s_dup dX4_blowAt_26 rfl ?_
    refine s_geti (s0 := 0) dX4_blowAt_27 fl_X4_29 ?_
    refine s_iconst (v := 1) dX4_blowAt_30 rfl ?_
    refine s_iadd dX4_blowAt_31 ?_
    refine s_puti (s0 := 0) dX4_blowAt_32 fl_X4_29 (fun h2 => ?_)
    exact s_vret rfl dX4_blowAt_35
  ·
    exact s_vret rfl dX4_blowAt_35
def fX4_passBeat_l4 (l1 : Int32) (K : Int32 → Hp → Option (Unit × Hp)) (rec : Int32 → Int32 → Hp → Option (Unit × Hp)) (l2 l3 : Int32) (h : Hp) : Option (Unit × Hp) :=
  if (rd h 6 9 2) ≤ l3 then (K l2 h)
  else (jn (κ := Int32 → Hp → Option (Unit × Hp)) (fun y2_0 h2 => lt (l3 + 1) fun x3 =>
  rec y2_0 x3 h2) fun k60_0 =>
  if l3 = l1 then (k60_0 l2 h)
  else (ck (ib l3 5) (
  if (ra h 35 9 l3) ≤ 0 then (k60_0 l2 h)
  else (ck (ib l3 5) (
  ck (ib l3 5) (lt (wa h 35 9 l3 ((ra h 35 9 l3) - (1 : Int32))) fun h4 =>
  ck (ib l3 5) (
  if (ra h4 35 9 l3) = 0 then (lt (l2 + 1) fun x5 =>
  k60_0 x5 h4)
  else (k60_0 l2 h4))))))))
def fX4_passBeat (l1 : Int32) (h : Hp) : Option (Unit × Hp) :=
  itr2 (fX4_passBeat_l4 l1 (fun y6 h7 => lt (wr h7 2 0 3 ((rd h7 2 0 3) + (1 : Int32))) fun h8 =>
  lt (wr h8 2 0 4 ((rd h8 2 0 4) + y6)) fun h9 =>
  lt (if (rd h9 2 0 12) < y6 then y6 else (rd h9 2 0 12)) fun x10 =>
  lt (wr h9 2 0 12 x10) fun h11 =>
  jn (κ := Int32 → Hp → Option (Unit × Hp)) (fun z0_11 h13 => lt (wr h13 2 0 6 z0_11) fun h14 =>
  lt (if (rd h14 2 0 10) < (rd h14 2 0 6) then (rd h14 2 0 6) else (rd h14 2 0 10)) fun x15 =>
  lt (wr h14 2 0 10 x15) fun h16 =>
  some ((), h16)) fun k113_11 =>
  if y6 = 0 then (k113_11 ((rd h11 2 0 6) + (1 : Int32)) h11)
  else (k113_11 0 h11))) FU 0 0 h
set_option maxHeartbeats 4000000 in
set_option maxRecDepth 100000 in
theorem sX4_passBeat_l4 (g : GE) (l1 : Int32) (K : Int32 → Hp → Option (Unit × Hp)) (hK : ∀ (y2 : Int32) (h : Hp), Sim cvv 0 g mX4_passBeat 2 66 [(0, rv g 2 0), (2, .int y2)] [] h (K y2 h)) : ∀ (n : Nat) (l2 l3 : Int32) (h : Hp), Sim cvv 0 g mX4_passBeat 2 4 [(0, rv g 2 0), (1, .int l1), (2, .int l2), (3, .int l3)] [] h (itr2 (fX4_passBeat_l4 l1 K) n l2 l3 h) := by
  refine s_itr2 (fun l2 l3 h o => Sim cvv 0 g mX4_passBeat 2 4 [(0, rv g 2 0), (1, .int l1), (2, .int l2), (3, .int l3)] [] h o) (fun _ _ _ => s_none) ?_
  intro rec hrec l2 l3 h
  unfold fX4_passBeat_l4
  refine s_iload_n 3 dX4_passBeat_4 rfl rfl ?_
  refine s_aload_n 0 dX4_passBeat_5 rfl rfl ?_
  refine s_getr (s0 := 0) dX4_passBeat_6 fl_X4_12 ?_
  refine s_geti (s0 := 9) dX4_passBeat_9 fl_X4_87 ?_
  refine s_icmp_ge (tgt := 66) dX4_passBeat_12 (by decide) ?_ ?_
  ·
    refine s_sub [0, 2] rfl ?_
    exact hK l2 h
  ·
    refine s_iload_n 3 dX4_passBeat_15 rfl rfl ?_
    refine s_iload_n 1 dX4_passBeat_16 rfl rfl ?_
    refine s_jn (fun (k60_0 : Int32 → Hp → Option (Unit × Hp)) => ∀ (y2_0 : Int32) (h2 : Hp), Sim cvv 0 g mX4_passBeat 2 60 [(0, rv g 2 0), (1, .int l1), (2, .int y2_0), (3, .int l3)] [] h2 (k60_0 y2_0 h2)) (fun y2_0 h2 => ?_) (fun k60_0 Hk60_0 => ?_)
    ·
      refine s_iincl 3 (w := 1) (fun x3 => [(3, .int x3), (0, rv g 2 0), (1, .int l1), (2, .int y2_0)]) dX4_passBeat_60 rfl rfl (by decide) (fun _ => rfl) (fun x3 => ?_)
      refine s_goto (tgt := 4) dX4_passBeat_63 (by decide) ?_
      refine s_sub [1, 2, 3, 0] rfl ?_
      exact hrec y2_0 x3 h2
    refine s_icmp_eq (tgt := 60) dX4_passBeat_17 (by decide) ?_ ?_
    ·
      exact Hk60_0 l2 h
    ·
      refine s_aload_n 0 dX4_passBeat_20 rfl rfl ?_
      refine s_getr (s0 := 0) dX4_passBeat_21 fl_X4_12 ?_
      refine s_getr1 (k2 := 35) (s0 := 9) rfl dX4_passBeat_24 fl_X4_104 ?_
      refine s_iload_n 3 dX4_passBeat_27 rfl rfl ?_
      refine s_iald (s0 := 9) ka_35 dX4_passBeat_28 ?_
      refine s_if_le (tgt := 60) dX4_passBeat_29 (by decide) ?_ ?_
      ·
        exact Hk60_0 l2 h
      ·
        refine s_aload_n 0 dX4_passBeat_32 rfl rfl ?_
        refine s_getr (s0 := 0) dX4_passBeat_33 fl_X4_12 ?_
        refine s_getr1 (k2 := 35) (s0 := 9) rfl dX4_passBeat_36 fl_X4_104 ?_
        refine s_iload_n 3 dX4_passBeat_39 rfl rfl ?_
        refine s_dup2 dX4_passBeat_40 rfl rfl ?_
        refine s_iald (s0 := 9) ka_35 dX4_passBeat_41 ?_
        refine s_iconst (v := 1) dX4_passBeat_42 rfl ?_
        refine s_isub dX4_passBeat_43 ?_
        refine s_iast (s0 := 9) ka_35 dX4_passBeat_44 (fun h4 => ?_)
        refine s_aload_n 0 dX4_passBeat_45 rfl rfl ?_
        refine s_getr (s0 := 0) dX4_passBeat_46 fl_X4_12 ?_
        refine s_getr1 (k2 := 35) (s0 := 9) rfl dX4_passBeat_49 fl_X4_104 ?_
        refine s_iload_n 3 dX4_passBeat_52 rfl rfl ?_
        refine s_iald (s0 := 9) ka_35 dX4_passBeat_53 ?_
        refine s_if_ne (tgt := 60) dX4_passBeat_54 (by decide) ?_ ?_
        ·
          refine s_iincl 2 (w := 1) (fun x5 => [(2, .int x5), (0, rv g 2 0), (1, .int l1), (3, .int l3)]) dX4_passBeat_57 rfl rfl (by decide) (fun _ => rfl) (fun x5 => ?_)
          refine s_sub [1, 2, 0, 3] rfl ?_
          exact Hk60_0 x5 h4
        ·
          exact Hk60_0 l2 h4
set_option maxHeartbeats 4000000 in
set_option maxRecDepth 100000 in
theorem cX4_passBeat_ok (g : GE) (l1 : Int32) (h : Hp) : Con cvv 0 g mX4_passBeat 2 [rv g 2 0, .int l1] h (fX4_passBeat l1 h) := by
  refine Con.of (by decide +kernel) (Nat.le_of_ble_eq_true rfl) ?_
  show Sim cvv 0 g mX4_passBeat 2 0 [(0, rv g 2 0), (1, .int l1)] [] h _
  unfold fX4_passBeat
  refine s_iconst (v := 0) dX4_passBeat_0 rfl ?_
  refine s_istore_n (ls' := [(2, .int 0), (0, rv g 2 0), (1, .int l1)]) dX4_passBeat_1 rfl (by decide) rfl ?_
  refine s_iconst (v := 0) dX4_passBeat_2 rfl ?_
  refine s_istore_n (ls' := [(3, .int 0), (2, .int 0), (0, rv g 2 0), (1, .int l1)]) dX4_passBeat_3 rfl (by decide) rfl ?_
  refine s_sub (ls' := [(0, rv g 2 0), (1, .int l1), (2, .int 0), (3, .int 0)]) [2, 3, 1, 0] rfl ?_
  refine sX4_passBeat_l4 g l1 _ (fun y6 h7 => ?_) FU 0 0 h
  refine s_aload_n 0 dX4_passBeat_66 rfl rfl ?_
  refine s_dup dX4_passBeat_67 rfl ?_
  refine s_geti (s0 := 0) dX4_passBeat_68 fl_X4_26 ?_
  refine s_iconst (v := 1) dX4_passBeat_71 rfl ?_
  refine s_iadd dX4_passBeat_72 ?_
  refine s_puti (s0 := 0) dX4_passBeat_73 fl_X4_26 (fun h8 => ?_)
  refine s_aload_n 0 dX4_passBeat_76 rfl rfl ?_
  refine s_dup dX4_passBeat_77 rfl ?_
  refine s_geti (s0 := 0) dX4_passBeat_78 fl_X4_29 ?_
  refine s_iload_n 1 dX4_passBeat_81 rfl rfl ?_
  refine s_iadd dX4_passBeat_82 ?_
  refine s_puti (s0 := 0) dX4_passBeat_83 fl_X4_29 (fun h9 => ?_)
  refine s_aload_n 0 dX4_passBeat_86 rfl rfl ?_
  refine s_aload_n 0 dX4_passBeat_87 rfl rfl ?_
  refine s_geti (s0 := 0) dX4_passBeat_88 fl_X4_53 ?_
  refine s_iload_n 1 dX4_passBeat_91 rfl rfl ?_
  refine s_mmax w_3_221 mw_max (Nat.le_of_ble_eq_true rfl) (Nat.le_of_ble_eq_true rfl) dX4_passBeat_92 ?_
  refine s_leti (fun x10 => ?_)
  refine s_puti (s0 := 0) dX4_passBeat_95 fl_X4_53 (fun h11 => ?_)
  refine s_aload_n 0 dX4_passBeat_98 rfl rfl ?_
  refine s_iload_n 1 dX4_passBeat_99 rfl rfl ?_
  refine s_jn (fun (k113_11 : Int32 → Hp → Option (Unit × Hp)) => ∀ (z0_11 : Int32) (h13 : Hp), Sim cvv 0 g mX4_passBeat 2 113 [(0, rv g 2 0)] [.int z0_11, rv g 2 0] h13 (k113_11 z0_11 h13)) (fun z0_11 h13 => ?_) (fun k113_11 Hk113_11 => ?_)
  ·
    refine s_puti (s0 := 0) dX4_passBeat_113 fl_X4_35 (fun h14 => ?_)
    refine s_aload_n 0 dX4_passBeat_116 rfl rfl ?_
    refine s_aload_n 0 dX4_passBeat_117 rfl rfl ?_
    refine s_geti (s0 := 0) dX4_passBeat_118 fl_X4_47 ?_
    refine s_aload_n 0 dX4_passBeat_121 rfl rfl ?_
    refine s_geti (s0 := 0) dX4_passBeat_122 fl_X4_35 ?_
    refine s_mmax w_3_221 mw_max (Nat.le_of_ble_eq_true rfl) (Nat.le_of_ble_eq_true rfl) dX4_passBeat_125 ?_
    refine s_leti (fun x15 => ?_)
    refine s_puti (s0 := 0) dX4_passBeat_128 fl_X4_47 (fun h16 => ?_)
    exact s_vret rfl dX4_passBeat_131
  refine s_if_ne (tgt := 112) dX4_passBeat_100 (by decide) ?_ ?_
  ·
    refine s_aload_n 0 dX4_passBeat_103 rfl rfl ?_
    refine s_geti (s0 := 0) dX4_passBeat_104 fl_X4_35 ?_
    refine s_iconst (v := 1) dX4_passBeat_107 rfl ?_
    refine s_iadd dX4_passBeat_108 ?_
    refine s_goto (tgt := 113) dX4_passBeat_109 (by decide) ?_
    refine s_sub [0] rfl ?_
    exact Hk113_11 ((rd h11 2 0 6) + (1 : Int32)) h11
  ·
    refine s_iconst (v := 0) dX4_passBeat_112 rfl ?_
    refine s_sub [0] rfl ?_
    exact Hk113_11 0 h11
def fX4_passWay_l23 (l2 : Int32) (K : Hp → Option (Unit × Hp)) (rec : Int32 → Hp → Option (Unit × Hp)) (l3 : Int32) (h : Hp) : Option (Unit × Hp) :=
  if l2 ≤ l3 then (K h)
  else (bnd (fX4_passBeat (-1) h) fun _ h3 =>
  lt (l3 + 1) fun x4 =>
  rec x4 h3)
def fX4_passWay (l1 : Int32) (h : Hp) : Option (Unit × Hp) :=
  ck (ib l1 5) (
  bnd (fX8_way 9 (rd h 2 0 2) (ra h 33 9 l1) h) fun x2 h1 =>
  itr1 (fX4_passWay_l23 x2 (fun h5 => lt (wr h5 2 0 11 ((rd h5 2 0 11) + x2)) fun h6 =>
  ck (ib l1 5) (
  lt (wr h6 2 0 2 (ra h6 33 9 l1)) fun h7 =>
  some ((), h7)))) FU 0 h1)
set_option maxHeartbeats 4000000 in
set_option maxRecDepth 100000 in
theorem sX4_passWay_l23 (g : GE) (l1 : Int32) (l2 : Int32) (K : Hp → Option (Unit × Hp)) (hK : ∀ (h : Hp), Sim cvv 0 g mX4_passWay 3 39 [(0, rv g 2 0), (1, .int l1), (2, .int l2)] [] h (K  h)) : ∀ (n : Nat) (l3 : Int32) (h : Hp), Sim cvv 0 g mX4_passWay 3 23 [(0, rv g 2 0), (1, .int l1), (2, .int l2), (3, .int l3)] [] h (itr1 (fX4_passWay_l23 l2 K) n l3 h) := by
  refine s_itr1 (fun l3 h o => Sim cvv 0 g mX4_passWay 3 23 [(0, rv g 2 0), (1, .int l1), (2, .int l2), (3, .int l3)] [] h o) (fun _ _ => s_none) ?_
  intro rec hrec l3 h
  unfold fX4_passWay_l23
  refine s_iload_n 3 dX4_passWay_23 rfl rfl ?_
  refine s_iload_n 2 dX4_passWay_24 rfl rfl ?_
  refine s_icmp_ge (tgt := 39) dX4_passWay_25 (by decide) ?_ ?_
  ·
    refine s_sub [0, 1, 2] rfl ?_
    exact hK h
  ·
    refine s_aload_n 0 dX4_passWay_28 rfl rfl ?_
    refine s_iconst (v := (-1)) dX4_passWay_29 rfl ?_
    refine s_callVv (s0 := 0) (As := [.int (-1)]) (rest := []) (cX4_passBeat_ok g (-1) h) vl_X4_116 rfl (Nat.le_of_ble_eq_true rfl) (Nat.le_of_ble_eq_true rfl) dX4_passWay_30 rfl (fun h3 => ?_)
    refine s_iincl 3 (w := 1) (fun x4 => [(3, .int x4), (0, rv g 2 0), (1, .int l1), (2, .int l2)]) dX4_passWay_33 rfl rfl (by decide) (fun _ => rfl) (fun x4 => ?_)
    refine s_goto (tgt := 23) dX4_passWay_36 (by decide) ?_
    refine s_sub [1, 2, 3, 0] rfl ?_
    exact hrec x4 h3
set_option maxHeartbeats 4000000 in
set_option maxRecDepth 100000 in
theorem cX4_passWay_ok (g : GE) (l1 : Int32) (h : Hp) : Con cvv 0 g mX4_passWay 3 [rv g 2 0, .int l1] h (fX4_passWay l1 h) := by
  refine Con.of (by decide +kernel) (Nat.le_of_ble_eq_true rfl) ?_
  show Sim cvv 0 g mX4_passWay 3 0 [(0, rv g 2 0), (1, .int l1)] [] h _
  unfold fX4_passWay
  refine s_aload_n 0 dX4_passWay_0 rfl rfl ?_
  refine s_getr (s0 := 0) dX4_passWay_1 fl_X4_12 ?_
  refine s_aload_n 0 dX4_passWay_4 rfl rfl ?_
  refine s_geti (s0 := 0) dX4_passWay_5 fl_X4_22 ?_
  refine s_aload_n 0 dX4_passWay_8 rfl rfl ?_
  refine s_getr (s0 := 0) dX4_passWay_9 fl_X4_12 ?_
  refine s_getr1 (k2 := 33) (s0 := 9) rfl dX4_passWay_12 fl_X4_107 ?_
  refine s_iload_n 1 dX4_passWay_15 rfl rfl ?_
  refine s_iald (s0 := 9) ka_33 dX4_passWay_16 ?_
  refine s_callVi (s0 := 9) (As := [.int (rd h 2 0 2), .int (ra h 33 9 l1)]) (rest := []) (cX8_way_ok g 9 (rd h 2 0 2) (ra h 33 9 l1) h) vl_X4_110 rfl (Nat.le_of_ble_eq_true rfl) (Nat.le_of_ble_eq_true rfl) dX4_passWay_17 rfl (fun x2 h1 => ?_)
  refine s_istore_n (ls' := [(2, .int x2), (0, rv g 2 0), (1, .int l1)]) dX4_passWay_20 rfl (by decide) rfl ?_
  refine s_iconst (v := 0) dX4_passWay_21 rfl ?_
  refine s_istore_n (ls' := [(3, .int 0), (2, .int x2), (0, rv g 2 0), (1, .int l1)]) dX4_passWay_22 rfl (by decide) rfl ?_
  refine s_sub (ls' := [(0, rv g 2 0), (1, .int l1), (2, .int x2), (3, .int 0)]) [2, 3, 1, 0] rfl ?_
  refine sX4_passWay_l23 g l1 x2 _ (fun h5 => ?_) FU 0 h1
  refine s_aload_n 0 dX4_passWay_39 rfl rfl ?_
  refine s_dup dX4_passWay_40 rfl ?_
  refine s_geti (s0 := 0) dX4_passWay_41 fl_X4_50 ?_
  refine s_iload_n 2 dX4_passWay_44 rfl rfl ?_
  refine s_iadd dX4_passWay_45 ?_
  refine s_puti (s0 := 0) dX4_passWay_46 fl_X4_50 (fun h6 => ?_)
  refine s_aload_n 0 dX4_passWay_49 rfl rfl ?_
  refine s_aload_n 0 dX4_passWay_50 rfl rfl ?_
  refine s_getr (s0 := 0) dX4_passWay_51 fl_X4_12 ?_
  refine s_getr1 (k2 := 33) (s0 := 9) rfl dX4_passWay_54 fl_X4_107 ?_
  refine s_iload_n 1 dX4_passWay_57 rfl rfl ?_
  refine s_iald (s0 := 9) ka_33 dX4_passWay_58 ?_
  refine s_puti (s0 := 0) dX4_passWay_59 fl_X4_22 (fun h7 => ?_)
  exact s_vret rfl dX4_passWay_62
def fX4_runTo (l1 : Int32) (h : Hp) : Option (Unit × Hp) :=
  bnd (fX4_passWay l1 h) fun _ h1 =>
  ck (ib l1 5) (
  if (ra h1 35 9 l1) ≤ 0 then (bnd (fX4_passBeat (-1) h1) fun _ h2 =>
  lt (wr h2 2 0 9 ((rd h2 2 0 9) + (1 : Int32))) fun h3 =>
  some ((), h3))
  else (bnd (fX4_passBeat l1 h1) fun _ h4 =>
  ck (ib l1 5) (
  ck (ib l1 5) (lt (wa h4 35 9 l1 (ra h4 34 9 l1)) fun h5 =>
  lt (wr h5 2 0 5 ((rd h5 2 0 5) + (1 : Int32))) fun h6 =>
  ck (ib l1 5) (
  ck (ib l1 5) (lt (wa h6 24 0 l1 ((ra h6 24 0 l1) + (1 : Int32))) fun h7 =>
  some ((), h7)))))))
set_option maxHeartbeats 4000000 in
set_option maxRecDepth 100000 in
theorem cX4_runTo_ok (g : GE) (l1 : Int32) (h : Hp) : Con cvv 0 g mX4_runTo 4 [rv g 2 0, .int l1] h (fX4_runTo l1 h) := by
  refine Con.of (by decide +kernel) (Nat.le_of_ble_eq_true rfl) ?_
  show Sim cvv 0 g mX4_runTo 4 0 [(0, rv g 2 0), (1, .int l1)] [] h _
  unfold fX4_runTo
  refine s_aload_n 0 dX4_runTo_0 rfl rfl ?_
  refine s_iload_n 1 dX4_runTo_1 rfl rfl ?_
  refine s_callVv (s0 := 0) (As := [.int l1]) (rest := []) (cX4_passWay_ok g l1 h) vl_X4_129 rfl (Nat.le_of_ble_eq_true rfl) (Nat.le_of_ble_eq_true rfl) dX4_runTo_2 rfl (fun h1 => ?_)
  refine s_aload_n 0 dX4_runTo_5 rfl rfl ?_
  refine s_getr (s0 := 0) dX4_runTo_6 fl_X4_12 ?_
  refine s_getr1 (k2 := 35) (s0 := 9) rfl dX4_runTo_9 fl_X4_104 ?_
  refine s_iload_n 1 dX4_runTo_12 rfl rfl ?_
  refine s_iald (s0 := 9) ka_35 dX4_runTo_13 ?_
  refine s_if_le (tgt := 63) dX4_runTo_14 (by decide) ?_ ?_
  ·
    refine s_aload_n 0 dX4_runTo_63 rfl rfl ?_
    refine s_iconst (v := (-1)) dX4_runTo_64 rfl ?_
    refine s_callVv (s0 := 0) (As := [.int (-1)]) (rest := []) (cX4_passBeat_ok g (-1) h1) vl_X4_116 rfl (Nat.le_of_ble_eq_true rfl) (Nat.le_of_ble_eq_true rfl) dX4_runTo_65 rfl (fun h2 => ?_)
    refine s_aload_n 0 dX4_runTo_68 rfl rfl ?_
    refine s_dup dX4_runTo_69 rfl ?_
    refine s_geti (s0 := 0) dX4_runTo_70 fl_X4_44 ?_
    refine s_iconst (v := 1) dX4_runTo_73 rfl ?_
    refine s_iadd dX4_runTo_74 ?_
    refine s_puti (s0 := 0) dX4_runTo_75 fl_X4_44 (fun h3 => ?_)
    exact s_vret rfl dX4_runTo_78
  ·
    refine s_aload_n 0 dX4_runTo_17 rfl rfl ?_
    refine s_iload_n 1 dX4_runTo_18 rfl rfl ?_
    refine s_callVv (s0 := 0) (As := [.int l1]) (rest := []) (cX4_passBeat_ok g l1 h1) vl_X4_116 rfl (Nat.le_of_ble_eq_true rfl) (Nat.le_of_ble_eq_true rfl) dX4_runTo_19 rfl (fun h4 => ?_)
    refine s_aload_n 0 dX4_runTo_22 rfl rfl ?_
    refine s_getr (s0 := 0) dX4_runTo_23 fl_X4_12 ?_
    refine s_getr1 (k2 := 35) (s0 := 9) rfl dX4_runTo_26 fl_X4_104 ?_
    refine s_iload_n 1 dX4_runTo_29 rfl rfl ?_
    refine s_aload_n 0 dX4_runTo_30 rfl rfl ?_
    refine s_getr (s0 := 0) dX4_runTo_31 fl_X4_12 ?_
    refine s_getr1 (k2 := 34) (s0 := 9) rfl dX4_runTo_34 fl_X4_113 ?_
    refine s_iload_n 1 dX4_runTo_37 rfl rfl ?_
    refine s_iald (s0 := 9) ka_34 dX4_runTo_38 ?_
    refine s_iast (s0 := 9) ka_35 dX4_runTo_39 (fun h5 => ?_)
    refine s_aload_n 0 dX4_runTo_40 rfl rfl ?_
    refine s_dup dX4_runTo_41 rfl ?_
    refine s_geti (s0 := 0) dX4_runTo_42 fl_X4_32 ?_
    refine s_iconst (v := 1) dX4_runTo_45 rfl ?_
    refine s_iadd dX4_runTo_46 ?_
    refine s_puti (s0 := 0) dX4_runTo_47 fl_X4_32 (fun h6 => ?_)
    refine s_aload_n 0 dX4_runTo_50 rfl rfl ?_
    refine s_getr (s0 := 0) dX4_runTo_51 fl_X4_18 ?_
    refine s_iload_n 1 dX4_runTo_54 rfl rfl ?_
    refine s_dup2 dX4_runTo_55 rfl rfl ?_
    refine s_iald (s0 := 0) ka_24 dX4_runTo_56 ?_
    refine s_iconst (v := 1) dX4_runTo_57 rfl ?_
    refine s_iadd dX4_runTo_58 ?_
    refine s_iast (s0 := 0) ka_24 dX4_runTo_59 (fun h7 => ?_)
    refine s_goto (tgt := 78) dX4_runTo_60 (by decide) ?_
    exact s_vret rfl dX4_runTo_78
def fX4_setUp (l1 : Int32) (h : Hp) : Option (Unit × Hp) :=
  bnd (fX4_passWay l1 h) fun _ h1 =>
  bnd (fX4_passBeat (-1) h1) fun _ h2 =>
  ck (ib l1 5) (
  ck (ib l1 5) (lt (wa h2 35 9 l1 (ra h2 34 9 l1)) fun h3 =>
  some ((), h3)))
set_option maxHeartbeats 4000000 in
set_option maxRecDepth 100000 in
theorem cX4_setUp_ok (g : GE) (l1 : Int32) (h : Hp) : Con cvv 0 g mX4_setUp 4 [rv g 2 0, .int l1] h (fX4_setUp l1 h) := by
  refine Con.of (by decide +kernel) (Nat.le_of_ble_eq_true rfl) ?_
  show Sim cvv 0 g mX4_setUp 4 0 [(0, rv g 2 0), (1, .int l1)] [] h _
  unfold fX4_setUp
  refine s_aload_n 0 dX4_setUp_0 rfl rfl ?_
  refine s_iload_n 1 dX4_setUp_1 rfl rfl ?_
  refine s_callVv (s0 := 0) (As := [.int l1]) (rest := []) (cX4_passWay_ok g l1 h) vl_X4_129 rfl (Nat.le_of_ble_eq_true rfl) (Nat.le_of_ble_eq_true rfl) dX4_setUp_2 rfl (fun h1 => ?_)
  refine s_aload_n 0 dX4_setUp_5 rfl rfl ?_
  refine s_iconst (v := (-1)) dX4_setUp_6 rfl ?_
  refine s_callVv (s0 := 0) (As := [.int (-1)]) (rest := []) (cX4_passBeat_ok g (-1) h1) vl_X4_116 rfl (Nat.le_of_ble_eq_true rfl) (Nat.le_of_ble_eq_true rfl) dX4_setUp_7 rfl (fun h2 => ?_)
  refine s_aload_n 0 dX4_setUp_10 rfl rfl ?_
  refine s_getr (s0 := 0) dX4_setUp_11 fl_X4_12 ?_
  refine s_getr1 (k2 := 35) (s0 := 9) rfl dX4_setUp_14 fl_X4_104 ?_
  refine s_iload_n 1 dX4_setUp_17 rfl rfl ?_
  refine s_aload_n 0 dX4_setUp_18 rfl rfl ?_
  refine s_getr (s0 := 0) dX4_setUp_19 fl_X4_12 ?_
  refine s_getr1 (k2 := 34) (s0 := 9) rfl dX4_setUp_22 fl_X4_113 ?_
  refine s_iload_n 1 dX4_setUp_25 rfl rfl ?_
  refine s_iald (s0 := 9) ka_34 dX4_setUp_26 ?_
  refine s_iast (s0 := 9) ka_35 dX4_setUp_27 (fun h3 => ?_)
  exact s_vret rfl dX4_setUp_28
