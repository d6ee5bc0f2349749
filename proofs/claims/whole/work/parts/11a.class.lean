def fJ6_bitCount_0f7a4 (l0 : Int32) (h : Hp) : Option (Int32 × Hp) :=
  lt (l0 - (((l0.toUInt32 >>> ((1 : Int32).toUInt32 &&& Int32.toUInt32 31)).toInt32) &&& (1431655765 : Int32))) fun x1 =>
  lt ((x1 &&& (858993459 : Int32)) + (((x1.toUInt32 >>> ((2 : Int32).toUInt32 &&& Int32.toUInt32 31)).toInt32) &&& (858993459 : Int32))) fun x2 =>
  lt ((x2 + ((x2.toUInt32 >>> ((4 : Int32).toUInt32 &&& Int32.toUInt32 31)).toInt32)) &&& (252645135 : Int32)) fun x3 =>
  lt (x3 + ((x3.toUInt32 >>> ((8 : Int32).toUInt32 &&& Int32.toUInt32 31)).toInt32)) fun x4 =>
  lt (x4 + ((x4.toUInt32 >>> ((16 : Int32).toUInt32 &&& Int32.toUInt32 31)).toInt32)) fun x5 =>
  some (x5 &&& (63 : Int32), h)
set_option maxHeartbeats 4000000 in
set_option maxRecDepth 100000 in
theorem cJ6_bitCount_0f7a4_ok (g : GE) (l0 : Int32) (h : Hp) : Con cvi 0 g mJ6_bitCount_0f7a4 2 [.int l0] h (fJ6_bitCount_0f7a4 l0 h) := by
  refine Con.of (by decide +kernel) (Nat.le_of_ble_eq_true rfl) ?_
  show Sim cvi 0 g mJ6_bitCount_0f7a4 2 0 [(0, .int l0)] [] h _
  unfold fJ6_bitCount_0f7a4
  refine s_iload_n 0 dJ6_bitCount_0f7a4_0 rfl rfl ?_
  refine s_iload_n 0 dJ6_bitCount_0f7a4_1 rfl rfl ?_
  refine s_iconst (v := 1) dJ6_bitCount_0f7a4_2 rfl ?_
  refine s_iushr dJ6_bitCount_0f7a4_3 ?_
  refine s_ldcw dJ6_bitCount_0f7a4_4 w_4_139 ?_
  refine s_iand dJ6_bitCount_0f7a4_7 ?_
  refine s_isub dJ6_bitCount_0f7a4_8 ?_
  refine s_leti (fun x1 => ?_)
  refine s_istore_n (ls' := [(0, .int x1)]) dJ6_bitCount_0f7a4_9 rfl (by decide) rfl ?_
  refine s_iload_n 0 dJ6_bitCount_0f7a4_10 rfl rfl ?_
  refine s_ldcw dJ6_bitCount_0f7a4_11 w_4_140 ?_
  refine s_iand dJ6_bitCount_0f7a4_14 ?_
  refine s_iload_n 0 dJ6_bitCount_0f7a4_15 rfl rfl ?_
  refine s_iconst (v := 2) dJ6_bitCount_0f7a4_16 rfl ?_
  refine s_iushr dJ6_bitCount_0f7a4_17 ?_
  refine s_ldcw dJ6_bitCount_0f7a4_18 w_4_140 ?_
  refine s_iand dJ6_bitCount_0f7a4_21 ?_
  refine s_iadd dJ6_bitCount_0f7a4_22 ?_
  refine s_leti (fun x2 => ?_)
  refine s_istore_n (ls' := [(0, .int x2)]) dJ6_bitCount_0f7a4_23 rfl (by decide) rfl ?_
  refine s_iload_n 0 dJ6_bitCount_0f7a4_24 rfl rfl ?_
  refine s_iload_n 0 dJ6_bitCount_0f7a4_25 rfl rfl ?_
  refine s_iconst (v := 4) dJ6_bitCount_0f7a4_26 rfl ?_
  refine s_iushr dJ6_bitCount_0f7a4_27 ?_
  refine s_iadd dJ6_bitCount_0f7a4_28 ?_
  refine s_ldcw dJ6_bitCount_0f7a4_29 w_4_141 ?_
  refine s_iand dJ6_bitCount_0f7a4_32 ?_
  refine s_leti (fun x3 => ?_)
  refine s_istore_n (ls' := [(0, .int x3)]) dJ6_bitCount_0f7a4_33 rfl (by decide) rfl ?_
  refine s_iload_n 0 dJ6_bitCount_0f7a4_34 rfl rfl ?_
  refine s_iload_n 0 dJ6_bitCount_0f7a4_35 rfl rfl ?_
  refine s_bipush (v := 8) dJ6_bitCount_0f7a4_36 rfl ?_
  refine s_iushr dJ6_bitCount_0f7a4_38 ?_
  refine s_iadd dJ6_bitCount_0f7a4_39 ?_
  refine s_leti (fun x4 => ?_)
  refine s_istore_n (ls' := [(0, .int x4)]) dJ6_bitCount_0f7a4_40 rfl (by decide) rfl ?_
  refine s_iload_n 0 dJ6_bitCount_0f7a4_41 rfl rfl ?_
  refine s_iload_n 0 dJ6_bitCount_0f7a4_42 rfl rfl ?_
  refine s_bipush (v := 16) dJ6_bitCount_0f7a4_43 rfl ?_
  refine s_iushr dJ6_bitCount_0f7a4_45 ?_
  refine s_iadd dJ6_bitCount_0f7a4_46 ?_
  refine s_leti (fun x5 => ?_)
  refine s_istore_n (ls' := [(0, .int x5)]) dJ6_bitCount_0f7a4_47 rfl (by decide) rfl ?_
  refine s_iload_n 0 dJ6_bitCount_0f7a4_48 rfl rfl ?_
  refine s_bipush (v := 63) dJ6_bitCount_0f7a4_49 rfl ?_
  refine s_iand dJ6_bitCount_0f7a4_51 ?_
  exact s_iret rfl dJ6_bitCount_0f7a4_52
def fX0_leftOf (l0 : Int32) (l1 : Int32) (h : Hp) : Option (Int32 × Hp) :=
  some ((l0 >>> (((3 : Int32) * l1) &&& 31)) &&& (7 : Int32), h)
set_option maxHeartbeats 4000000 in
set_option maxRecDepth 100000 in
theorem cX0_leftOf_ok (g : GE) (l0 : Int32) (l1 : Int32) (h : Hp) : Con cvi 0 g mX0_leftOf 2 [.int l0, .int l1] h (fX0_leftOf l0 l1 h) := by
  refine Con.of (by decide +kernel) (Nat.le_of_ble_eq_true rfl) ?_
  show Sim cvi 0 g mX0_leftOf 2 0 [(0, .int l0), (1, .int l1)] [] h _
  unfold fX0_leftOf
  refine s_iload_n 0 dX0_leftOf_0 rfl rfl ?_
  refine s_iconst (v := 3) dX0_leftOf_1 rfl ?_
  refine s_iload_n 1 dX0_leftOf_2 rfl rfl ?_
  refine s_imul dX0_leftOf_3 ?_
  refine s_ishr dX0_leftOf_4 ?_
  refine s_bipush (v := 7) dX0_leftOf_5 rfl ?_
  refine s_iand dX0_leftOf_7 ?_
  exact s_iret rfl dX0_leftOf_8
def fX0_passed_l4 (l0 : Int32) (l1 : Int32) (K : Int32 → Hp → Option (Int32 × Hp)) (rec : Int32 → Int32 → Hp → Option (Int32 × Hp)) (l2 l3 : Int32) (h : Hp) : Option (Int32 × Hp) :=
  if (5 : Int32) ≤ l3 then (K l2 h)
  else (bnd (fX0_leftOf l0 l3 h) fun x2 h1 =>
  lt (if 0 < (x2 - l1) then (x2 - l1) else 0) fun x3 =>
  lt (l2 ||| (x3 <<< (((3 : Int32) * l3) &&& 31))) fun x4 =>
  lt (l3 + 1) fun x5 =>
  rec x4 x5 h1)
def fX0_passed (l0 : Int32) (l1 : Int32) (h : Hp) : Option (Int32 × Hp) :=
  itr2 (fX0_passed_l4 l0 l1 (fun y6 h7 => some (y6, h7))) FU 0 0 h
set_option maxHeartbeats 4000000 in
set_option maxRecDepth 100000 in
theorem sX0_passed_l4 (g : GE) (l0 : Int32) (l1 : Int32) (K : Int32 → Hp → Option (Int32 × Hp)) (hK : ∀ (y2 : Int32) (h : Hp), Sim cvi 0 g mX0_passed 3 33 [(2, .int y2)] [] h (K y2 h)) : ∀ (n : Nat) (l2 l3 : Int32) (h : Hp), Sim cvi 0 g mX0_passed 3 4 [(0, .int l0), (1, .int l1), (2, .int l2), (3, .int l3)] [] h (itr2 (fX0_passed_l4 l0 l1 K) n l2 l3 h) := by
  refine s_itr2 (fun l2 l3 h o => Sim cvi 0 g mX0_passed 3 4 [(0, .int l0), (1, .int l1), (2, .int l2), (3, .int l3)] [] h o) (fun _ _ _ => s_none) ?_
  intro rec hrec l2 l3 h
  unfold fX0_passed_l4
  refine s_iload_n 3 dX0_passed_4 rfl rfl ?_
  refine s_iconst (v := 5) dX0_passed_5 rfl ?_
  refine s_icmp_ge (tgt := 33) dX0_passed_6 (by decide) ?_ ?_
  ·
    refine s_sub [2] rfl ?_
    exact hK l2 h
  ·
    refine s_iload_n 2 dX0_passed_9 rfl rfl ?_
    refine s_iconst (v := 0) dX0_passed_10 rfl ?_
    refine s_iload_n 0 dX0_passed_11 rfl rfl ?_
    refine s_iload_n 3 dX0_passed_12 rfl rfl ?_
    refine s_callSi (As := [.int l0, .int l3]) (rest := [.int 0, .int l2]) (cX0_leftOf_ok g l0 l3 h) sl_X0_9 rfl (Nat.le_of_ble_eq_true rfl) (Nat.le_of_ble_eq_true rfl) dX0_passed_13 rfl (fun x2 h1 => ?_)
    refine s_iload_n 1 dX0_passed_16 rfl rfl ?_
    refine s_isub dX0_passed_17 ?_
    refine s_mmax w_4_69 mw_max (Nat.le_of_ble_eq_true rfl) (Nat.le_of_ble_eq_true rfl) dX0_passed_18 ?_
    refine s_leti (fun x3 => ?_)
    refine s_iconst (v := 3) dX0_passed_21 rfl ?_
    refine s_iload_n 3 dX0_passed_22 rfl rfl ?_
    refine s_imul dX0_passed_23 ?_
    refine s_ishl dX0_passed_24 ?_
    refine s_ior dX0_passed_25 ?_
    refine s_leti (fun x4 => ?_)
    refine s_istore_n (ls' := [(2, .int x4), (0, .int l0), (1, .int l1), (3, .int l3)]) dX0_passed_26 rfl (by decide) rfl ?_
    refine s_iincl 3 (w := 1) (fun x5 => [(3, .int x5), (2, .int x4), (0, .int l0), (1, .int l1)]) dX0_passed_27 rfl rfl (by decide) (fun _ => rfl) (fun x5 => ?_)
    refine s_goto (tgt := 4) dX0_passed_30 (by decide) ?_
    refine s_sub [2, 3, 1, 0] rfl ?_
    exact hrec x4 x5 h1
set_option maxHeartbeats 4000000 in
set_option maxRecDepth 100000 in
theorem cX0_passed_ok (g : GE) (l0 : Int32) (l1 : Int32) (h : Hp) : Con cvi 0 g mX0_passed 3 [.int l0, .int l1] h (fX0_passed l0 l1 h) := by
  refine Con.of (by decide +kernel) (Nat.le_of_ble_eq_true rfl) ?_
  show Sim cvi 0 g mX0_passed 3 0 [(0, .int l0), (1, .int l1)] [] h _
  unfold fX0_passed
  refine s_iconst (v := 0) dX0_passed_0 rfl ?_
  refine s_istore_n (ls' := [(2, .int 0), (0, .int l0), (1, .int l1)]) dX0_passed_1 rfl (by decide) rfl ?_
  refine s_iconst (v := 0) dX0_passed_2 rfl ?_
  refine s_istore_n (ls' := [(3, .int 0), (2, .int 0), (0, .int l0), (1, .int l1)]) dX0_passed_3 rfl (by decide) rfl ?_
  refine s_sub (ls' := [(0, .int l0), (1, .int l1), (2, .int 0), (3, .int 0)]) [2, 3, 1, 0] rfl ?_
  refine sX0_passed_l4 g l0 l1 _ (fun y6 h7 => ?_) FU 0 0 h
  refine s_iload_n 0 dX0_passed_33 rfl rfl ?_
  exact s_iret rfl dX0_passed_34
def fX0_with (l0 : Int32) (l1 : Int32) (l2 : Int32) (h : Hp) : Option (Int32 × Hp) :=
  some ((l0 &&& (((7 : Int32) <<< (((3 : Int32) * l1) &&& 31)) ^^^ (-1 : Int32))) ||| (l2 <<< (((3 : Int32) * l1) &&& 31)), h)
set_option maxHeartbeats 4000000 in
set_option maxRecDepth 100000 in
theorem cX0_with_ok (g : GE) (l0 : Int32) (l1 : Int32) (l2 : Int32) (h : Hp) : Con cvi 0 g mX0_with 2 [.int l0, .int l1, .int l2] h (fX0_with l0 l1 l2 h) := by
  refine Con.of (by decide +kernel) (Nat.le_of_ble_eq_true rfl) ?_
  show Sim cvi 0 g mX0_with 2 0 [(0, .int l0), (1, .int l1), (2, .int l2)] [] h _
  unfold fX0_with
  refine s_iload_n 0 dX0_with_0 rfl rfl ?_
  refine s_bipush (v := 7) dX0_with_1 rfl ?_
  refine s_iconst (v := 3) dX0_with_3 rfl ?_
  refine s_iload_n 1 dX0_with_4 rfl rfl ?_
  refine s_imul dX0_with_5 ?_
  refine s_ishl dX0_with_6 ?_
  refine s_iconst (v := (-1)) dX0_with_7 rfl ?_
  refine s_ixor dX0_with_8 ?_
  refine s_iand dX0_with_9 ?_
  refine s_iload_n 2 dX0_with_10 rfl rfl ?_
  refine s_iconst (v := 3) dX0_with_11 rfl ?_
  refine s_iload_n 1 dX0_with_12 rfl rfl ?_
  refine s_imul dX0_with_13 ?_
  refine s_ishl dX0_with_14 ?_
  refine s_ior dX0_with_15 ?_
  exact s_iret rfl dX0_with_16
def fX8_way (a0 : Nat) (l1 : Int32) (l2 : Int32) (h : Hp) : Option (Int32 × Hp) :=
  lt (if 1 < (rd h 6 a0 0) then (rd h 6 a0 0) else 1) fun x1 =>
  lt (if 0 ≤ (l1 - l2) then (l1 - l2) else 0 - (l1 - l2)) fun x2 =>
  ck (!decide (x1 = 0)) (
  some (((x2 + x1) - (1 : Int32)) / x1, h))
set_option maxHeartbeats 4000000 in
set_option maxRecDepth 100000 in
theorem cX8_way_ok (g : GE) (a0 : Nat) (l1 : Int32) (l2 : Int32) (h : Hp) : Con cvi 0 g mX8_way 2 [rv g 6 a0, .int l1, .int l2] h (fX8_way a0 l1 l2 h) := by
  refine Con.of (by decide +kernel) (Nat.le_of_ble_eq_true rfl) ?_
  show Sim cvi 0 g mX8_way 2 0 [(0, rv g 6 a0), (1, .int l1), (2, .int l2)] [] h _
  unfold fX8_way
  refine s_iconst (v := 1) dX8_way_0 rfl ?_
  refine s_aload_n 0 dX8_way_1 rfl rfl ?_
  refine s_geti (s0 := a0) dX8_way_2 fl_X8_9 ?_
  refine s_mmax w_3_207 mw_max (Nat.le_of_ble_eq_true rfl) (Nat.le_of_ble_eq_true rfl) dX8_way_5 ?_
  refine s_leti (fun x1 => ?_)
  refine s_istore_n (ls' := [(3, .int x1), (0, rv g 6 a0), (1, .int l1), (2, .int l2)]) dX8_way_8 rfl (by decide) rfl ?_
  refine s_iload_n 2 dX8_way_9 rfl rfl ?_
  refine s_iload_n 3 dX8_way_10 rfl rfl ?_
  refine s_isub dX8_way_11 ?_
  refine s_mabs w_3_210 mw_abs (Nat.le_of_ble_eq_true rfl) (Nat.le_of_ble_eq_true rfl) dX8_way_12 ?_
  refine s_leti (fun x2 => ?_)
  refine s_iload_n 0 dX8_way_15 rfl rfl ?_
  refine s_iadd dX8_way_16 ?_
  refine s_iconst (v := 1) dX8_way_17 rfl ?_
  refine s_isub dX8_way_18 ?_
  refine s_iload_n 0 dX8_way_19 rfl rfl ?_
  refine s_idiv dX8_way_20 ?_
  exact s_iret rfl dX8_way_21
def fX0_behindRun (a0 : Nat) (l1 : Int32) (l2 : Int32) (l3 : Int32) (h : Hp) : Option (Int32 × Hp) :=
  ck (ib l3 5) (
  bnd (fX8_way a0 l1 (ra h 33 a0 l3) h) fun x2 h1 =>
  bnd (fX0_passed l2 (x2 + (1 : Int32)) h1) fun x4 h3 =>
  bnd (fX0_leftOf l2 l3 h3) fun x6 h5 =>
  if x6 ≤ x2 then (some (x4, h5))
  else (ck (ib l3 5) (
  bnd (fX0_with x4 l3 (ra h5 34 a0 l3) h5) fun x8 h7 =>
  some (x8, h7))))
set_option maxHeartbeats 4000000 in
set_option maxRecDepth 100000 in
theorem cX0_behindRun_ok (g : GE) (a0 : Nat) (l1 : Int32) (l2 : Int32) (l3 : Int32) (h : Hp) : Con cvi 0 g mX0_behindRun 4 [rv g 6 a0, .int l1, .int l2, .int l3] h (fX0_behindRun a0 l1 l2 l3 h) := by
  refine Con.of (by decide +kernel) (Nat.le_of_ble_eq_true rfl) ?_
  show Sim cvi 0 g mX0_behindRun 4 0 [(0, rv g 6 a0), (1, .int l1), (2, .int l2), (3, .int l3)] [] h _
  unfold fX0_behindRun
  refine s_aload_n 0 dX0_behindRun_0 rfl rfl ?_
  refine s_iload_n 1 dX0_behindRun_1 rfl rfl ?_
  refine s_aload_n 0 dX0_behindRun_2 rfl rfl ?_
  refine s_getr1 (k2 := 33) (s0 := a0) rfl dX0_behindRun_3 fl_X0_29 ?_
  refine s_iload_n 3 dX0_behindRun_6 rfl rfl ?_
  refine s_iald (s0 := a0) ka_33 dX0_behindRun_7 ?_
  refine s_callVi (s0 := a0) (As := [.int l1, .int (ra h 33 a0 l3)]) (rest := []) (cX8_way_ok g a0 l1 (ra h 33 a0 l3) h) vl_X0_33 rfl (Nat.le_of_ble_eq_true rfl) (Nat.le_of_ble_eq_true rfl) dX0_behindRun_8 rfl (fun x2 h1 => ?_)
  refine s_istore (ls' := [(4, .int x2), (0, rv g 6 a0), (1, .int l1), (2, .int l2), (3, .int l3)]) dX0_behindRun_11 (by decide) rfl ?_
  refine s_iload_n 3 dX0_behindRun_13 rfl rfl ?_
  refine s_iload 0 dX0_behindRun_14 rfl ?_
  refine s_iconst (v := 1) dX0_behindRun_16 rfl ?_
  refine s_iadd dX0_behindRun_17 ?_
  refine s_callSi (As := [.int l2, .int (x2 + (1 : Int32))]) (rest := []) (cX0_passed_ok g l2 (x2 + (1 : Int32)) h1) sl_X0_36 rfl (Nat.le_of_ble_eq_true rfl) (Nat.le_of_ble_eq_true rfl) dX0_behindRun_18 rfl (fun x4 h3 => ?_)
  refine s_istore (ls' := [(5, .int x4), (4, .int x2), (0, rv g 6 a0), (1, .int l1), (2, .int l2), (3, .int l3)]) dX0_behindRun_21 (by decide) rfl ?_
  refine s_iload_n 4 dX0_behindRun_23 rfl rfl ?_
  refine s_iload_n 5 dX0_behindRun_24 rfl rfl ?_
  refine s_callSi (As := [.int l2, .int l3]) (rest := []) (cX0_leftOf_ok g l2 l3 h3) sl_X0_9 rfl (Nat.le_of_ble_eq_true rfl) (Nat.le_of_ble_eq_true rfl) dX0_behindRun_25 rfl (fun x6 h5 => ?_)
  refine s_iload 1 dX0_behindRun_28 rfl ?_
  refine s_icmp_le (tgt := 48) dX0_behindRun_30 (by decide) ?_ ?_
  ·
    refine s_iload 0 dX0_behindRun_48 rfl ?_
    exact s_iret rfl dX0_behindRun_50
  ·
    refine s_iload 0 dX0_behindRun_33 rfl ?_
    refine s_iload_n 5 dX0_behindRun_35 rfl rfl ?_
    refine s_aload_n 2 dX0_behindRun_36 rfl rfl ?_
    refine s_getr1 (k2 := 34) (s0 := a0) rfl dX0_behindRun_37 fl_X0_39 ?_
    refine s_iload_n 5 dX0_behindRun_40 rfl rfl ?_
    refine s_iald (s0 := a0) ka_34 dX0_behindRun_41 ?_
    refine s_callSi (As := [.int x4, .int l3, .int (ra h5 34 a0 l3)]) (rest := []) (cX0_with_ok g x4 l3 (ra h5 34 a0 l3) h5) sl_X0_42 rfl (Nat.le_of_ble_eq_true rfl) (Nat.le_of_ble_eq_true rfl) dX0_behindRun_42 rfl (fun x8 h7 => ?_)
    refine s_goto (tgt := 50) dX0_behindRun_45 (by decide) ?_
    exact s_iret rfl dX0_behindRun_50
def fX0_isKept_l16 (a0 : Nat) (l2 : Int32) (l3 : Int32) (l4 : Int32) (K : Hp → Option (Int32 × Hp)) (rec : Int32 → Hp → Option (Int32 × Hp)) (l5 : Int32) (h : Hp) : Option (Int32 × Hp) :=
  if (rd h 6 a0 2) ≤ l5 then (K h)
  else (bnd (fX0_leftOf l2 l5 h) fun x4 h3 =>
  jn (κ := Int32 → Hp → Option (Int32 × Hp)) (fun z0_4 h6 => if z0_4 < x4 then (lt (l5 + 1) fun x7 =>
  rec x7 h6)
  else (ck (zk 0) (some (0, h6)))) fun k46_4 =>
  if l5 = l3 then (k46_4 l4 h3)
  else (k46_4 (l4 + (1 : Int32)) h3))
def fX0_isKept (a0 : Nat) (l1 : Int32) (l2 : Int32) (l3 : Int32) (h : Hp) : Option (Int32 × Hp) :=
  ck (ib l3 5) (
  bnd (fX8_way a0 l1 (ra h 33 a0 l3) h) fun x2 h1 =>
  itr1 (fX0_isKept_l16 a0 l2 l3 x2 (fun h8 => ck (zk 1) (some (1, h8)))) FU 0 h1)
set_option maxHeartbeats 4000000 in
set_option maxRecDepth 100000 in
theorem sX0_isKept_l16 (g : GE) (a0 : Nat) (l2 : Int32) (l3 : Int32) (l4 : Int32) (K : Hp → Option (Int32 × Hp)) (hK : ∀ (h : Hp), Sim cvi 0 g mX0_isKept 3 57 [] [] h (K  h)) : ∀ (n : Nat) (l5 : Int32) (h : Hp), Sim cvi 0 g mX0_isKept 3 16 [(0, rv g 6 a0), (2, .int l2), (3, .int l3), (4, .int l4), (5, .int l5)] [] h (itr1 (fX0_isKept_l16 a0 l2 l3 l4 K) n l5 h) := by
  refine s_itr1 (fun l5 h o => Sim cvi 0 g mX0_isKept 3 16 [(0, rv g 6 a0), (2, .int l2), (3, .int l3), (4, .int l4), (5, .int l5)] [] h o) (fun _ _ => s_none) ?_
  intro rec hrec l5 h
  unfold fX0_isKept_l16
  refine s_iload 4 dX0_isKept_16 rfl ?_
  refine s_aload_n 0 dX0_isKept_18 rfl rfl ?_
  refine s_geti (s0 := a0) dX0_isKept_19 fl_X0_20 ?_
  refine s_icmp_ge (tgt := 57) dX0_isKept_22 (by decide) ?_ ?_
  ·
    refine s_sub [] rfl ?_
    exact hK h
  ·
    refine s_iload_n 1 dX0_isKept_25 rfl rfl ?_
    refine s_iload 4 dX0_isKept_26 rfl ?_
    refine s_callSi (As := [.int l2, .int l5]) (rest := []) (cX0_leftOf_ok g l2 l5 h) sl_X0_9 rfl (Nat.le_of_ble_eq_true rfl) (Nat.le_of_ble_eq_true rfl) dX0_isKept_28 rfl (fun x4 h3 => ?_)
    refine s_iload 4 dX0_isKept_31 rfl ?_
    refine s_iload_n 2 dX0_isKept_33 rfl rfl ?_
    refine s_jn (fun (k46_4 : Int32 → Hp → Option (Int32 × Hp)) => ∀ (z0_4 : Int32) (h6 : Hp), Sim cvi 0 g mX0_isKept 3 46 [(0, rv g 6 a0), (2, .int l2), (3, .int l3), (4, .int l4), (5, .int l5)] [.int z0_4, .int x4] h6 (k46_4 z0_4 h6)) (fun z0_4 h6 => ?_) (fun k46_4 Hk46_4 => ?_)
    ·
      refine s_icmp_gt (tgt := 51) dX0_isKept_46 (by decide) ?_ ?_
      ·
        refine s_iincl 4 (w := 1) (fun x7 => [(5, .int x7), (0, rv g 6 a0), (2, .int l2), (3, .int l3), (4, .int l4)]) dX0_isKept_51 rfl rfl (by decide) (fun _ => rfl) (fun x7 => ?_)
        refine s_goto (tgt := 16) dX0_isKept_54 (by decide) ?_
        refine s_sub [1, 2, 3, 4, 0] rfl ?_
        exact hrec x7 h6
      ·
        refine s_iconst (v := 0) dX0_isKept_49 rfl ?_
        exact s_zret rfl dX0_isKept_50
    refine s_icmp_ne (tgt := 42) dX0_isKept_34 (by decide) ?_ ?_
    ·
      refine s_iload 3 dX0_isKept_37 rfl ?_
      refine s_goto (tgt := 46) dX0_isKept_39 (by decide) ?_
      exact Hk46_4 l4 h3
    ·
      refine s_iload 3 dX0_isKept_42 rfl ?_
      refine s_iconst (v := 1) dX0_isKept_44 rfl ?_
      refine s_iadd dX0_isKept_45 ?_
      exact Hk46_4 (l4 + (1 : Int32)) h3
set_option maxHeartbeats 4000000 in
set_option maxRecDepth 100000 in
theorem cX0_isKept_ok (g : GE) (a0 : Nat) (l1 : Int32) (l2 : Int32) (l3 : Int32) (h : Hp) : Con cvi 0 g mX0_isKept 3 [rv g 6 a0, .int l1, .int l2, .int l3] h (fX0_isKept a0 l1 l2 l3 h) := by
  refine Con.of (by decide +kernel) (Nat.le_of_ble_eq_true rfl) ?_
  show Sim cvi 0 g mX0_isKept 3 0 [(0, rv g 6 a0), (1, .int l1), (2, .int l2), (3, .int l3)] [] h _
  unfold fX0_isKept
  refine s_aload_n 0 dX0_isKept_0 rfl rfl ?_
  refine s_iload_n 1 dX0_isKept_1 rfl rfl ?_
  refine s_aload_n 0 dX0_isKept_2 rfl rfl ?_
  refine s_getr1 (k2 := 33) (s0 := a0) rfl dX0_isKept_3 fl_X0_29 ?_
  refine s_iload_n 3 dX0_isKept_6 rfl rfl ?_
  refine s_iald (s0 := a0) ka_33 dX0_isKept_7 ?_
  refine s_callVi (s0 := a0) (As := [.int l1, .int (ra h 33 a0 l3)]) (rest := []) (cX8_way_ok g a0 l1 (ra h 33 a0 l3) h) vl_X0_33 rfl (Nat.le_of_ble_eq_true rfl) (Nat.le_of_ble_eq_true rfl) dX0_isKept_8 rfl (fun x2 h1 => ?_)
  refine s_istore (ls' := [(4, .int x2), (0, rv g 6 a0), (1, .int l1), (2, .int l2), (3, .int l3)]) dX0_isKept_11 (by decide) rfl ?_
  refine s_iconst (v := 0) dX0_isKept_13 rfl ?_
  refine s_istore (ls' := [(5, .int 0), (4, .int x2), (0, rv g 6 a0), (1, .int l1), (2, .int l2), (3, .int l3)]) dX0_isKept_14 (by decide) rfl ?_
  refine s_sub (ls' := [(0, rv g 6 a0), (2, .int l2), (3, .int l3), (4, .int x2), (5, .int 0)]) [2, 4, 5, 1, 0] rfl ?_
  refine sX0_isKept_l16 g a0 l2 l3 x2 _ (fun h8 => ?_) FU 0 h1
  refine s_iconst (v := 1) dX0_isKept_57 rfl ?_
  exact s_zret rfl dX0_isKept_58
def fX8_packed_l4 (a0 : Nat) (K : Int32 → Hp → Option (Int32 × Hp)) (rec : Int32 → Int32 → Hp → Option (Int32 × Hp)) (l1 l2 : Int32) (h : Hp) : Option (Int32 × Hp) :=
  if (rd h 6 a0 2) ≤ l2 then (K l1 h)
  else (ck (ib l2 5) (
  bnd (fX0_with l1 l2 (ra h 35 a0 l2) h) fun x2 h1 =>
  lt (l2 + 1) fun x3 =>
  rec x2 x3 h1))
def fX8_packed (a0 : Nat) (h : Hp) : Option (Int32 × Hp) :=
  itr2 (fX8_packed_l4 a0 (fun y4 h5 => some (y4, h5))) FU 0 0 h
set_option maxHeartbeats 4000000 in
set_option maxRecDepth 100000 in
theorem sX8_packed_l4 (g : GE) (a0 : Nat) (K : Int32 → Hp → Option (Int32 × Hp)) (hK : ∀ (y1 : Int32) (h : Hp), Sim cvi 0 g mX8_packed 3 30 [(1, .int y1)] [] h (K y1 h)) : ∀ (n : Nat) (l1 l2 : Int32) (h : Hp), Sim cvi 0 g mX8_packed 3 4 [(0, rv g 6 a0), (1, .int l1), (2, .int l2)] [] h (itr2 (fX8_packed_l4 a0 K) n l1 l2 h) := by
  refine s_itr2 (fun l1 l2 h o => Sim cvi 0 g mX8_packed 3 4 [(0, rv g 6 a0), (1, .int l1), (2, .int l2)] [] h o) (fun _ _ _ => s_none) ?_
  intro rec hrec l1 l2 h
  unfold fX8_packed_l4
  refine s_iload_n 2 dX8_packed_4 rfl rfl ?_
  refine s_aload_n 0 dX8_packed_5 rfl rfl ?_
  refine s_geti (s0 := a0) dX8_packed_6 fl_X8_18 ?_
  refine s_icmp_ge (tgt := 30) dX8_packed_9 (by decide) ?_ ?_
  ·
    refine s_sub [1] rfl ?_
    exact hK l1 h
  ·
    refine s_iload_n 1 dX8_packed_12 rfl rfl ?_
    refine s_iload_n 2 dX8_packed_13 rfl rfl ?_
    refine s_aload_n 0 dX8_packed_14 rfl rfl ?_
    refine s_getr1 (k2 := 35) (s0 := a0) rfl dX8_packed_15 fl_X8_28 ?_
    refine s_iload_n 2 dX8_packed_18 rfl rfl ?_
    refine s_iald (s0 := a0) ka_35 dX8_packed_19 ?_
    refine s_callSi (As := [.int l1, .int l2, .int (ra h 35 a0 l2)]) (rest := []) (cX0_with_ok g l1 l2 (ra h 35 a0 l2) h) sl_X8_55 rfl (Nat.le_of_ble_eq_true rfl) (Nat.le_of_ble_eq_true rfl) dX8_packed_20 rfl (fun x2 h1 => ?_)
    refine s_istore_n (ls' := [(1, .int x2), (0, rv g 6 a0), (2, .int l2)]) dX8_packed_23 rfl (by decide) rfl ?_
    refine s_iincl 2 (w := 1) (fun x3 => [(2, .int x3), (1, .int x2), (0, rv g 6 a0)]) dX8_packed_24 rfl rfl (by decide) (fun _ => rfl) (fun x3 => ?_)
    refine s_goto (tgt := 4) dX8_packed_27 (by decide) ?_
    refine s_sub [2, 1, 0] rfl ?_
    exact hrec x2 x3 h1
set_option maxHeartbeats 4000000 in
set_option maxRecDepth 100000 in
theorem cX8_packed_ok (g : GE) (a0 : Nat) (h : Hp) : Con cvi 0 g mX8_packed 3 [rv g 6 a0] h (fX8_packed a0 h) := by
  refine Con.of (by decide +kernel) (Nat.le_of_ble_eq_true rfl) ?_
  show Sim cvi 0 g mX8_packed 3 0 [(0, rv g 6 a0)] [] h _
  unfold fX8_packed
  refine s_iconst (v := 0) dX8_packed_0 rfl ?_
  refine s_istore_n (ls' := [(1, .int 0), (0, rv g 6 a0)]) dX8_packed_1 rfl (by decide) rfl ?_
  refine s_iconst (v := 0) dX8_packed_2 rfl ?_
  refine s_istore_n (ls' := [(2, .int 0), (1, .int 0), (0, rv g 6 a0)]) dX8_packed_3 rfl (by decide) rfl ?_
  refine s_sub (ls' := [(0, rv g 6 a0), (1, .int 0), (2, .int 0)]) [2, 1, 0] rfl ?_
  refine sX8_packed_l4 g a0 _ (fun y4 h5 => ?_) FU 0 0 h
  refine s_iload_n 0 dX8_packed_30 rfl rfl ?_
  exact s_iret rfl dX8_packed_31
def fX0_inRow_l21 (a0 : Nat) (K : Hp → Option (Int32 × Hp)) (rec : Int32 → Int32 → Int32 → Hp → Option (Int32 × Hp)) (l1 l2 l3 : Int32) (h : Hp) : Option (Int32 × Hp) :=
  if (99 : Int32) ≤ l3 then (K h)
  else (ck (!decide ((rd h 6 a0 2) = 0)) (
  lt (irm l3 (rd h 6 a0 2)) fun x4 =>
  bnd (fX0_isKept a0 l1 l2 x4 h) fun x6 h5 =>
  if x6 = 0 then (some (l3, h5))
  else (bnd (fX0_behindRun a0 l1 l2 x4 h5) fun x8 h7 =>
  ck (ib x4 5) (
  lt (ra h7 33 a0 x4) fun x9 =>
  lt (l3 + 1) fun x10 =>
  rec x9 x8 x10 h7))))
def fX0_inRow (a0 : Nat) (h : Hp) : Option (Int32 × Hp) :=
  if (rd h 6 a0 2) = 0 then (some (0, h))
  else (lt (rd h 6 a0 1) fun x1 =>
  bnd (fX8_packed a0 h) fun x3 h2 =>
  itr3 (fX0_inRow_l21 a0 (fun h11 => some (99, h11))) FU x1 x3 0 h2)
set_option maxHeartbeats 4000000 in
set_option maxRecDepth 100000 in
theorem sX0_inRow_l21 (g : GE) (a0 : Nat) (K : Hp → Option (Int32 × Hp)) (hK : ∀ (h : Hp), Sim cvi 0 g mX0_inRow 5 71 [] [] h (K  h)) : ∀ (n : Nat) (l1 l2 l3 : Int32) (h : Hp), Sim cvi 0 g mX0_inRow 5 21 [(0, rv g 6 a0), (1, .int l1), (2, .int l2), (3, .int l3)] [] h (itr3 (fX0_inRow_l21 a0 K) n l1 l2 l3 h) := by
  refine s_itr3 (fun l1 l2 l3 h o => Sim cvi 0 g mX0_inRow 5 21 [(0, rv g 6 a0), (1, .int l1), (2, .int l2), (3, .int l3)] [] h o) (fun _ _ _ _ => s_none) ?_
  intro rec hrec l1 l2 l3 h
  unfold fX0_inRow_l21
  refine s_iload_n 3 dX0_inRow_21 rfl rfl ?_
  refine s_bipush (v := 99) dX0_inRow_22 rfl ?_
  refine s_icmp_ge (tgt := 71) dX0_inRow_24 (by decide) ?_ ?_
  ·
    refine s_sub [] rfl ?_
    exact hK h
  ·
    refine s_iload_n 3 dX0_inRow_27 rfl rfl ?_
    refine s_aload_n 0 dX0_inRow_28 rfl rfl ?_
    refine s_geti (s0 := a0) dX0_inRow_29 fl_X0_20 ?_
    refine s_irem dX0_inRow_32 ?_
    refine s_leti (fun x4 => ?_)
    refine s_istore (ls' := [(4, .int x4), (0, rv g 6 a0), (1, .int l1), (2, .int l2), (3, .int l3)]) dX0_inRow_33 (by decide) rfl ?_
    refine s_aload_n 1 dX0_inRow_35 rfl rfl ?_
    refine s_iload_n 2 dX0_inRow_36 rfl rfl ?_
    refine s_iload_n 3 dX0_inRow_37 rfl rfl ?_
    refine s_iload 0 dX0_inRow_38 rfl ?_
    refine s_callSi (As := [rv g 6 a0, .int l1, .int l2, .int x4]) (rest := []) (cX0_isKept_ok g a0 l1 l2 x4 h) sl_X0_53 rfl (Nat.le_of_ble_eq_true rfl) (Nat.le_of_ble_eq_true rfl) dX0_inRow_40 rfl (fun x6 h5 => ?_)
    refine s_if_ne (tgt := 48) dX0_inRow_43 (by decide) ?_ ?_
    ·
      refine s_iload_n 4 dX0_inRow_46 rfl rfl ?_
      exact s_iret rfl dX0_inRow_47
    ·
      refine s_aload_n 1 dX0_inRow_48 rfl rfl ?_
      refine s_iload_n 2 dX0_inRow_49 rfl rfl ?_
      refine s_iload_n 3 dX0_inRow_50 rfl rfl ?_
      refine s_iload 0 dX0_inRow_51 rfl ?_
      refine s_callSi (As := [rv g 6 a0, .int l1, .int l2, .int x4]) (rest := []) (cX0_behindRun_ok g a0 l1 l2 x4 h5) sl_X0_57 rfl (Nat.le_of_ble_eq_true rfl) (Nat.le_of_ble_eq_true rfl) dX0_inRow_53 rfl (fun x8 h7 => ?_)
      refine s_istore_n (ls' := [(2, .int x8), (4, .int x4), (0, rv g 6 a0), (1, .int l1), (3, .int l3)]) dX0_inRow_56 rfl (by decide) rfl ?_
      refine s_aload_n 2 dX0_inRow_57 rfl rfl ?_
      refine s_getr1 (k2 := 33) (s0 := a0) rfl dX0_inRow_58 fl_X0_29 ?_
      refine s_iload 1 dX0_inRow_61 rfl ?_
      refine s_iald (s0 := a0) ka_33 dX0_inRow_63 ?_
      refine s_leti (fun x9 => ?_)
      refine s_istore_n (ls' := [(1, .int x9), (2, .int x8), (4, .int x4), (0, rv g 6 a0), (3, .int l3)]) dX0_inRow_64 rfl (by decide) rfl ?_
      refine s_iincl 4 (w := 1) (fun x10 => [(3, .int x10), (1, .int x9), (2, .int x8), (4, .int x4), (0, rv g 6 a0)]) dX0_inRow_65 rfl rfl (by decide) (fun _ => rfl) (fun x10 => ?_)
      refine s_goto (tgt := 21) dX0_inRow_68 (by decide) ?_
      refine s_sub [4, 1, 2, 0] rfl ?_
      exact hrec x9 x8 x10 h7
set_option maxHeartbeats 4000000 in
set_option maxRecDepth 100000 in
theorem cX0_inRow_ok (g : GE) (a0 : Nat) (h : Hp) : Con cvi 0 g mX0_inRow 5 [rv g 6 a0] h (fX0_inRow a0 h) := by
  refine Con.of (by decide +kernel) (Nat.le_of_ble_eq_true rfl) ?_
  show Sim cvi 0 g mX0_inRow 5 0 [(0, rv g 6 a0)] [] h _
  unfold fX0_inRow
  refine s_aload_n 0 dX0_inRow_0 rfl rfl ?_
  refine s_geti (s0 := a0) dX0_inRow_1 fl_X0_20 ?_
  refine s_if_ne (tgt := 9) dX0_inRow_4 (by decide) ?_ ?_
  ·
    refine s_iconst (v := 0) dX0_inRow_7 rfl ?_
    exact s_iret rfl dX0_inRow_8
  ·
    refine s_aload_n 0 dX0_inRow_9 rfl rfl ?_
    refine s_geti (s0 := a0) dX0_inRow_10 fl_X0_46 ?_
    refine s_leti (fun x1 => ?_)
    refine s_istore_n (ls' := [(1, .int x1), (0, rv g 6 a0)]) dX0_inRow_13 rfl (by decide) rfl ?_
    refine s_aload_n 1 dX0_inRow_14 rfl rfl ?_
    refine s_callVi (s0 := a0) (As := []) (rest := []) (cX8_packed_ok g a0 h) vl_X0_49 rfl (Nat.le_of_ble_eq_true rfl) (Nat.le_of_ble_eq_true rfl) dX0_inRow_15 rfl (fun x3 h2 => ?_)
    refine s_istore_n (ls' := [(2, .int x3), (1, .int x1), (0, rv g 6 a0)]) dX0_inRow_18 rfl (by decide) rfl ?_
    refine s_iconst (v := 0) dX0_inRow_19 rfl ?_
    refine s_istore_n (ls' := [(3, .int 0), (2, .int x3), (1, .int x1), (0, rv g 6 a0)]) dX0_inRow_20 rfl (by decide) rfl ?_
    refine s_sub (ls' := [(0, rv g 6 a0), (1, .int x1), (2, .int x3), (3, .int 0)]) [3, 2, 1, 0] rfl ?_
    refine sX0_inRow_l21 g a0 _ (fun h11 => ?_) FU x1 x3 0 h2
    refine s_bipush (v := 99) dX0_inRow_71 rfl ?_
    exact s_iret rfl dX0_inRow_73
def fX0_soonest_l5 (a0 : Nat) (l1 : Int32) (K : Int32 → Hp → Option (Int32 × Hp)) (rec : Int32 → Int32 → Hp → Option (Int32 × Hp)) (l2 l3 : Int32) (h : Hp) : Option (Int32 × Hp) :=
  if (rd h 6 a0 2) ≤ l3 then (K l2 h)
  else (bnd (fX0_leftOf l1 l3 h) fun x2 h1 =>
  lt (if x2 < l2 then x2 else l2) fun x3 =>
  lt (l3 + 1) fun x4 =>
  rec x3 x4 h1)
def fX0_soonest (a0 : Nat) (l1 : Int32) (h : Hp) : Option (Int32 × Hp) :=
  itr2 (fX0_soonest_l5 a0 l1 (fun y5 h6 => some (y5, h6))) FU 6 0 h
set_option maxHeartbeats 4000000 in
set_option maxRecDepth 100000 in
theorem sX0_soonest_l5 (g : GE) (a0 : Nat) (l1 : Int32) (K : Int32 → Hp → Option (Int32 × Hp)) (hK : ∀ (y2 : Int32) (h : Hp), Sim cvi 0 g mX0_soonest 3 29 [(2, .int y2)] [] h (K y2 h)) : ∀ (n : Nat) (l2 l3 : Int32) (h : Hp), Sim cvi 0 g mX0_soonest 3 5 [(0, rv g 6 a0), (1, .int l1), (2, .int l2), (3, .int l3)] [] h (itr2 (fX0_soonest_l5 a0 l1 K) n l2 l3 h) := by
  refine s_itr2 (fun l2 l3 h o => Sim cvi 0 g mX0_soonest 3 5 [(0, rv g 6 a0), (1, .int l1), (2, .int l2), (3, .int l3)] [] h o) (fun _ _ _ => s_none) ?_
  intro rec hrec l2 l3 h
  unfold fX0_soonest_l5
  refine s_iload_n 3 dX0_soonest_5 rfl rfl ?_
  refine s_aload_n 0 dX0_soonest_6 rfl rfl ?_
  refine s_geti (s0 := a0) dX0_soonest_7 fl_X0_20 ?_
  refine s_icmp_ge (tgt := 29) dX0_soonest_10 (by decide) ?_ ?_
  ·
    refine s_sub [2] rfl ?_
    exact hK l2 h
  ·
    refine s_iload_n 2 dX0_soonest_13 rfl rfl ?_
    refine s_iload_n 1 dX0_soonest_14 rfl rfl ?_
    refine s_iload_n 3 dX0_soonest_15 rfl rfl ?_
    refine s_callSi (As := [.int l1, .int l3]) (rest := [.int l2]) (cX0_leftOf_ok g l1 l3 h) sl_X0_9 rfl (Nat.le_of_ble_eq_true rfl) (Nat.le_of_ble_eq_true rfl) dX0_soonest_16 rfl (fun x2 h1 => ?_)
    refine s_mmin w_4_79 mw_min (Nat.le_of_ble_eq_true rfl) (Nat.le_of_ble_eq_true rfl) dX0_soonest_19 ?_
    refine s_leti (fun x3 => ?_)
    refine s_istore_n (ls' := [(2, .int x3), (0, rv g 6 a0), (1, .int l1), (3, .int l3)]) dX0_soonest_22 rfl (by decide) rfl ?_
    refine s_iincl 3 (w := 1) (fun x4 => [(3, .int x4), (2, .int x3), (0, rv g 6 a0), (1, .int l1)]) dX0_soonest_23 rfl rfl (by decide) (fun _ => rfl) (fun x4 => ?_)
    refine s_goto (tgt := 5) dX0_soonest_26 (by decide) ?_
    refine s_sub [2, 3, 1, 0] rfl ?_
    exact hrec x3 x4 h1
set_option maxHeartbeats 4000000 in
set_option maxRecDepth 100000 in
theorem cX0_soonest_ok (g : GE) (a0 : Nat) (l1 : Int32) (h : Hp) : Con cvi 0 g mX0_soonest 3 [rv g 6 a0, .int l1] h (fX0_soonest a0 l1 h) := by
  refine Con.of (by decide +kernel) (Nat.le_of_ble_eq_true rfl) ?_
  show Sim cvi 0 g mX0_soonest 3 0 [(0, rv g 6 a0), (1, .int l1)] [] h _
  unfold fX0_soonest
  refine s_bipush (v := 6) dX0_soonest_0 rfl ?_
  refine s_istore_n (ls' := [(2, .int 6), (0, rv g 6 a0), (1, .int l1)]) dX0_soonest_2 rfl (by decide) rfl ?_
  refine s_iconst (v := 0) dX0_soonest_3 rfl ?_
  refine s_istore_n (ls' := [(3, .int 0), (2, .int 6), (0, rv g 6 a0), (1, .int l1)]) dX0_soonest_4 rfl (by decide) rfl ?_
  refine s_sub (ls' := [(0, rv g 6 a0), (1, .int l1), (2, .int 6), (3, .int 0)]) [2, 3, 1, 0] rfl ?_
  refine sX0_soonest_l5 g a0 l1 _ (fun y5 h6 => ?_) FU 6 0 h
  refine s_iload_n 0 dX0_soonest_29 rfl rfl ?_
  exact s_iret rfl dX0_soonest_30
def fX0_standing_l4 (l0 : Int32) (K : Int32 → Hp → Option (Int32 × Hp)) (rec : Int32 → Int32 → Hp → Option (Int32 × Hp)) (l1 l2 : Int32) (h : Hp) : Option (Int32 × Hp) :=
  if (5 : Int32) ≤ l2 then (K l1 h)
  else (bnd (fX0_leftOf l0 l2 h) fun x2 h1 =>
  jn (κ := Int32 → Hp → Option (Int32 × Hp)) (fun y1_2 h4 => lt (l2 + 1) fun x5 =>
  rec y1_2 x5 h4) fun k20_2 =>
  if x2 ≤ 0 then (k20_2 l1 h1)
  else (lt (l1 + 1) fun x6 =>
  k20_2 x6 h1))
def fX0_standing (l0 : Int32) (h : Hp) : Option (Int32 × Hp) :=
  itr2 (fX0_standing_l4 l0 (fun y7 h8 => some (y7, h8))) FU 0 0 h
set_option maxHeartbeats 4000000 in
set_option maxRecDepth 100000 in
theorem sX0_standing_l4 (g : GE) (l0 : Int32) (K : Int32 → Hp → Option (Int32 × Hp)) (hK : ∀ (y1 : Int32) (h : Hp), Sim cvi 0 g mX0_standing 3 26 [(1, .int y1)] [] h (K y1 h)) : ∀ (n : Nat) (l1 l2 : Int32) (h : Hp), Sim cvi 0 g mX0_standing 3 4 [(0, .int l0), (1, .int l1), (2, .int l2)] [] h (itr2 (fX0_standing_l4 l0 K) n l1 l2 h) := by
  refine s_itr2 (fun l1 l2 h o => Sim cvi 0 g mX0_standing 3 4 [(0, .int l0), (1, .int l1), (2, .int l2)] [] h o) (fun _ _ _ => s_none) ?_
  intro rec hrec l1 l2 h
  unfold fX0_standing_l4
  refine s_iload_n 2 dX0_standing_4 rfl rfl ?_
  refine s_iconst (v := 5) dX0_standing_5 rfl ?_
  refine s_icmp_ge (tgt := 26) dX0_standing_6 (by decide) ?_ ?_
  ·
    refine s_sub [1] rfl ?_
    exact hK l1 h
  ·
    refine s_iload_n 0 dX0_standing_9 rfl rfl ?_
    refine s_iload_n 2 dX0_standing_10 rfl rfl ?_
    refine s_callSi (As := [.int l0, .int l2]) (rest := []) (cX0_leftOf_ok g l0 l2 h) sl_X0_9 rfl (Nat.le_of_ble_eq_true rfl) (Nat.le_of_ble_eq_true rfl) dX0_standing_11 rfl (fun x2 h1 => ?_)
    refine s_jn (fun (k20_2 : Int32 → Hp → Option (Int32 × Hp)) => ∀ (y1_2 : Int32) (h4 : Hp), Sim cvi 0 g mX0_standing 3 20 [(0, .int l0), (1, .int y1_2), (2, .int l2)] [] h4 (k20_2 y1_2 h4)) (fun y1_2 h4 => ?_) (fun k20_2 Hk20_2 => ?_)
    ·
      refine s_iincl 2 (w := 1) (fun x5 => [(2, .int x5), (0, .int l0), (1, .int y1_2)]) dX0_standing_20 rfl rfl (by decide) (fun _ => rfl) (fun x5 => ?_)
      refine s_goto (tgt := 4) dX0_standing_23 (by decide) ?_
      refine s_sub [1, 2, 0] rfl ?_
      exact hrec y1_2 x5 h4
    refine s_if_le (tgt := 20) dX0_standing_14 (by decide) ?_ ?_
    ·
      exact Hk20_2 l1 h1
    ·
      refine s_iincl 1 (w := 1) (fun x6 => [(1, .int x6), (0, .int l0), (2, .int l2)]) dX0_standing_17 rfl rfl (by decide) (fun _ => rfl) (fun x6 => ?_)
      refine s_sub [1, 0, 2] rfl ?_
      exact Hk20_2 x6 h1
set_option maxHeartbeats 4000000 in
set_option maxRecDepth 100000 in
theorem cX0_standing_ok (g : GE) (l0 : Int32) (h : Hp) : Con cvi 0 g mX0_standing 3 [.int l0] h (fX0_standing l0 h) := by
  refine Con.of (by decide +kernel) (Nat.le_of_ble_eq_true rfl) ?_
  show Sim cvi 0 g mX0_standing 3 0 [(0, .int l0)] [] h _
  unfold fX0_standing
  refine s_iconst (v := 0) dX0_standing_0 rfl ?_
  refine s_istore_n (ls' := [(1, .int 0), (0, .int l0)]) dX0_standing_1 rfl (by decide) rfl ?_
  refine s_iconst (v := 0) dX0_standing_2 rfl ?_
  refine s_istore_n (ls' := [(2, .int 0), (1, .int 0), (0, .int l0)]) dX0_standing_3 rfl (by decide) rfl ?_
  refine s_sub (ls' := [(0, .int l0), (1, .int 0), (2, .int 0)]) [2, 1, 0] rfl ?_
  refine sX0_standing_l4 g l0 _ (fun y7 h8 => ?_) FU 0 0 h
  refine s_iload_n 0 dX0_standing_26 rfl rfl ?_
  exact s_iret rfl dX0_standing_27
def fX2_slotOf_l16 (l1 : Int32) (l2 : Int32) (K : Int32 → Hp → Option (Int32 × Hp)) (rec : Int32 → Int32 → Hp → Option (Int32 × Hp)) (l3 l4 : Int32) (h : Hp) : Option (Int32 × Hp) :=
  if (4096 : Int32) ≤ l4 then (K l3 h)
  else (ck (ib l3 4096) (
  lt ((ra h 11 0 l3) - (1 : Int32)) fun x2 =>
  if x2 < 0 then (some (l3, h))
  else (if (2200 : Int32) ≤ x2 then (some (l3, h))
  else (ck (ib x2 2200) (
  jn (κ := Hp → Option (Int32 × Hp)) (fun h4 => lt ((l3 + (1 : Int32)) &&& (4095 : Int32)) fun x5 =>
  lt (l4 + 1) fun x6 =>
  rec x5 x6 h4) fun k71_2 =>
  if (ra h 12 0 x2) = l1 then (ck (ib x2 2200) (
  if (ra h 13 0 x2) = l2 then (some (l3, h))
  else (k71_2 h)))
  else (k71_2 h))))))
def fX2_slotOf (l1 : Int32) (l2 : Int32) (h : Hp) : Option (Int32 × Hp) :=
  lt (((((l1 <<< ((15 : Int32) &&& 31)) ||| l2) * (-1640531535 : Int32)).toUInt32 >>> ((20 : Int32).toUInt32 &&& Int32.toUInt32 31)).toInt32) fun x1 =>
  itr2 (fX2_slotOf_l16 l1 l2 (fun y7 h8 => some (y7, h8))) FU x1 0 h
set_option maxHeartbeats 4000000 in
set_option maxRecDepth 100000 in
theorem sX2_slotOf_l16 (g : GE) (l1 : Int32) (l2 : Int32) (K : Int32 → Hp → Option (Int32 × Hp)) (hK : ∀ (y3 : Int32) (h : Hp), Sim cvi 0 g mX2_slotOf 2 85 [(3, .int y3)] [] h (K y3 h)) : ∀ (n : Nat) (l3 l4 : Int32) (h : Hp), Sim cvi 0 g mX2_slotOf 2 16 [(0, rv g 0 0), (1, .int l1), (2, .int l2), (3, .int l3), (4, .int l4)] [] h (itr2 (fX2_slotOf_l16 l1 l2 K) n l3 l4 h) := by
  refine s_itr2 (fun l3 l4 h o => Sim cvi 0 g mX2_slotOf 2 16 [(0, rv g 0 0), (1, .int l1), (2, .int l2), (3, .int l3), (4, .int l4)] [] h o) (fun _ _ _ => s_none) ?_
  intro rec hrec l3 l4 h
  unfold fX2_slotOf_l16
  refine s_iload 4 dX2_slotOf_16 rfl ?_
  refine s_sipush (v := 4096) dX2_slotOf_18 rfl ?_
  refine s_icmp_ge (tgt := 85) dX2_slotOf_21 (by decide) ?_ ?_
  ·
    refine s_sub [3] rfl ?_
    exact hK l3 h
  ·
    refine s_aload_n 0 dX2_slotOf_24 rfl rfl ?_
    refine s_getr (s0 := 0) dX2_slotOf_25 fl_X2_38 ?_
    refine s_iload_n 3 dX2_slotOf_28 rfl rfl ?_
    refine s_sald (s0 := 0) ka_11 dX2_slotOf_29 ?_
    refine s_iconst (v := 1) dX2_slotOf_30 rfl ?_
    refine s_isub dX2_slotOf_31 ?_
    refine s_leti (fun x2 => ?_)
    refine s_istore (ls' := [(5, .int x2), (0, rv g 0 0), (1, .int l1), (2, .int l2), (3, .int l3), (4, .int l4)]) dX2_slotOf_32 (by decide) rfl ?_
    refine s_iload 0 dX2_slotOf_34 rfl ?_
    refine s_if_lt (tgt := 69) dX2_slotOf_36 (by decide) ?_ ?_
    ·
      refine s_iload_n 4 dX2_slotOf_69 rfl rfl ?_
      exact s_iret rfl dX2_slotOf_70
    ·
      refine s_iload 0 dX2_slotOf_39 rfl ?_
      refine s_sipush (v := 2200) dX2_slotOf_41 rfl ?_
      refine s_icmp_ge (tgt := 69) dX2_slotOf_44 (by decide) ?_ ?_
      ·
        refine s_iload_n 4 dX2_slotOf_69 rfl rfl ?_
        exact s_iret rfl dX2_slotOf_70
      ·
        refine s_aload_n 1 dX2_slotOf_47 rfl rfl ?_
        refine s_getr (s0 := 0) dX2_slotOf_48 fl_X2_42 ?_
        refine s_iload 0 dX2_slotOf_51 rfl ?_
        refine s_bald (s0 := 0) ka_12 dX2_slotOf_53 ?_
        refine s_iload_n 2 dX2_slotOf_54 rfl rfl ?_
        refine s_jn (fun (k71_2 : Hp → Option (Int32 × Hp)) => ∀ (h4 : Hp), Sim cvi 0 g mX2_slotOf 2 71 [(0, rv g 0 0), (1, .int l1), (2, .int l2), (3, .int l3), (4, .int l4)] [] h4 (k71_2 h4)) (fun h4 => ?_) (fun k71_2 Hk71_2 => ?_)
        ·
          refine s_iload_n 3 dX2_slotOf_71 rfl rfl ?_
          refine s_iconst (v := 1) dX2_slotOf_72 rfl ?_
          refine s_iadd dX2_slotOf_73 ?_
          refine s_sipush (v := 4095) dX2_slotOf_74 rfl ?_
          refine s_iand dX2_slotOf_77 ?_
          refine s_leti (fun x5 => ?_)
          refine s_istore_n (ls' := [(3, .int x5), (0, rv g 0 0), (1, .int l1), (2, .int l2), (4, .int l4)]) dX2_slotOf_78 rfl (by decide) rfl ?_
          refine s_iincl 4 (w := 1) (fun x6 => [(4, .int x6), (3, .int x5), (0, rv g 0 0), (1, .int l1), (2, .int l2)]) dX2_slotOf_79 rfl rfl (by decide) (fun _ => rfl) (fun x6 => ?_)
          refine s_goto (tgt := 16) dX2_slotOf_82 (by decide) ?_
          refine s_sub [2, 3, 4, 1, 0] rfl ?_
          exact hrec x5 x6 h4
        refine s_icmp_ne (tgt := 71) dX2_slotOf_55 (by decide) ?_ ?_
        ·
          refine s_aload_n 1 dX2_slotOf_58 rfl rfl ?_
          refine s_getr (s0 := 0) dX2_slotOf_59 fl_X2_46 ?_
          refine s_iload 0 dX2_slotOf_62 rfl ?_
          refine s_sald (s0 := 0) ka_13 dX2_slotOf_64 ?_
          refine s_iload_n 3 dX2_slotOf_65 rfl rfl ?_
          refine s_icmp_ne (tgt := 71) dX2_slotOf_66 (by decide) ?_ ?_
          ·
            refine s_iload_n 4 dX2_slotOf_69 rfl rfl ?_
            exact s_iret rfl dX2_slotOf_70
          ·
            refine s_sub [1, 2, 3, 4, 5] rfl ?_
            exact Hk71_2 h
        ·
          refine s_sub [1, 2, 3, 4, 5] rfl ?_
          exact Hk71_2 h
set_option maxHeartbeats 4000000 in
set_option maxRecDepth 100000 in
theorem cX2_slotOf_ok (g : GE) (l1 : Int32) (l2 : Int32) (h : Hp) : Con cvi 0 g mX2_slotOf 2 [rv g 0 0, .int l1, .int l2] h (fX2_slotOf l1 l2 h) := by
  refine Con.of (by decide +kernel) (Nat.le_of_ble_eq_true rfl) ?_
  show Sim cvi 0 g mX2_slotOf 2 0 [(0, rv g 0 0), (1, .int l1), (2, .int l2)] [] h _
  unfold fX2_slotOf
  refine s_iload_n 1 dX2_slotOf_0 rfl rfl ?_
  refine s_bipush (v := 15) dX2_slotOf_1 rfl ?_
  refine s_ishl dX2_slotOf_3 ?_
  refine s_iload_n 2 dX2_slotOf_4 rfl rfl ?_
  refine s_ior dX2_slotOf_5 ?_
  refine s_ldc dX2_slotOf_6 w_4_34 ?_
  refine s_imul dX2_slotOf_8 ?_
  refine s_bipush (v := 20) dX2_slotOf_9 rfl ?_
  refine s_iushr dX2_slotOf_11 ?_
  refine s_leti (fun x1 => ?_)
  refine s_istore_n (ls' := [(3, .int x1), (0, rv g 0 0), (1, .int l1), (2, .int l2)]) dX2_slotOf_12 rfl (by decide) rfl ?_
  refine s_iconst (v := 0) dX2_slotOf_13 rfl ?_
  refine s_istore (ls' := [(4, .int 0), (3, .int x1), (0, rv g 0 0), (1, .int l1), (2, .int l2)]) dX2_slotOf_14 (by decide) rfl ?_
  refine s_sub (ls' := [(0, rv g 0 0), (1, .int l1), (2, .int l2), (3, .int x1), (4, .int 0)]) [2, 3, 4, 1, 0] rfl ?_
  refine sX2_slotOf_l16 g l1 l2 _ (fun y7 h8 => ?_) FU x1 0 h
  refine s_iload_n 0 dX2_slotOf_85 rfl rfl ?_
  exact s_iret rfl dX2_slotOf_86
def fX2_numberFor (l1 : Int32) (l2 : Int32) (h : Hp) : Option (Int32 × Hp) :=
  bnd (fX2_slotOf l1 l2 h) fun x2 h1 =>
  ck (ib x2 4096) (
  jn (κ := Hp → Option (Int32 × Hp)) (fun h4 => ck (ib x2 4096) (
  some ((ra h4 11 0 x2) - (1 : Int32), h4))) fun k79_2 =>
  if (ra h1 11 0 x2) = 0 then (if (2200 : Int32) ≤ (rd h1 0 0 2) then (k79_2 h1)
  else (ck (ib (rd h1 0 0 2) 2200) (lt (wa h1 12 0 (rd h1 0 0 2) (vp_nar .byte (l1.toInt8.toInt32))) fun h5 =>
  ck (ib (rd h5 0 0 2) 2200) (lt (wa h5 13 0 (rd h5 0 0 2) (vp_nar .short (l2.toInt16.toInt32))) fun h6 =>
  ck (ib (rd h6 0 0 2) 2200) (lt (wa h6 14 0 (rd h6 0 0 2) (vp_nar .byte 0)) fun h7 =>
  lt (wr h7 0 0 2 ((rd h7 0 0 2) + (1 : Int32))) fun h8 =>
  ck (ib x2 4096) (lt (wa h8 11 0 x2 (vp_nar .short ((rd h8 0 0 2).toInt16.toInt32))) fun h9 =>
  k79_2 h9))))))
  else (k79_2 h1))
set_option maxHeartbeats 4000000 in
set_option maxRecDepth 100000 in
theorem cX2_numberFor_ok (g : GE) (l1 : Int32) (l2 : Int32) (h : Hp) : Con cvi 0 g mX2_numberFor 3 [rv g 0 0, .int l1, .int l2] h (fX2_numberFor l1 l2 h) := by
  refine Con.of (by decide +kernel) (Nat.le_of_ble_eq_true rfl) ?_
  show Sim cvi 0 g mX2_numberFor 3 0 [(0, rv g 0 0), (1, .int l1), (2, .int l2)] [] h _
  unfold fX2_numberFor
  refine s_aload_n 0 dX2_numberFor_0 rfl rfl ?_
  refine s_iload_n 1 dX2_numberFor_1 rfl rfl ?_
  refine s_iload_n 2 dX2_numberFor_2 rfl rfl ?_
  refine s_callVi (s0 := 0) (As := [.int l1, .int l2]) (rest := []) (cX2_slotOf_ok g l1 l2 h) vl_X2_111 rfl (Nat.le_of_ble_eq_true rfl) (Nat.le_of_ble_eq_true rfl) dX2_numberFor_3 rfl (fun x2 h1 => ?_)
  refine s_istore_n (ls' := [(3, .int x2), (0, rv g 0 0), (1, .int l1), (2, .int l2)]) dX2_numberFor_6 rfl (by decide) rfl ?_
  refine s_aload_n 1 dX2_numberFor_7 rfl rfl ?_
  refine s_getr (s0 := 0) dX2_numberFor_8 fl_X2_38 ?_
  refine s_iload_n 0 dX2_numberFor_11 rfl rfl ?_
  refine s_sald (s0 := 0) ka_11 dX2_numberFor_12 ?_
  refine s_jn (fun (k79_2 : Hp → Option (Int32 × Hp)) => ∀ (h4 : Hp), Sim cvi 0 g mX2_numberFor 3 79 [(0, rv g 0 0), (3, .int x2)] [] h4 (k79_2 h4)) (fun h4 => ?_) (fun k79_2 Hk79_2 => ?_)
  ·
    refine s_aload_n 0 dX2_numberFor_79 rfl rfl ?_
    refine s_getr (s0 := 0) dX2_numberFor_80 fl_X2_38 ?_
    refine s_iload_n 1 dX2_numberFor_83 rfl rfl ?_
    refine s_sald (s0 := 0) ka_11 dX2_numberFor_84 ?_
    refine s_iconst (v := 1) dX2_numberFor_85 rfl ?_
    refine s_isub dX2_numberFor_86 ?_
    exact s_iret rfl dX2_numberFor_87
  refine s_if_ne (tgt := 79) dX2_numberFor_13 (by decide) ?_ ?_
  ·
    refine s_aload_n 1 dX2_numberFor_16 rfl rfl ?_
    refine s_geti (s0 := 0) dX2_numberFor_17 fl_X2_22 ?_
    refine s_sipush (v := 2200) dX2_numberFor_20 rfl ?_
    refine s_icmp_ge (tgt := 79) dX2_numberFor_23 (by decide) ?_ ?_
    ·
      refine s_sub [1, 0] rfl ?_
      exact Hk79_2 h1
    ·
      refine s_aload_n 1 dX2_numberFor_26 rfl rfl ?_
      refine s_getr (s0 := 0) dX2_numberFor_27 fl_X2_42 ?_
      refine s_aload_n 1 dX2_numberFor_30 rfl rfl ?_
      refine s_geti (s0 := 0) dX2_numberFor_31 fl_X2_22 ?_
      refine s_iload_n 2 dX2_numberFor_34 rfl rfl ?_
      refine s_i2b dX2_numberFor_35 ?_
      refine s_bast (s0 := 0) ka_12 dX2_numberFor_36 (fun h5 => ?_)
      refine s_aload_n 1 dX2_numberFor_37 rfl rfl ?_
      refine s_getr (s0 := 0) dX2_numberFor_38 fl_X2_46 ?_
      refine s_aload_n 1 dX2_numberFor_41 rfl rfl ?_
      refine s_geti (s0 := 0) dX2_numberFor_42 fl_X2_22 ?_
      refine s_iload_n 3 dX2_numberFor_45 rfl rfl ?_
      refine s_i2s dX2_numberFor_46 ?_
      refine s_sast (s0 := 0) ka_13 dX2_numberFor_47 (fun h6 => ?_)
      refine s_aload_n 1 dX2_numberFor_48 rfl rfl ?_
      refine s_getr (s0 := 0) dX2_numberFor_49 fl_X2_49 ?_
      refine s_aload_n 1 dX2_numberFor_52 rfl rfl ?_
      refine s_geti (s0 := 0) dX2_numberFor_53 fl_X2_22 ?_
      refine s_iconst (v := 0) dX2_numberFor_56 rfl ?_
      refine s_bast (s0 := 0) ka_14 dX2_numberFor_57 (fun h7 => ?_)
      refine s_aload_n 1 dX2_numberFor_58 rfl rfl ?_
      refine s_dup dX2_numberFor_59 rfl ?_
      refine s_geti (s0 := 0) dX2_numberFor_60 fl_X2_22 ?_
      refine s_iconst (v := 1) dX2_numberFor_63 rfl ?_
      refine s_iadd dX2_numberFor_64 ?_
      refine s_puti (s0 := 0) dX2_numberFor_65 fl_X2_22 (fun h8 => ?_)
      refine s_aload_n 1 dX2_numberFor_68 rfl rfl ?_
      refine s_getr (s0 := 0) dX2_numberFor_69 fl_X2_38 ?_
      refine s_iload_n 0 dX2_numberFor_72 rfl rfl ?_
      refine s_aload_n 1 dX2_numberFor_73 rfl rfl ?_
      refine s_geti (s0 := 0) dX2_numberFor_74 fl_X2_22 ?_
      refine s_i2s dX2_numberFor_77 ?_
      refine s_sast (s0 := 0) ka_11 dX2_numberFor_78 (fun h9 => ?_)
      refine s_sub [1, 0] rfl ?_
      exact Hk79_2 h9
  ·
    refine s_sub [1, 0] rfl ?_
    exact Hk79_2 h1
def fX8_has (a0 : Nat) (l1 : Int32) (h : Hp) : Option (Int32 × Hp) :=
  jn (κ := Hp → Option (Int32 × Hp)) (fun h2 => ck (zk 0) (some (0, h2))) fun k16_0 =>
  if l1 < 0 then (k16_0 h)
  else (if (rd h 6 a0 2) ≤ l1 then (k16_0 h)
  else (ck (zk 1) (some (1, h))))
set_option maxHeartbeats 4000000 in
set_option maxRecDepth 100000 in
theorem cX8_has_ok (g : GE) (a0 : Nat) (l1 : Int32) (h : Hp) : Con cvi 0 g mX8_has 2 [rv g 6 a0, .int l1] h (fX8_has a0 l1 h) := by
  refine Con.of (by decide +kernel) (Nat.le_of_ble_eq_true rfl) ?_
  show Sim cvi 0 g mX8_has 2 0 [(0, rv g 6 a0), (1, .int l1)] [] h _
  unfold fX8_has
  refine s_iload_n 1 dX8_has_0 rfl rfl ?_
  refine s_jn (fun (k16_0 : Hp → Option (Int32 × Hp)) => ∀ (h2 : Hp), Sim cvi 0 g mX8_has 2 16 [] [] h2 (k16_0 h2)) (fun h2 => ?_) (fun k16_0 Hk16_0 => ?_)
  ·
    refine s_iconst (v := 0) dX8_has_16 rfl ?_
    exact s_zret rfl dX8_has_17
  refine s_if_lt (tgt := 16) dX8_has_1 (by decide) ?_ ?_
  ·
    refine s_sub [] rfl ?_
    exact Hk16_0 h
  ·
    refine s_iload_n 1 dX8_has_4 rfl rfl ?_
    refine s_aload_n 0 dX8_has_5 rfl rfl ?_
    refine s_geti (s0 := a0) dX8_has_6 fl_X8_18 ?_
    refine s_icmp_ge (tgt := 16) dX8_has_9 (by decide) ?_ ?_
    ·
      refine s_sub [] rfl ?_
      exact Hk16_0 h
    ·
      refine s_iconst (v := 1) dX8_has_12 rfl ?_
      refine s_goto (tgt := 17) dX8_has_13 (by decide) ?_
      exact s_zret rfl dX8_has_17
def fX2_placeOf (l1 : Int32) (h : Hp) : Option (Int32 × Hp) :=
  ck (ib l1 2200) (
  lt (ra h 12 0 l1) fun x1 =>
  bnd (fX8_has 10 x1 h) fun x3 h2 =>
  if x3 = 0 then (some (rd h2 6 10 1, h2))
  else (ck (ib x1 5) (
  some (ra h2 33 10 x1, h2))))
set_option maxHeartbeats 4000000 in
set_option maxRecDepth 100000 in
theorem cX2_placeOf_ok (g : GE) (l1 : Int32) (h : Hp) : Con cvi 0 g mX2_placeOf 3 [rv g 0 0, .int l1] h (fX2_placeOf l1 h) := by
  refine Con.of (by decide +kernel) (Nat.le_of_ble_eq_true rfl) ?_
  show Sim cvi 0 g mX2_placeOf 3 0 [(0, rv g 0 0), (1, .int l1)] [] h _
  unfold fX2_placeOf
  refine s_aload_n 0 dX2_placeOf_0 rfl rfl ?_
  refine s_getr (s0 := 0) dX2_placeOf_1 fl_X2_42 ?_
  refine s_iload_n 1 dX2_placeOf_4 rfl rfl ?_
  refine s_bald (s0 := 0) ka_12 dX2_placeOf_5 ?_
  refine s_leti (fun x1 => ?_)
  refine s_istore_n (ls' := [(2, .int x1), (0, rv g 0 0), (1, .int l1)]) dX2_placeOf_6 rfl (by decide) rfl ?_
  refine s_aload_n 1 dX2_placeOf_7 rfl rfl ?_
  refine s_getr (s0 := 0) dX2_placeOf_8 fl_X2_12 ?_
  refine s_iload_n 0 dX2_placeOf_11 rfl rfl ?_
  refine s_callVi (s0 := 10) (As := [.int x1]) (rest := []) (cX8_has_ok g 10 x1 h) vl_X2_129 rfl (Nat.le_of_ble_eq_true rfl) (Nat.le_of_ble_eq_true rfl) dX2_placeOf_12 rfl (fun x3 h2 => ?_)
  refine s_if_eq (tgt := 30) dX2_placeOf_15 (by decide) ?_ ?_
  ·
    refine s_aload_n 1 dX2_placeOf_30 rfl rfl ?_
    refine s_getr (s0 := 0) dX2_placeOf_31 fl_X2_12 ?_
    refine s_geti (s0 := 10) dX2_placeOf_34 fl_X2_136 ?_
    exact s_iret rfl dX2_placeOf_37
  ·
    refine s_aload_n 1 dX2_placeOf_18 rfl rfl ?_
    refine s_getr (s0 := 0) dX2_placeOf_19 fl_X2_12 ?_
    refine s_getr1 (k2 := 33) (s0 := 10) rfl dX2_placeOf_22 fl_X2_132 ?_
    refine s_iload_n 0 dX2_placeOf_25 rfl rfl ?_
    refine s_iald (s0 := 10) ka_33 dX2_placeOf_26 ?_
    refine s_goto (tgt := 37) dX2_placeOf_27 (by decide) ?_
    exact s_iret rfl dX2_placeOf_37
def fX2_enter_l65 (l1 : Int32) (l2 : Int32) (K : Hp → Option (Unit × Hp)) (rec : Int32 → Hp → Option (Unit × Hp)) (l3 : Int32) (h : Hp) : Option (Unit × Hp) :=
  if (rd h 6 10 2) ≤ l3 then (K h)
  else (ck (ib l1 2200) (
  bnd (fX0_isKept 10 l2 (ra h 13 0 l1) l3 h) fun x8 h7 =>
  jn (κ := Int32 → Hp → Option (Unit × Hp)) (fun y4_8 h10 => ck (ib ((l1 * (5 : Int32)) + l3) 11000) (lt (wa h10 18 0 ((l1 * (5 : Int32)) + l3) (vp_nar .short (y4_8.toInt16.toInt32))) fun h11 =>
  lt (l3 + 1) fun x12 =>
  rec x12 h11)) fun k119_8 =>
  if x8 = 0 then (k119_8 (-1) h7)
  else (ck (ib l1 2200) (
  bnd (fX0_behindRun 10 l2 (ra h7 13 0 l1) l3 h7) fun x14 h13 =>
  bnd (fX2_numberFor l3 x14 h13) fun x16 h15 =>
  k119_8 x16 h15))))
def fX2_enter (l1 : Int32) (h : Hp) : Option (Unit × Hp) :=
  if l1 < 0 then (some ((), h))
  else (if (2200 : Int32) ≤ l1 then (some ((), h))
  else (if (rd h 0 0 3) < 2200 then (ck (ib (rd h 0 0 3) 2200) (lt (wa h 17 0 (rd h 0 0 3) (vp_nar .short (l1.toInt16.toInt32))) fun h1 =>
  lt (wr h1 0 0 3 ((rd h1 0 0 3) + (1 : Int32))) fun h2 =>
  ck (ib l1 2200) (lt (wa h2 14 0 l1 (vp_nar .byte 1)) fun h3 =>
  ck (ib l1 2200) (lt (wa h3 15 0 l1 (vp_nar .byte 0)) fun h4 =>
  bnd (fX2_placeOf l1 h4) fun x6 h5 =>
  itr1 (fX2_enter_l65 l1 x6 (fun h17 => some ((), h17))) FU 0 h5))))
  else (some ((), h))))
set_option maxHeartbeats 4000000 in
set_option maxRecDepth 100000 in
theorem sX2_enter_l65 (g : GE) (l1 : Int32) (l2 : Int32) (K : Hp → Option (Unit × Hp)) (hK : ∀ (h : Hp), Sim cvv 0 g mX2_enter 5 138 [] [] h (K  h)) : ∀ (n : Nat) (l3 : Int32) (h : Hp), Sim cvv 0 g mX2_enter 5 65 [(0, rv g 0 0), (1, .int l1), (2, .int l2), (3, .int l3)] [] h (itr1 (fX2_enter_l65 l1 l2 K) n l3 h) := by
  refine s_itr1 (fun l3 h o => Sim cvv 0 g mX2_enter 5 65 [(0, rv g 0 0), (1, .int l1), (2, .int l2), (3, .int l3)] [] h o) (fun _ _ => s_none) ?_
  intro rec hrec l3 h
  unfold fX2_enter_l65
  refine s_iload_n 3 dX2_enter_65 rfl rfl ?_
  refine s_aload_n 0 dX2_enter_66 rfl rfl ?_
  refine s_getr (s0 := 0) dX2_enter_67 fl_X2_12 ?_
  refine s_geti (s0 := 10) dX2_enter_70 fl_X2_98 ?_
  refine s_icmp_ge (tgt := 138) dX2_enter_73 (by decide) ?_ ?_
  ·
    refine s_sub [] rfl ?_
    exact hK h
  ·
    refine s_iconst (v := (-1)) dX2_enter_76 rfl ?_
    refine s_istore (ls' := [(4, .int (-1)), (0, rv g 0 0), (1, .int l1), (2, .int l2), (3, .int l3)]) dX2_enter_77 (by decide) rfl ?_
    refine s_aload_n 1 dX2_enter_79 rfl rfl ?_
    refine s_getr (s0 := 0) dX2_enter_80 fl_X2_12 ?_
    refine s_iload_n 3 dX2_enter_83 rfl rfl ?_
    refine s_aload_n 1 dX2_enter_84 rfl rfl ?_
    refine s_getr (s0 := 0) dX2_enter_85 fl_X2_46 ?_
    refine s_iload_n 2 dX2_enter_88 rfl rfl ?_
    refine s_sald (s0 := 0) ka_13 dX2_enter_89 ?_
    refine s_iload_n 4 dX2_enter_90 rfl rfl ?_
    refine s_callSi (As := [rv g 6 10, .int l2, .int (ra h 13 0 l1), .int l3]) (rest := []) (cX0_isKept_ok g 10 l2 (ra h 13 0 l1) l3 h) sl_X2_119 rfl (Nat.le_of_ble_eq_true rfl) (Nat.le_of_ble_eq_true rfl) dX2_enter_91 rfl (fun x8 h7 => ?_)
    refine s_jn (fun (k119_8 : Int32 → Hp → Option (Unit × Hp)) => ∀ (y4_8 : Int32) (h10 : Hp), Sim cvv 0 g mX2_enter 5 119 [(0, rv g 0 0), (1, .int l1), (2, .int l2), (3, .int l3), (4, .int y4_8)] [] h10 (k119_8 y4_8 h10)) (fun y4_8 h10 => ?_) (fun k119_8 Hk119_8 => ?_)
    ·
      refine s_aload_n 0 dX2_enter_119 rfl rfl ?_
      refine s_getr (s0 := 0) dX2_enter_120 fl_X2_61 ?_
      refine s_iload_n 1 dX2_enter_123 rfl rfl ?_
      refine s_iconst (v := 5) dX2_enter_124 rfl ?_
      refine s_imul dX2_enter_125 ?_
      refine s_iload_n 3 dX2_enter_126 rfl rfl ?_
      refine s_iadd dX2_enter_127 ?_
      refine s_iload 4 dX2_enter_128 rfl ?_
      refine s_i2s dX2_enter_130 ?_
      refine s_sast (s0 := 0) ka_18 dX2_enter_131 (fun h11 => ?_)
      refine s_iincl 3 (w := 1) (fun x12 => [(3, .int x12), (0, rv g 0 0), (1, .int l1), (2, .int l2), (4, .int y4_8)]) dX2_enter_132 rfl rfl (by decide) (fun _ => rfl) (fun x12 => ?_)
      refine s_goto (tgt := 65) dX2_enter_135 (by decide) ?_
      refine s_sub [1, 2, 3, 0] rfl ?_
      exact hrec x12 h11
    refine s_if_eq (tgt := 119) dX2_enter_94 (by decide) ?_ ?_
    ·
      refine s_sub [1, 2, 3, 4, 0] rfl ?_
      exact Hk119_8 (-1) h7
    ·
      refine s_aload_n 1 dX2_enter_97 rfl rfl ?_
      refine s_iload_n 4 dX2_enter_98 rfl rfl ?_
      refine s_aload_n 1 dX2_enter_99 rfl rfl ?_
      refine s_getr (s0 := 0) dX2_enter_100 fl_X2_12 ?_
      refine s_iload_n 3 dX2_enter_103 rfl rfl ?_
      refine s_aload_n 1 dX2_enter_104 rfl rfl ?_
      refine s_getr (s0 := 0) dX2_enter_105 fl_X2_46 ?_
      refine s_iload_n 2 dX2_enter_108 rfl rfl ?_
      refine s_sald (s0 := 0) ka_13 dX2_enter_109 ?_
      refine s_iload_n 4 dX2_enter_110 rfl rfl ?_
      refine s_callSi (As := [rv g 6 10, .int l2, .int (ra h7 13 0 l1), .int l3]) (rest := [.int l3, rv g 0 0]) (cX0_behindRun_ok g 10 l2 (ra h7 13 0 l1) l3 h7) sl_X2_125 rfl (Nat.le_of_ble_eq_true rfl) (Nat.le_of_ble_eq_true rfl) dX2_enter_111 rfl (fun x14 h13 => ?_)
      refine s_callVi (s0 := 0) (As := [.int l3, .int x14]) (rest := []) (cX2_numberFor_ok g l3 x14 h13) vl_X2_89 rfl (Nat.le_of_ble_eq_true rfl) (Nat.le_of_ble_eq_true rfl) dX2_enter_114 rfl (fun x16 h15 => ?_)
      refine s_istore (ls' := [(4, .int x16), (0, rv g 0 0), (1, .int l1), (2, .int l2), (3, .int l3)]) dX2_enter_117 (by decide) rfl ?_
      refine s_sub [1, 2, 3, 4, 0] rfl ?_
      exact Hk119_8 x16 h15
set_option maxHeartbeats 4000000 in
set_option maxRecDepth 100000 in
theorem cX2_enter_ok (g : GE) (l1 : Int32) (h : Hp) : Con cvv 0 g mX2_enter 5 [rv g 0 0, .int l1] h (fX2_enter l1 h) := by
  refine Con.of (by decide +kernel) (Nat.le_of_ble_eq_true rfl) ?_
  show Sim cvv 0 g mX2_enter 5 0 [(0, rv g 0 0), (1, .int l1)] [] h _
  unfold fX2_enter
  refine s_iload_n 1 dX2_enter_0 rfl rfl ?_
  refine s_if_lt (tgt := 21) dX2_enter_1 (by decide) ?_ ?_
  ·
    exact s_vret rfl dX2_enter_21
  ·
    refine s_iload_n 1 dX2_enter_4 rfl rfl ?_
    refine s_sipush (v := 2200) dX2_enter_5 rfl ?_
    refine s_icmp_ge (tgt := 21) dX2_enter_8 (by decide) ?_ ?_
    ·
      exact s_vret rfl dX2_enter_21
    ·
      refine s_aload_n 0 dX2_enter_11 rfl rfl ?_
      refine s_geti (s0 := 0) dX2_enter_12 fl_X2_26 ?_
      refine s_sipush (v := 2200) dX2_enter_15 rfl ?_
      refine s_icmp_lt (tgt := 22) dX2_enter_18 (by decide) ?_ ?_
      ·
        refine s_aload_n 0 dX2_enter_22 rfl rfl ?_
        refine s_getr (s0 := 0) dX2_enter_23 fl_X2_58 ?_
        refine s_aload_n 0 dX2_enter_26 rfl rfl ?_
        refine s_geti (s0 := 0) dX2_enter_27 fl_X2_26 ?_
        refine s_iload_n 1 dX2_enter_30 rfl rfl ?_
        refine s_i2s dX2_enter_31 ?_
        refine s_sast (s0 := 0) ka_17 dX2_enter_32 (fun h1 => ?_)
        refine s_aload_n 0 dX2_enter_33 rfl rfl ?_
        refine s_dup dX2_enter_34 rfl ?_
        refine s_geti (s0 := 0) dX2_enter_35 fl_X2_26 ?_
        refine s_iconst (v := 1) dX2_enter_38 rfl ?_
        refine s_iadd dX2_enter_39 ?_
        refine s_puti (s0 := 0) dX2_enter_40 fl_X2_26 (fun h2 => ?_)
        refine s_aload_n 0 dX2_enter_43 rfl rfl ?_
        refine s_getr (s0 := 0) dX2_enter_44 fl_X2_49 ?_
        refine s_iload_n 1 dX2_enter_47 rfl rfl ?_
        refine s_iconst (v := 1) dX2_enter_48 rfl ?_
        refine s_bast (s0 := 0) ka_14 dX2_enter_49 (fun h3 => ?_)
        refine s_aload_n 0 dX2_enter_50 rfl rfl ?_
        refine s_getr (s0 := 0) dX2_enter_51 fl_X2_52 ?_
        refine s_iload_n 1 dX2_enter_54 rfl rfl ?_
        refine s_iconst (v := 0) dX2_enter_55 rfl ?_
        refine s_bast (s0 := 0) ka_15 dX2_enter_56 (fun h4 => ?_)
        refine s_aload_n 0 dX2_enter_57 rfl rfl ?_
        refine s_iload_n 1 dX2_enter_58 rfl rfl ?_
        refine s_callVi (s0 := 0) (As := [.int l1]) (rest := []) (cX2_placeOf_ok g l1 h4) vl_X2_115 rfl (Nat.le_of_ble_eq_true rfl) (Nat.le_of_ble_eq_true rfl) dX2_enter_59 rfl (fun x6 h5 => ?_)
        refine s_istore_n (ls' := [(2, .int x6), (0, rv g 0 0), (1, .int l1)]) dX2_enter_62 rfl (by decide) rfl ?_
        refine s_iconst (v := 0) dX2_enter_63 rfl ?_
        refine s_istore_n (ls' := [(3, .int 0), (2, .int x6), (0, rv g 0 0), (1, .int l1)]) dX2_enter_64 rfl (by decide) rfl ?_
        refine s_sub (ls' := [(0, rv g 0 0), (1, .int l1), (2, .int x6), (3, .int 0)]) [2, 3, 1, 0] rfl ?_
        refine sX2_enter_l65 g l1 x6 _ (fun h17 => ?_) FU 0 h5
        exact s_vret rfl dX2_enter_138
      ·
        exact s_vret rfl dX2_enter_21
def fX2_beatsTo (l1 : Int32) (l2 : Int32) (h : Hp) : Option (Int32 × Hp) :=
  bnd (fX2_placeOf l1 h) fun x2 h1 =>
  ck (ib l2 5) (
  bnd (fX8_way 10 x2 (ra h1 33 10 l2) h1) fun x4 h3 =>
  some (x4 + (1 : Int32), h3))
set_option maxHeartbeats 4000000 in
set_option maxRecDepth 100000 in
theorem cX2_beatsTo_ok (g : GE) (l1 : Int32) (l2 : Int32) (h : Hp) : Con cvi 0 g mX2_beatsTo 4 [rv g 0 0, .int l1, .int l2] h (fX2_beatsTo l1 l2 h) := by
  refine Con.of (by decide +kernel) (Nat.le_of_ble_eq_true rfl) ?_
  show Sim cvi 0 g mX2_beatsTo 4 0 [(0, rv g 0 0), (1, .int l1), (2, .int l2)] [] h _
  unfold fX2_beatsTo
  refine s_aload_n 0 dX2_beatsTo_0 rfl rfl ?_
  refine s_getr (s0 := 0) dX2_beatsTo_1 fl_X2_12 ?_
  refine s_aload_n 0 dX2_beatsTo_4 rfl rfl ?_
  refine s_iload_n 1 dX2_beatsTo_5 rfl rfl ?_
  refine s_callVi (s0 := 0) (As := [.int l1]) (rest := [rv g 6 10]) (cX2_placeOf_ok g l1 h) vl_X2_115 rfl (Nat.le_of_ble_eq_true rfl) (Nat.le_of_ble_eq_true rfl) dX2_beatsTo_6 rfl (fun x2 h1 => ?_)
  refine s_aload_n 0 dX2_beatsTo_9 rfl rfl ?_
  refine s_getr (s0 := 0) dX2_beatsTo_10 fl_X2_12 ?_
  refine s_getr1 (k2 := 33) (s0 := 10) rfl dX2_beatsTo_13 fl_X2_132 ?_
  refine s_iload_n 2 dX2_beatsTo_16 rfl rfl ?_
  refine s_iald (s0 := 10) ka_33 dX2_beatsTo_17 ?_
  refine s_callVi (s0 := 10) (As := [.int x2, .int (ra h1 33 10 l2)]) (rest := []) (cX8_way_ok g 10 x2 (ra h1 33 10 l2) h1) vl_X2_139 rfl (Nat.le_of_ble_eq_true rfl) (Nat.le_of_ble_eq_true rfl) dX2_beatsTo_18 rfl (fun x4 h3 => ?_)
  refine s_iconst (v := 1) dX2_beatsTo_21 rfl ?_
  refine s_iadd dX2_beatsTo_22 ?_
  exact s_iret rfl dX2_beatsTo_23
def fX2_followerOf (l1 : Int32) (l2 : Int32) (h : Hp) : Option (Int32 × Hp) :=
  lt ((l1 * (5 : Int32)) + l2) fun x1 =>
  bnd (fX8_has 10 l2 h) fun x3 h2 =>
  jn (κ := Hp → Option (Int32 × Hp)) (fun h5 => some ((-1), h5)) fun k39_3 =>
  if x3 = 0 then (k39_3 h2)
  else (if x1 < 0 then (k39_3 h2)
  else (if (11000 : Int32) ≤ x1 then (k39_3 h2)
  else (ck (ib x1 11000) (
  some (ra h2 18 0 x1, h2)))))
set_option maxHeartbeats 4000000 in
set_option maxRecDepth 100000 in
theorem cX2_followerOf_ok (g : GE) (l1 : Int32) (l2 : Int32) (h : Hp) : Con cvi 0 g mX2_followerOf 3 [rv g 0 0, .int l1, .int l2] h (fX2_followerOf l1 l2 h) := by
  refine Con.of (by decide +kernel) (Nat.le_of_ble_eq_true rfl) ?_
  show Sim cvi 0 g mX2_followerOf 3 0 [(0, rv g 0 0), (1, .int l1), (2, .int l2)] [] h _
  unfold fX2_followerOf
  refine s_iload_n 1 dX2_followerOf_0 rfl rfl ?_
  refine s_iconst (v := 5) dX2_followerOf_1 rfl ?_
  refine s_imul dX2_followerOf_2 ?_
  refine s_iload_n 2 dX2_followerOf_3 rfl rfl ?_
  refine s_iadd dX2_followerOf_4 ?_
  refine s_leti (fun x1 => ?_)
  refine s_istore_n (ls' := [(3, .int x1), (0, rv g 0 0), (1, .int l1), (2, .int l2)]) dX2_followerOf_5 rfl (by decide) rfl ?_
  refine s_aload_n 1 dX2_followerOf_6 rfl rfl ?_
  refine s_getr (s0 := 0) dX2_followerOf_7 fl_X2_12 ?_
  refine s_iload_n 3 dX2_followerOf_10 rfl rfl ?_
  refine s_callVi (s0 := 10) (As := [.int l2]) (rest := []) (cX8_has_ok g 10 l2 h) vl_X2_129 rfl (Nat.le_of_ble_eq_true rfl) (Nat.le_of_ble_eq_true rfl) dX2_followerOf_11 rfl (fun x3 h2 => ?_)
  refine s_jn (fun (k39_3 : Hp → Option (Int32 × Hp)) => ∀ (h5 : Hp), Sim cvi 0 g mX2_followerOf 3 39 [] [] h5 (k39_3 h5)) (fun h5 => ?_) (fun k39_3 Hk39_3 => ?_)
  ·
    refine s_iconst (v := (-1)) dX2_followerOf_39 rfl ?_
    exact s_iret rfl dX2_followerOf_40
  refine s_if_eq (tgt := 39) dX2_followerOf_14 (by decide) ?_ ?_
  ·
    refine s_sub [] rfl ?_
    exact Hk39_3 h2
  ·
    refine s_iload_n 0 dX2_followerOf_17 rfl rfl ?_
    refine s_if_lt (tgt := 39) dX2_followerOf_18 (by decide) ?_ ?_
    ·
      refine s_sub [] rfl ?_
      exact Hk39_3 h2
    ·
      refine s_iload_n 0 dX2_followerOf_21 rfl rfl ?_
      refine s_aload_n 1 dX2_followerOf_22 rfl rfl ?_
      refine s_getr (s0 := 0) dX2_followerOf_23 fl_X2_61 ?_
      refine s_alen2 (v := 11000) ka_18 rfl dX2_followerOf_26 ?_
      refine s_icmp_ge (tgt := 39) dX2_followerOf_27 (by decide) ?_ ?_
      ·
        refine s_sub [] rfl ?_
        exact Hk39_3 h2
      ·
        refine s_aload_n 1 dX2_followerOf_30 rfl rfl ?_
        refine s_getr (s0 := 0) dX2_followerOf_31 fl_X2_61 ?_
        refine s_iload_n 0 dX2_followerOf_34 rfl rfl ?_
        refine s_sald (s0 := 0) ka_18 dX2_followerOf_35 ?_
        refine s_goto (tgt := 40) dX2_followerOf_36 (by decide) ?_
        exact s_iret rfl dX2_followerOf_40
