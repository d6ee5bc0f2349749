def fX0_leftOf (l0 : Int32) (l1 : Int32) (h : Hp) : Option (Int32 × Hp) :=
  some ((l0 >>> (((3 : Int32) * l1) &&& 31)) &&& (7 : Int32), h)
set_option maxHeartbeats 4000000 in
set_option maxRecDepth 100000 in
theorem cX0_leftOf_ok (g : GE) (l0 : Int32) (l1 : Int32) (h : Hp) : Con cvi 0 g mX0_leftOf 2 [.int l0, .int l1] h (fX0_leftOf l0 l1 h) := by
  refine Con.of (by decide +kernel) (Nat.le_of_ble_eq_true rfl) ?_
  show Sim cvi 0 g mX0_leftOf 2 0 [(0, .int l0), (1, .int l1)] [] h _
  unfold fX0_leftOf
  refine s_iload_n 0 dX0_leftOf_0 rfl rfl ?_
  refine s_iconst (v := 3) dX0_leftOf_1 rfl ?_
  refine s_iload_n 1 dX0_leftOf_2 rfl rfl ?_
  refine s_imul dX0_leftOf_3 ?_
  refine s_ishr dX0_leftOf_4 ?_
  refine s_bipush (v := 7) dX0_leftOf_5 rfl ?_
  refine s_iand dX0_leftOf_7 ?_
  exact s_iret rfl dX0_leftOf_8
def fX0_with (l0 : Int32) (l1 : Int32) (l2 : Int32) (h : Hp) : Option (Int32 × Hp) :=
  some ((l0 &&& (((7 : Int32) <<< (((3 : Int32) * l1) &&& 31)) ^^^ (-1 : Int32))) ||| (l2 <<< (((3 : Int32) * l1) &&& 31)), h)
set_option maxHeartbeats 4000000 in
set_option maxRecDepth 100000 in
theorem cX0_with_ok (g : GE) (l0 : Int32) (l1 : Int32) (l2 : Int32) (h : Hp) : Con cvi 0 g mX0_with 2 [.int l0, .int l1, .int l2] h (fX0_with l0 l1 l2 h) := by
  refine Con.of (by decide +kernel) (Nat.le_of_ble_eq_true rfl) ?_
  show Sim cvi 0 g mX0_with 2 0 [(0, .int l0), (1, .int l1), (2, .int l2)] [] h _
  unfold fX0_with
  refine s_iload_n 0 dX0_with_0 rfl rfl ?_
  refine s_bipush (v := 7) dX0_with_1 rfl ?_
  refine s_iconst (v := 3) dX0_with_3 rfl ?_
  refine s_iload_n 1 dX0_with_4 rfl rfl ?_
  refine s_imul dX0_with_5 ?_
  refine s_ishl dX0_with_6 ?_
  refine s_iconst (v := (-1)) dX0_with_7 rfl ?_
  refine s_ixor dX0_with_8 ?_
  refine s_iand dX0_with_9 ?_
  refine s_iload_n 2 dX0_with_10 rfl rfl ?_
  refine s_iconst (v := 3) dX0_with_11 rfl ?_
  refine s_iload_n 1 dX0_with_12 rfl rfl ?_
  refine s_imul dX0_with_13 ?_
  refine s_ishl dX0_with_14 ?_
  refine s_ior dX0_with_15 ?_
  exact s_iret rfl dX0_with_16
def fX0_passed_l4 (l0 : Int32) (l1 : Int32) (K : Int32 → Hp → Option (Int32 × Hp)) (rec : Int32 → Int32 → Hp → Option (Int32 × Hp)) (l2 l3 : Int32) (h : Hp) : Option (Int32 × Hp) :=
  if (5 : Int32) ≤ l3 then (K l2 h)
  else (bnd (fX0_leftOf l0 l3 h) fun x2 h1 =>
  lt (if 0 < (x2 - l1) then (x2 - l1) else 0) fun x3 =>
  lt (l2 ||| (x3 <<< (((3 : Int32) * l3) &&& 31))) fun x4 =>
  lt (l3 + 1) fun x5 =>
  rec x4 x5 h1)
def fX0_passed (l0 : Int32) (l1 : Int32) (h : Hp) : Option (Int32 × Hp) :=
  itr2 (fX0_passed_l4 l0 l1 (fun y6 h7 => some (y6, h7))) FU 0 0 h
set_option maxHeartbeats 4000000 in
set_option maxRecDepth 100000 in
theorem sX0_passed_l4 (g : GE) (l0 : Int32) (l1 : Int32) (K : Int32 → Hp → Option (Int32 × Hp)) (hK : ∀ (y2 : Int32) (h : Hp), Sim cvi 0 g mX0_passed 3 33 [(2, .int y2)] [] h (K y2 h)) : ∀ (n : Nat) (l2 l3 : Int32) (h : Hp), Sim cvi 0 g mX0_passed 3 4 [(0, .int l0), (1, .int l1), (2, .int l2), (3, .int l3)] [] h (itr2 (fX0_passed_l4 l0 l1 K) n l2 l3 h) := by
  refine s_itr2 (fun l2 l3 h o => Sim cvi 0 g mX0_passed 3 4 [(0, .int l0), (1, .int l1), (2, .int l2), (3, .int l3)] [] h o) (fun _ _ _ => s_none) ?_
  intro rec hrec l2 l3 h
  unfold fX0_passed_l4
  refine s_iload_n 3 dX0_passed_4 rfl rfl ?_
  refine s_iconst (v := 5) dX0_passed_5 rfl ?_
  refine s_icmp_ge (tgt := 33) dX0_passed_6 (by decide) ?_ ?_
  ·
    refine s_sub [2] rfl ?_
    exact hK l2 h
  ·
    refine s_iload_n 2 dX0_passed_9 rfl rfl ?_
    refine s_iconst (v := 0) dX0_passed_10 rfl ?_
    refine s_iload_n 0 dX0_passed_11 rfl rfl ?_
    refine s_iload_n 3 dX0_passed_12 rfl rfl ?_
    refine s_callSi (As := [.int l0, .int l3]) (rest := [.int 0, .int l2]) (cX0_leftOf_ok g l0 l3 h) sl_X0_9 rfl (Nat.le_of_ble_eq_true rfl) (Nat.le_of_ble_eq_true rfl) dX0_passed_13 rfl (fun x2 h1 => ?_)
    refine s_iload_n 1 dX0_passed_16 rfl rfl ?_
    refine s_isub dX0_passed_17 ?_
    refine s_mmax w_4_72 mw_max (Nat.le_of_ble_eq_true rfl) (Nat.le_of_ble_eq_true rfl) dX0_passed_18 ?_
    refine s_leti (fun x3 => ?_)
    refine s_iconst (v := 3) dX0_passed_21 rfl ?_
    refine s_iload_n 3 dX0_passed_22 rfl rfl ?_
    refine s_imul dX0_passed_23 ?_
    refine s_ishl dX0_passed_24 ?_
    refine s_ior dX0_passed_25 ?_
    refine s_leti (fun x4 => ?_)
    refine s_istore_n (ls' := [(2, .int x4), (0, .int l0), (1, .int l1), (3, .int l3)]) dX0_passed_26 rfl (by decide) rfl ?_
    refine s_iincl 3 (w := 1) (fun x5 => [(3, .int x5), (2, .int x4), (0, .int l0), (1, .int l1)]) dX0_passed_27 rfl rfl (by decide) (fun _ => rfl) (fun x5 => ?_)
    refine s_goto (tgt := 4) dX0_passed_30 (by decide) ?_
    refine s_sub [2, 3, 1, 0] rfl ?_
    exact hrec x4 x5 h1
set_option maxHeartbeats 4000000 in
set_option maxRecDepth 100000 in
theorem cX0_passed_ok (g : GE) (l0 : Int32) (l1 : Int32) (h : Hp) : Con cvi 0 g mX0_passed 3 [.int l0, .int l1] h (fX0_passed l0 l1 h) := by
  refine Con.of (by decide +kernel) (Nat.le_of_ble_eq_true rfl) ?_
  show Sim cvi 0 g mX0_passed 3 0 [(0, .int l0), (1, .int l1)] [] h _
  unfold fX0_passed
  refine s_iconst (v := 0) dX0_passed_0 rfl ?_
  refine s_istore_n (ls' := [(2, .int 0), (0, .int l0), (1, .int l1)]) dX0_passed_1 rfl (by decide) rfl ?_
  refine s_iconst (v := 0) dX0_passed_2 rfl ?_
  refine s_istore_n (ls' := [(3, .int 0), (2, .int 0), (0, .int l0), (1, .int l1)]) dX0_passed_3 rfl (by decide) rfl ?_
  refine s_sub (ls' := [(0, .int l0), (1, .int l1), (2, .int 0), (3, .int 0)]) [2, 3, 1, 0] rfl ?_
  refine sX0_passed_l4 g l0 l1 _ (fun y6 h7 => ?_) FU 0 0 h
  refine s_iload_n 0 dX0_passed_33 rfl rfl ?_
  exact s_iret rfl dX0_passed_34
def fX8_has (a0 : Nat) (l1 : Int32) (h : Hp) : Option (Int32 × Hp) :=
  jn (κ := Hp → Option (Int32 × Hp)) (fun h2 => ck (zk 0) (some (0, h2))) fun k16_0 =>
  if l1 < 0 then (k16_0 h)
  else (if (rd h 6 a0 2) ≤ l1 then (k16_0 h)
  else (ck (zk 1) (some (1, h))))
set_option maxHeartbeats 4000000 in
set_option maxRecDepth 100000 in
theorem cX8_has_ok (g : GE) (a0 : Nat) (l1 : Int32) (h : Hp) : Con cvi 0 g mX8_has 2 [rv g 6 a0, .int l1] h (fX8_has a0 l1 h) := by
  refine Con.of (by decide +kernel) (Nat.le_of_ble_eq_true rfl) ?_
  show Sim cvi 0 g mX8_has 2 0 [(0, rv g 6 a0), (1, .int l1)] [] h _
  unfold fX8_has
  refine s_iload_n 1 dX8_has_0 rfl rfl ?_
  refine s_jn (fun (k16_0 : Hp → Option (Int32 × Hp)) => ∀ (h2 : Hp), Sim cvi 0 g mX8_has 2 16 [] [] h2 (k16_0 h2)) (fun h2 => ?_) (fun k16_0 Hk16_0 => ?_)
  ·
    refine s_iconst (v := 0) dX8_has_16 rfl ?_
    exact s_zret rfl dX8_has_17
  refine s_if_lt (tgt := 16) dX8_has_1 (by decide) ?_ ?_
  ·
    refine s_sub [] rfl ?_
    exact Hk16_0 h
  ·
    refine s_iload_n 1 dX8_has_4 rfl rfl ?_
    refine s_aload_n 0 dX8_has_5 rfl rfl ?_
    refine s_geti (s0 := a0) dX8_has_6 fl_X8_18 ?_
    refine s_icmp_ge (tgt := 16) dX8_has_9 (by decide) ?_ ?_
    ·
      refine s_sub [] rfl ?_
      exact Hk16_0 h
    ·
      refine s_iconst (v := 1) dX8_has_12 rfl ?_
      refine s_goto (tgt := 17) dX8_has_13 (by decide) ?_
      exact s_zret rfl dX8_has_17
def fX8_way (a0 : Nat) (l1 : Int32) (l2 : Int32) (h : Hp) : Option (Int32 × Hp) :=
  lt (if 1 < (rd h 6 a0 0) then (rd h 6 a0 0) else 1) fun x1 =>
  lt (if 0 ≤ (l1 - l2) then (l1 - l2) else 0 - (l1 - l2)) fun x2 =>
  ck (!decide (x1 = 0)) (
  some (((x2 + x1) - (1 : Int32)) / x1, h))
set_option maxHeartbeats 4000000 in
set_option maxRecDepth 100000 in
theorem cX8_way_ok (g : GE) (a0 : Nat) (l1 : Int32) (l2 : Int32) (h : Hp) : Con cvi 0 g mX8_way 2 [rv g 6 a0, .int l1, .int l2] h (fX8_way a0 l1 l2 h) := by
  refine Con.of (by decide +kernel) (Nat.le_of_ble_eq_true rfl) ?_
  show Sim cvi 0 g mX8_way 2 0 [(0, rv g 6 a0), (1, .int l1), (2, .int l2)] [] h _
  unfold fX8_way
  refine s_iconst (v := 1) dX8_way_0 rfl ?_
  refine s_aload_n 0 dX8_way_1 rfl rfl ?_
  refine s_geti (s0 := a0) dX8_way_2 fl_X8_9 ?_
  refine s_mmax w_3_208 mw_max (Nat.le_of_ble_eq_true rfl) (Nat.le_of_ble_eq_true rfl) dX8_way_5 ?_
  refine s_leti (fun x1 => ?_)
  refine s_istore_n (ls' := [(3, .int x1), (0, rv g 6 a0), (1, .int l1), (2, .int l2)]) dX8_way_8 rfl (by decide) rfl ?_
  refine s_iload_n 2 dX8_way_9 rfl rfl ?_
  refine s_iload_n 3 dX8_way_10 rfl rfl ?_
  refine s_isub dX8_way_11 ?_
  refine s_mabs w_3_211 mw_abs (Nat.le_of_ble_eq_true rfl) (Nat.le_of_ble_eq_true rfl) dX8_way_12 ?_
  refine s_leti (fun x2 => ?_)
  refine s_iload_n 0 dX8_way_15 rfl rfl ?_
  refine s_iadd dX8_way_16 ?_
  refine s_iconst (v := 1) dX8_way_17 rfl ?_
  refine s_isub dX8_way_18 ?_
  refine s_iload_n 0 dX8_way_19 rfl rfl ?_
  refine s_idiv dX8_way_20 ?_
  exact s_iret rfl dX8_way_21
def fX8_span_l25 (a0 : Nat) (K : Int32 → Int32 → Hp → Option (Int32 × Hp)) (rec : Int32 → Int32 → Int32 → Hp → Option (Int32 × Hp)) (l1 l2 l3 : Int32) (h : Hp) : Option (Int32 × Hp) :=
  if (rd h 6 a0 2) ≤ l3 then (K l1 l2 h)
  else (ck (ib l3 5) (
  lt (if (ra h 33 a0 l3) < l1 then (ra h 33 a0 l3) else l1) fun x3 =>
  ck (ib l3 5) (
  lt (if l2 < (ra h 33 a0 l3) then (ra h 33 a0 l3) else l2) fun x4 =>
  lt (l3 + 1) fun x5 =>
  rec x3 x4 x5 h)))
def fX8_span (a0 : Nat) (h : Hp) : Option (Int32 × Hp) :=
  if (rd h 6 a0 2) = 0 then (some (0, h))
  else (ck (ib 0 5) (
  lt (ra h 33 a0 0) fun x1 =>
  ck (ib 0 5) (
  lt (ra h 33 a0 0) fun x2 =>
  itr3 (fX8_span_l25 a0 (fun y6 y7 h8 => some (y7 - y6, h8))) FU x1 x2 1 h)))
set_option maxHeartbeats 4000000 in
set_option maxRecDepth 100000 in
theorem sX8_span_l25 (g : GE) (a0 : Nat) (K : Int32 → Int32 → Hp → Option (Int32 × Hp)) (hK : ∀ (y1 y2 : Int32) (h : Hp), Sim cvi 0 g mX8_span 2 61 [(1, .int y1), (2, .int y2)] [] h (K y1 y2 h)) : ∀ (n : Nat) (l1 l2 l3 : Int32) (h : Hp), Sim cvi 0 g mX8_span 2 25 [(0, rv g 6 a0), (1, .int l1), (2, .int l2), (3, .int l3)] [] h (itr3 (fX8_span_l25 a0 K) n l1 l2 l3 h) := by
  refine s_itr3 (fun l1 l2 l3 h o => Sim cvi 0 g mX8_span 2 25 [(0, rv g 6 a0), (1, .int l1), (2, .int l2), (3, .int l3)] [] h o) (fun _ _ _ _ => s_none) ?_
  intro rec hrec l1 l2 l3 h
  unfold fX8_span_l25
  refine s_iload_n 3 dX8_span_25 rfl rfl ?_
  refine s_aload_n 0 dX8_span_26 rfl rfl ?_
  refine s_geti (s0 := a0) dX8_span_27 fl_X8_18 ?_
  refine s_icmp_ge (tgt := 61) dX8_span_30 (by decide) ?_ ?_
  ·
    refine s_sub [1, 2] rfl ?_
    exact hK l1 l2 h
  ·
    refine s_iload_n 1 dX8_span_33 rfl rfl ?_
    refine s_aload_n 0 dX8_span_34 rfl rfl ?_
    refine s_getr1 (s0 := a0) rfl dX8_span_35 fl_X8_21 ?_
    refine s_iload_n 3 dX8_span_38 rfl rfl ?_
    refine s_iald (s0 := a0) ka_33 dX8_span_39 ?_
    refine s_mmin w_5_97 mw_min (Nat.le_of_ble_eq_true rfl) (Nat.le_of_ble_eq_true rfl) dX8_span_40 ?_
    refine s_leti (fun x3 => ?_)
    refine s_istore_n (ls' := [(1, .int x3), (0, rv g 6 a0), (2, .int l2), (3, .int l3)]) dX8_span_43 rfl (by decide) rfl ?_
    refine s_iload_n 2 dX8_span_44 rfl rfl ?_
    refine s_aload_n 1 dX8_span_45 rfl rfl ?_
    refine s_getr1 (s0 := a0) rfl dX8_span_46 fl_X8_21 ?_
    refine s_iload_n 3 dX8_span_49 rfl rfl ?_
    refine s_iald (s0 := a0) ka_33 dX8_span_50 ?_
    refine s_mmax w_3_208 mw_max (Nat.le_of_ble_eq_true rfl) (Nat.le_of_ble_eq_true rfl) dX8_span_51 ?_
    refine s_leti (fun x4 => ?_)
    refine s_istore_n (ls' := [(2, .int x4), (1, .int x3), (0, rv g 6 a0), (3, .int l3)]) dX8_span_54 rfl (by decide) rfl ?_
    refine s_iincl 3 (w := 1) (fun x5 => [(3, .int x5), (2, .int x4), (1, .int x3), (0, rv g 6 a0)]) dX8_span_55 rfl rfl (by decide) (fun _ => rfl) (fun x5 => ?_)
    refine s_goto (tgt := 25) dX8_span_58 (by decide) ?_
    refine s_sub [3, 2, 1, 0] rfl ?_
    exact hrec x3 x4 x5 h
set_option maxHeartbeats 4000000 in
set_option maxRecDepth 100000 in
theorem cX8_span_ok (g : GE) (a0 : Nat) (h : Hp) : Con cvi 0 g mX8_span 2 [rv g 6 a0] h (fX8_span a0 h) := by
  refine Con.of (by decide +kernel) (Nat.le_of_ble_eq_true rfl) ?_
  show Sim cvi 0 g mX8_span 2 0 [(0, rv g 6 a0)] [] h _
  unfold fX8_span
  refine s_aload_n 0 dX8_span_0 rfl rfl ?_
  refine s_geti (s0 := a0) dX8_span_1 fl_X8_18 ?_
  refine s_if_ne (tgt := 9) dX8_span_4 (by decide) ?_ ?_
  ·
    refine s_iconst (v := 0) dX8_span_7 rfl ?_
    exact s_iret rfl dX8_span_8
  ·
    refine s_aload_n 0 dX8_span_9 rfl rfl ?_
    refine s_getr1 (s0 := a0) rfl dX8_span_10 fl_X8_21 ?_
    refine s_iconst (v := 0) dX8_span_13 rfl ?_
    refine s_iald (s0 := a0) ka_33 dX8_span_14 ?_
    refine s_leti (fun x1 => ?_)
    refine s_istore_n (ls' := [(1, .int x1), (0, rv g 6 a0)]) dX8_span_15 rfl (by decide) rfl ?_
    refine s_aload_n 1 dX8_span_16 rfl rfl ?_
    refine s_getr1 (s0 := a0) rfl dX8_span_17 fl_X8_21 ?_
    refine s_iconst (v := 0) dX8_span_20 rfl ?_
    refine s_iald (s0 := a0) ka_33 dX8_span_21 ?_
    refine s_leti (fun x2 => ?_)
    refine s_istore_n (ls' := [(2, .int x2), (1, .int x1), (0, rv g 6 a0)]) dX8_span_22 rfl (by decide) rfl ?_
    refine s_iconst (v := 1) dX8_span_23 rfl ?_
    refine s_istore_n (ls' := [(3, .int 1), (2, .int x2), (1, .int x1), (0, rv g 6 a0)]) dX8_span_24 rfl (by decide) rfl ?_
    refine s_sub (ls' := [(0, rv g 6 a0), (1, .int x1), (2, .int x2), (3, .int 1)]) [3, 2, 1, 0] rfl ?_
    refine sX8_span_l25 g a0 _ (fun y6 y7 h8 => ?_) FU x1 x2 1 h
    refine s_iload_n 1 dX8_span_61 rfl rfl ?_
    refine s_iload_n 0 dX8_span_62 rfl rfl ?_
    refine s_isub dX8_span_63 ?_
    exact s_iret rfl dX8_span_64
def fX8_falling_l2 (a0 : Nat) (l1 : Int32) (K : Hp → Option (Int32 × Hp)) (rec : Int32 → Hp → Option (Int32 × Hp)) (l2 : Int32) (h : Hp) : Option (Int32 × Hp) :=
  if (rd h 6 a0 2) ≤ l2 then (K h)
  else (bnd (fX8_fallsBefore a0 l2 h) fun x2 h1 =>
  if x2 = l1 then (some (l2, h1))
  else (lt (l2 + 1) fun x3 =>
  rec x3 h1))
def fX8_falling (a0 : Nat) (l1 : Int32) (h : Hp) : Option (Int32 × Hp) :=
  itr1 (fX8_falling_l2 a0 l1 (fun h4 => some ((-1), h4))) FU 0 h
set_option maxHeartbeats 4000000 in
set_option maxRecDepth 100000 in
theorem sX8_falling_l2 (g : GE) (a0 : Nat) (l1 : Int32) (K : Hp → Option (Int32 × Hp)) (hK : ∀ (h : Hp), Sim cvi 0 g mX8_falling 3 27 [] [] h (K  h)) : ∀ (n : Nat) (l2 : Int32) (h : Hp), Sim cvi 0 g mX8_falling 3 2 [(0, rv g 6 a0), (1, .int l1), (2, .int l2)] [] h (itr1 (fX8_falling_l2 a0 l1 K) n l2 h) := by
  refine s_itr1 (fun l2 h o => Sim cvi 0 g mX8_falling 3 2 [(0, rv g 6 a0), (1, .int l1), (2, .int l2)] [] h o) (fun _ _ => s_none) ?_
  intro rec hrec l2 h
  unfold fX8_falling_l2
  refine s_iload_n 2 dX8_falling_2 rfl rfl ?_
  refine s_aload_n 0 dX8_falling_3 rfl rfl ?_
  refine s_geti (s0 := a0) dX8_falling_4 fl_X8_18 ?_
  refine s_icmp_ge (tgt := 27) dX8_falling_7 (by decide) ?_ ?_
  ·
    refine s_sub [] rfl ?_
    exact hK h
  ·
    refine s_aload_n 0 dX8_falling_10 rfl rfl ?_
    refine s_iload_n 2 dX8_falling_11 rfl rfl ?_
    refine s_callVi (s0 := a0) (As := [.int l2]) (rest := []) (cX8_fallsBefore_ok g a0 l2 h) vl_X8_73 rfl (Nat.le_of_ble_eq_true rfl) (Nat.le_of_ble_eq_true rfl) dX8_falling_12 rfl (fun x2 h1 => ?_)
    refine s_iload_n 1 dX8_falling_15 rfl rfl ?_
    refine s_icmp_ne (tgt := 21) dX8_falling_16 (by decide) ?_ ?_
    ·
      refine s_iload_n 2 dX8_falling_19 rfl rfl ?_
      exact s_iret rfl dX8_falling_20
    ·
      refine s_iincl 2 (w := 1) (fun x3 => [(2, .int x3), (0, rv g 6 a0), (1, .int l1)]) dX8_falling_21 rfl rfl (by decide) (fun _ => rfl) (fun x3 => ?_)
      refine s_goto (tgt := 2) dX8_falling_24 (by decide) ?_
      refine s_sub [1, 2, 0] rfl ?_
      exact hrec x3 h1
set_option maxHeartbeats 4000000 in
set_option maxRecDepth 100000 in
theorem cX8_falling_ok (g : GE) (a0 : Nat) (l1 : Int32) (h : Hp) : Con cvi 0 g mX8_falling 3 [rv g 6 a0, .int l1] h (fX8_falling a0 l1 h) := by
  refine Con.of (by decide +kernel) (Nat.le_of_ble_eq_true rfl) ?_
  show Sim cvi 0 g mX8_falling 3 0 [(0, rv g 6 a0), (1, .int l1)] [] h _
  unfold fX8_falling
  refine s_iconst (v := 0) dX8_falling_0 rfl ?_
  refine s_istore_n (ls' := [(2, .int 0), (0, rv g 6 a0), (1, .int l1)]) dX8_falling_1 rfl (by decide) rfl ?_
  refine s_sub (ls' := [(0, rv g 6 a0), (1, .int l1), (2, .int 0)]) [1, 2, 0] rfl ?_
  refine sX8_falling_l2 g a0 l1 _ (fun h4 => ?_) FU 0 h
  refine s_iconst (v := (-1)) dX8_falling_27 rfl ?_
  exact s_iret rfl dX8_falling_28
def fX8_fallsBefore_l4 (a0 : Nat) (l1 : Int32) (K : Int32 → Hp → Option (Int32 × Hp)) (rec : Int32 → Int32 → Hp → Option (Int32 × Hp)) (l2 l3 : Int32) (h : Hp) : Option (Int32 × Hp) :=
  if (rd h 6 a0 2) ≤ l3 then (K l2 h)
  else (ck (ib l3 5) (
  ck (ib l1 5) (
  jn (κ := Int32 → Hp → Option (Int32 × Hp)) (fun y2_0 h2 => lt (l3 + 1) fun x3 =>
  rec y2_0 x3 h2) fun k50_0 =>
  jn (κ := Hp → Option (Int32 × Hp)) (fun h5 => lt (l2 + 1) fun x6 =>
  k50_0 x6 h5) fun k47_3 =>
  if (ra h 35 a0 l3) < (ra h 35 a0 l1) then (k47_3 h)
  else (ck (ib l3 5) (
  ck (ib l1 5) (
  if (ra h 35 a0 l3) = (ra h 35 a0 l1) then (if l1 ≤ l3 then (k50_0 l2 h)
  else (k47_3 h))
  else (k50_0 l2 h)))))))
def fX8_fallsBefore (a0 : Nat) (l1 : Int32) (h : Hp) : Option (Int32 × Hp) :=
  itr2 (fX8_fallsBefore_l4 a0 l1 (fun y7 h8 => some (y7, h8))) FU 0 0 h
set_option maxHeartbeats 4000000 in
set_option maxRecDepth 100000 in
theorem sX8_fallsBefore_l4 (g : GE) (a0 : Nat) (l1 : Int32) (K : Int32 → Hp → Option (Int32 × Hp)) (hK : ∀ (y2 : Int32) (h : Hp), Sim cvi 0 g mX8_fallsBefore 2 56 [(2, .int y2)] [] h (K y2 h)) : ∀ (n : Nat) (l2 l3 : Int32) (h : Hp), Sim cvi 0 g mX8_fallsBefore 2 4 [(0, rv g 6 a0), (1, .int l1), (2, .int l2), (3, .int l3)] [] h (itr2 (fX8_fallsBefore_l4 a0 l1 K) n l2 l3 h) := by
  refine s_itr2 (fun l2 l3 h o => Sim cvi 0 g mX8_fallsBefore 2 4 [(0, rv g 6 a0), (1, .int l1), (2, .int l2), (3, .int l3)] [] h o) (fun _ _ _ => s_none) ?_
  intro rec hrec l2 l3 h
  unfold fX8_fallsBefore_l4
  refine s_iload_n 3 dX8_fallsBefore_4 rfl rfl ?_
  refine s_aload_n 0 dX8_fallsBefore_5 rfl rfl ?_
  refine s_geti (s0 := a0) dX8_fallsBefore_6 fl_X8_18 ?_
  refine s_icmp_ge (tgt := 56) dX8_fallsBefore_9 (by decide) ?_ ?_
  ·
    refine s_sub [2] rfl ?_
    exact hK l2 h
  ·
    refine s_aload_n 0 dX8_fallsBefore_12 rfl rfl ?_
    refine s_getr1 (s0 := a0) rfl dX8_fallsBefore_13 fl_X8_28 ?_
    refine s_iload_n 3 dX8_fallsBefore_16 rfl rfl ?_
    refine s_iald (s0 := a0) ka_35 dX8_fallsBefore_17 ?_
    refine s_aload_n 0 dX8_fallsBefore_18 rfl rfl ?_
    refine s_getr1 (s0 := a0) rfl dX8_fallsBefore_19 fl_X8_28 ?_
    refine s_iload_n 1 dX8_fallsBefore_22 rfl rfl ?_
    refine s_iald (s0 := a0) ka_35 dX8_fallsBefore_23 ?_
    refine s_jn (fun (k50_0 : Int32 → Hp → Option (Int32 × Hp)) => ∀ (y2_0 : Int32) (h2 : Hp), Sim cvi 0 g mX8_fallsBefore 2 50 [(0, rv g 6 a0), (1, .int l1), (2, .int y2_0), (3, .int l3)] [] h2 (k50_0 y2_0 h2)) (fun y2_0 h2 => ?_) (fun k50_0 Hk50_0 => ?_)
    ·
      refine s_iincl 3 (w := 1) (fun x3 => [(3, .int x3), (0, rv g 6 a0), (1, .int l1), (2, .int y2_0)]) dX8_fallsBefore_50 rfl rfl (by decide) (fun _ => rfl) (fun x3 => ?_)
      refine s_goto (tgt := 4) dX8_fallsBefore_53 (by decide) ?_
      refine s_sub [1, 2, 3, 0] rfl ?_
      exact hrec y2_0 x3 h2
    refine s_jn (fun (k47_3 : Hp → Option (Int32 × Hp)) => ∀ (h5 : Hp), Sim cvi 0 g mX8_fallsBefore 2 47 [(0, rv g 6 a0), (1, .int l1), (2, .int l2), (3, .int l3)] [] h5 (k47_3 h5)) (fun h5 => ?_) (fun k47_3 Hk47_3 => ?_)
    ·
      refine s_iincl 2 (w := 1) (fun x6 => [(2, .int x6), (0, rv g 6 a0), (1, .int l1), (3, .int l3)]) dX8_fallsBefore_47 rfl rfl (by decide) (fun _ => rfl) (fun x6 => ?_)
      refine s_sub [1, 2, 0, 3] rfl ?_
      exact Hk50_0 x6 h5
    refine s_icmp_lt (tgt := 47) dX8_fallsBefore_24 (by decide) ?_ ?_
    ·
      exact Hk47_3 h
    ·
      refine s_aload_n 0 dX8_fallsBefore_27 rfl rfl ?_
      refine s_getr1 (s0 := a0) rfl dX8_fallsBefore_28 fl_X8_28 ?_
      refine s_iload_n 3 dX8_fallsBefore_31 rfl rfl ?_
      refine s_iald (s0 := a0) ka_35 dX8_fallsBefore_32 ?_
      refine s_aload_n 0 dX8_fallsBefore_33 rfl rfl ?_
      refine s_getr1 (s0 := a0) rfl dX8_fallsBefore_34 fl_X8_28 ?_
      refine s_iload_n 1 dX8_fallsBefore_37 rfl rfl ?_
      refine s_iald (s0 := a0) ka_35 dX8_fallsBefore_38 ?_
      refine s_icmp_ne (tgt := 50) dX8_fallsBefore_39 (by decide) ?_ ?_
      ·
        refine s_iload_n 3 dX8_fallsBefore_42 rfl rfl ?_
        refine s_iload_n 1 dX8_fallsBefore_43 rfl rfl ?_
        refine s_icmp_ge (tgt := 50) dX8_fallsBefore_44 (by decide) ?_ ?_
        ·
          exact Hk50_0 l2 h
        ·
          exact Hk47_3 h
      ·
        exact Hk50_0 l2 h
set_option maxHeartbeats 4000000 in
set_option maxRecDepth 100000 in
theorem cX8_fallsBefore_ok (g : GE) (a0 : Nat) (l1 : Int32) (h : Hp) : Con cvi 0 g mX8_fallsBefore 2 [rv g 6 a0, .int l1] h (fX8_fallsBefore a0 l1 h) := by
  refine Con.of (by decide +kernel) (Nat.le_of_ble_eq_true rfl) ?_
  show Sim cvi 0 g mX8_fallsBefore 2 0 [(0, rv g 6 a0), (1, .int l1)] [] h _
  unfold fX8_fallsBefore
  refine s_iconst (v := 0) dX8_fallsBefore_0 rfl ?_
  refine s_istore_n (ls' := [(2, .int 0), (0, rv g 6 a0), (1, .int l1)]) dX8_fallsBefore_1 rfl (by decide) rfl ?_
  refine s_iconst (v := 0) dX8_fallsBefore_2 rfl ?_
  refine s_istore_n (ls' := [(3, .int 0), (2, .int 0), (0, rv g 6 a0), (1, .int l1)]) dX8_fallsBefore_3 rfl (by decide) rfl ?_
  refine s_sub (ls' := [(0, rv g 6 a0), (1, .int l1), (2, .int 0), (3, .int 0)]) [2, 3, 1, 0] rfl ?_
  refine sX8_fallsBefore_l4 g a0 l1 _ (fun y7 h8 => ?_) FU 0 0 h
  refine s_iload_n 0 dX8_fallsBefore_56 rfl rfl ?_
  exact s_iret rfl dX8_fallsBefore_57
def fX0_soonest_l5 (a0 : Nat) (l1 : Int32) (K : Int32 → Hp → Option (Int32 × Hp)) (rec : Int32 → Int32 → Hp → Option (Int32 × Hp)) (l2 l3 : Int32) (h : Hp) : Option (Int32 × Hp) :=
  if (rd h 6 a0 2) ≤ l3 then (K l2 h)
  else (bnd (fX0_leftOf l1 l3 h) fun x2 h1 =>
  lt (if x2 < l2 then x2 else l2) fun x3 =>
  lt (l3 + 1) fun x4 =>
  rec x3 x4 h1)
def fX0_soonest (a0 : Nat) (l1 : Int32) (h : Hp) : Option (Int32 × Hp) :=
  itr2 (fX0_soonest_l5 a0 l1 (fun y5 h6 => some (y5, h6))) FU 6 0 h
set_option maxHeartbeats 4000000 in
set_option maxRecDepth 100000 in
theorem sX0_soonest_l5 (g : GE) (a0 : Nat) (l1 : Int32) (K : Int32 → Hp → Option (Int32 × Hp)) (hK : ∀ (y2 : Int32) (h : Hp), Sim cvi 0 g mX0_soonest 3 29 [(2, .int y2)] [] h (K y2 h)) : ∀ (n : Nat) (l2 l3 : Int32) (h : Hp), Sim cvi 0 g mX0_soonest 3 5 [(0, rv g 6 a0), (1, .int l1), (2, .int l2), (3, .int l3)] [] h (itr2 (fX0_soonest_l5 a0 l1 K) n l2 l3 h) := by
  refine s_itr2 (fun l2 l3 h o => Sim cvi 0 g mX0_soonest 3 5 [(0, rv g 6 a0), (1, .int l1), (2, .int l2), (3, .int l3)] [] h o) (fun _ _ _ => s_none) ?_
  intro rec hrec l2 l3 h
  unfold fX0_soonest_l5
  refine s_iload_n 3 dX0_soonest_5 rfl rfl ?_
  refine s_aload_n 0 dX0_soonest_6 rfl rfl ?_
  refine s_geti (s0 := a0) dX0_soonest_7 fl_X0_20 ?_
  refine s_icmp_ge (tgt := 29) dX0_soonest_10 (by decide) ?_ ?_
  ·
    refine s_sub [2] rfl ?_
    exact hK l2 h
  ·
    refine s_iload_n 2 dX0_soonest_13 rfl rfl ?_
    refine s_iload_n 1 dX0_soonest_14 rfl rfl ?_
    refine s_iload_n 3 dX0_soonest_15 rfl rfl ?_
    refine s_callSi (As := [.int l1, .int l3]) (rest := [.int l2]) (cX0_leftOf_ok g l1 l3 h) sl_X0_9 rfl (Nat.le_of_ble_eq_true rfl) (Nat.le_of_ble_eq_true rfl) dX0_soonest_16 rfl (fun x2 h1 => ?_)
    refine s_mmin w_4_82 mw_min (Nat.le_of_ble_eq_true rfl) (Nat.le_of_ble_eq_true rfl) dX0_soonest_19 ?_
    refine s_leti (fun x3 => ?_)
    refine s_istore_n (ls' := [(2, .int x3), (0, rv g 6 a0), (1, .int l1), (3, .int l3)]) dX0_soonest_22 rfl (by decide) rfl ?_
    refine s_iincl 3 (w := 1) (fun x4 => [(3, .int x4), (2, .int x3), (0, rv g 6 a0), (1, .int l1)]) dX0_soonest_23 rfl rfl (by decide) (fun _ => rfl) (fun x4 => ?_)
    refine s_goto (tgt := 5) dX0_soonest_26 (by decide) ?_
    refine s_sub [2, 3, 1, 0] rfl ?_
    exact hrec x3 x4 h1
set_option maxHeartbeats 4000000 in
set_option maxRecDepth 100000 in
theorem cX0_soonest_ok (g : GE) (a0 : Nat) (l1 : Int32) (h : Hp) : Con cvi 0 g mX0_soonest 3 [rv g 6 a0, .int l1] h (fX0_soonest a0 l1 h) := by
  refine Con.of (by decide +kernel) (Nat.le_of_ble_eq_true rfl) ?_
  show Sim cvi 0 g mX0_soonest 3 0 [(0, rv g 6 a0), (1, .int l1)] [] h _
  unfold fX0_soonest
  refine s_bipush (v := 6) dX0_soonest_0 rfl ?_
  refine s_istore_n (ls' := [(2, .int 6), (0, rv g 6 a0), (1, .int l1)]) dX0_soonest_2 rfl (by decide) rfl ?_
  refine s_iconst (v := 0) dX0_soonest_3 rfl ?_
  refine s_istore_n (ls' := [(3, .int 0), (2, .int 6), (0, rv g 6 a0), (1, .int l1)]) dX0_soonest_4 rfl (by decide) rfl ?_
  refine s_sub (ls' := [(0, rv g 6 a0), (1, .int l1), (2, .int 6), (3, .int 0)]) [2, 3, 1, 0] rfl ?_
  refine sX0_soonest_l5 g a0 l1 _ (fun y5 h6 => ?_) FU 6 0 h
  refine s_iload_n 0 dX0_soonest_29 rfl rfl ?_
  exact s_iret rfl dX0_soonest_30
