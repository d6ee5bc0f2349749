def fX12_fallingOf_l18 (l2 : Int32) (K : Int32 → Hp → Option (Int32 × Hp)) (rec : Int32 → Int32 → Hp → Option (Int32 × Hp)) (l3 l5 : Int32) (h : Hp) : Option (Int32 × Hp) :=
  if (rd h 10 0 22) ≤ l5 then (K l3 h)
  else (jn (κ := Int32 → Hp → Option (Int32 × Hp)) (fun z0_0 h2 => bnd (fX12_has l2 l5 h2) fun x4 h3 =>
  jn (κ := Int32 → Hp → Option (Int32 × Hp)) (fun z0_4 h6 => lt (l5 + 1) fun x7 =>
  rec z0_4 x7 h6) fun k75_4 =>
  jn (κ := Hp → Option (Int32 × Hp)) (fun h9 => k75_4 l3 h9) fun k74_7 =>
  if x4 = 0 then (if z0_0 = 0 then (k74_7 h3)
  else (k75_4 l5 h3))
  else (k74_7 h3)) fun k53_0 =>
  jn (κ := Hp → Option (Int32 × Hp)) (fun h11 => k53_0 1 h11) fun k48_9 =>
  if l3 = (-1) then (k48_9 h)
  else (ck (ib l5 5) (
  ck (ib l3 5) (
  if (ra h 55 0 l3) ≤ (ra h 55 0 l5) then (k53_0 0 h)
  else (k48_9 h)))))
def fX12_fallingOf_l7 (l1 : Int32) (K : Int32 → Hp → Option (Int32 × Hp)) (rec : Int32 → Int32 → Int32 → Hp → Option (Int32 × Hp)) (l2 l3 l4 : Int32) (h : Hp) : Option (Int32 × Hp) :=
  if l1 < l4 then (K l3 h)
  else (itr2 (fX12_fallingOf_l18 l2 (fun y12 h13 => lt (l2 ||| ((1 : Int32) <<< (y12 &&& 31))) fun x14 =>
  lt (l4 + 1) fun x15 =>
  rec x14 y12 x15 h13)) FU (-1) 0 h)
def fX12_fallingOf (l1 : Int32) (h : Hp) : Option (Int32 × Hp) :=
  itr3 (fX12_fallingOf_l7 l1 (fun y16 h17 => some (y16, h17))) FU 0 (-1) 0 h
set_option maxHeartbeats 4000000 in
set_option maxRecDepth 100000 in
theorem sX12_fallingOf_l18 (g : GE) (l1 : Int32) (l2 : Int32) (l4 : Int32) (K : Int32 → Hp → Option (Int32 × Hp)) (hK : ∀ (y3 : Int32) (h : Hp), Sim cvi 1 g mX12_fallingOf 3 82 [(0, rv g 10 0), (1, .int l1), (2, .int l2), (3, .int y3), (4, .int l4)] [] h (K y3 h)) : ∀ (n : Nat) (l3 l5 : Int32) (h : Hp), Sim cvi 1 g mX12_fallingOf 3 18 [(0, rv g 10 0), (1, .int l1), (2, .int l2), (3, .int l3), (4, .int l4), (5, .int l5)] [] h (itr2 (fX12_fallingOf_l18 l2 K) n l3 l5 h) := by
  refine s_itr2 (fun l3 l5 h o => Sim cvi 1 g mX12_fallingOf 3 18 [(0, rv g 10 0), (1, .int l1), (2, .int l2), (3, .int l3), (4, .int l4), (5, .int l5)] [] h o) (fun _ _ _ => s_none) ?_
  intro rec hrec l3 l5 h
  unfold fX12_fallingOf_l18
  refine s_iload 5 dX12_fallingOf_18 rfl ?_
  refine s_aload_n 0 dX12_fallingOf_20 rfl rfl ?_
  refine s_geti (s0 := 0) dX12_fallingOf_21 fl_X12_232 ?_
  refine s_icmp_ge (tgt := 82) dX12_fallingOf_24 (by decide) ?_ ?_
  ·
    refine s_sub [0, 1, 2, 3, 4] rfl ?_
    exact hK l3 h
  ·
    refine s_iload_n 3 dX12_fallingOf_27 rfl rfl ?_
    refine s_iconst (v := (-1)) dX12_fallingOf_28 rfl ?_
    refine s_jn (fun (k53_0 : Int32 → Hp → Option (Int32 × Hp)) => ∀ (z0_0 : Int32) (h2 : Hp), Sim cvi 1 g mX12_fallingOf 3 53 [(0, rv g 10 0), (1, .int l1), (2, .int l2), (3, .int l3), (4, .int l4), (5, .int l5)] [.int z0_0] h2 (k53_0 z0_0 h2)) (fun z0_0 h2 => ?_) (fun k53_0 Hk53_0 => ?_)
    ·
      refine s_istore (ls' := [(6, .int z0_0), (0, rv g 10 0), (1, .int l1), (2, .int l2), (3, .int l3), (4, .int l4), (5, .int l5)]) dX12_fallingOf_53 (by decide) rfl ?_
      refine s_iload_n 3 dX12_fallingOf_55 rfl rfl ?_
      refine s_iload 6 dX12_fallingOf_56 rfl ?_
      refine s_callSi (As := [.int l2, .int l5]) (rest := []) (cX12_has_ok g l2 l5 h2) sl_X12_92 rfl (Nat.le_of_ble_eq_true rfl) (Nat.le_of_ble_eq_true rfl) dX12_fallingOf_58 rfl (fun x4 h3 => ?_)
      refine s_jn (fun (k75_4 : Int32 → Hp → Option (Int32 × Hp)) => ∀ (z0_4 : Int32) (h6 : Hp), Sim cvi 1 g mX12_fallingOf 3 75 [(0, rv g 10 0), (1, .int l1), (2, .int l2), (4, .int l4), (5, .int l5)] [.int z0_4] h6 (k75_4 z0_4 h6)) (fun z0_4 h6 => ?_) (fun k75_4 Hk75_4 => ?_)
      ·
        refine s_istore_n (ls' := [(3, .int z0_4), (0, rv g 10 0), (1, .int l1), (2, .int l2), (4, .int l4), (5, .int l5)]) dX12_fallingOf_75 rfl (by decide) rfl ?_
        refine s_iincl 5 (w := 1) (fun x7 => [(5, .int x7), (3, .int z0_4), (0, rv g 10 0), (1, .int l1), (2, .int l2), (4, .int l4)]) dX12_fallingOf_76 rfl rfl (by decide) (fun _ => rfl) (fun x7 => ?_)
        refine s_goto (tgt := 18) dX12_fallingOf_79 (by decide) ?_
        refine s_sub [2, 3, 4, 1, 5, 0] rfl ?_
        exact hrec z0_4 x7 h6
      refine s_jn (fun (k74_7 : Hp → Option (Int32 × Hp)) => ∀ (h9 : Hp), Sim cvi 1 g mX12_fallingOf 3 74 [(0, rv g 10 0), (1, .int l1), (2, .int l2), (3, .int l3), (4, .int l4), (5, .int l5)] [] h9 (k74_7 h9)) (fun h9 => ?_) (fun k74_7 Hk74_7 => ?_)
      ·
        refine s_iload_n 3 dX12_fallingOf_74 rfl rfl ?_
        refine s_sub [0, 1, 2, 4, 5] rfl ?_
        exact Hk75_4 l3 h9
      refine s_if_ne (tgt := 74) dX12_fallingOf_61 (by decide) ?_ ?_
      ·
        refine s_iload 0 dX12_fallingOf_64 rfl ?_
        refine s_if_eq (tgt := 74) dX12_fallingOf_66 (by decide) ?_ ?_
        ·
          refine s_sub [1, 2, 3, 4, 5, 6] rfl ?_
          exact Hk74_7 h3
        ·
          refine s_iload 6 dX12_fallingOf_69 rfl ?_
          refine s_goto (tgt := 75) dX12_fallingOf_71 (by decide) ?_
          refine s_sub [1, 2, 3, 5, 6] rfl ?_
          exact Hk75_4 l5 h3
      ·
        refine s_sub [1, 2, 3, 4, 5, 6] rfl ?_
        exact Hk74_7 h3
    refine s_jn (fun (k48_9 : Hp → Option (Int32 × Hp)) => ∀ (h11 : Hp), Sim cvi 1 g mX12_fallingOf 3 48 [(0, rv g 10 0), (1, .int l1), (2, .int l2), (3, .int l3), (4, .int l4), (5, .int l5)] [] h11 (k48_9 h11)) (fun h11 => ?_) (fun k48_9 Hk48_9 => ?_)
    ·
      refine s_iconst (v := 1) dX12_fallingOf_48 rfl ?_
      refine s_goto (tgt := 53) dX12_fallingOf_49 (by decide) ?_
      exact Hk53_0 1 h11
    refine s_icmp_eq (tgt := 48) dX12_fallingOf_29 (by decide) ?_ ?_
    ·
      exact Hk48_9 h
    ·
      refine s_aload_n 0 dX12_fallingOf_32 rfl rfl ?_
      refine s_getr (s0 := 0) dX12_fallingOf_33 fl_X12_47 ?_
      refine s_iload 5 dX12_fallingOf_36 rfl ?_
      refine s_iald (s0 := 0) ka_55 dX12_fallingOf_38 ?_
      refine s_aload_n 0 dX12_fallingOf_39 rfl rfl ?_
      refine s_getr (s0 := 0) dX12_fallingOf_40 fl_X12_47 ?_
      refine s_iload_n 3 dX12_fallingOf_43 rfl rfl ?_
      refine s_iald (s0 := 0) ka_55 dX12_fallingOf_44 ?_
      refine s_icmp_ge (tgt := 52) dX12_fallingOf_45 (by decide) ?_ ?_
      ·
        refine s_iconst (v := 0) dX12_fallingOf_52 rfl ?_
        exact Hk53_0 0 h
      ·
        exact Hk48_9 h
set_option maxHeartbeats 4000000 in
set_option maxRecDepth 100000 in
theorem sX12_fallingOf_l7 (g : GE) (l1 : Int32) (K : Int32 → Hp → Option (Int32 × Hp)) (hK : ∀ (y3 : Int32) (h : Hp), Sim cvi 1 g mX12_fallingOf 3 94 [(3, .int y3)] [] h (K y3 h)) : ∀ (n : Nat) (l2 l3 l4 : Int32) (h : Hp), Sim cvi 1 g mX12_fallingOf 3 7 [(0, rv g 10 0), (1, .int l1), (2, .int l2), (3, .int l3), (4, .int l4)] [] h (itr3 (fX12_fallingOf_l7 l1 K) n l2 l3 l4 h) := by
  refine s_itr3 (fun l2 l3 l4 h o => Sim cvi 1 g mX12_fallingOf 3 7 [(0, rv g 10 0), (1, .int l1), (2, .int l2), (3, .int l3), (4, .int l4)] [] h o) (fun _ _ _ _ => s_none) ?_
  intro rec hrec l2 l3 l4 h
  unfold fX12_fallingOf_l7
  refine s_iload 4 dX12_fallingOf_7 rfl ?_
  refine s_iload_n 1 dX12_fallingOf_9 rfl rfl ?_
  refine s_icmp_gt (tgt := 94) dX12_fallingOf_10 (by decide) ?_ ?_
  ·
    refine s_sub [3] rfl ?_
    exact hK l3 h
  ·
    refine s_iconst (v := (-1)) dX12_fallingOf_13 rfl ?_
    refine s_istore_n (ls' := [(3, .int (-1)), (0, rv g 10 0), (1, .int l1), (2, .int l2), (4, .int l4)]) dX12_fallingOf_14 rfl (by decide) rfl ?_
    refine s_iconst (v := 0) dX12_fallingOf_15 rfl ?_
    refine s_istore (ls' := [(5, .int 0), (3, .int (-1)), (0, rv g 10 0), (1, .int l1), (2, .int l2), (4, .int l4)]) dX12_fallingOf_16 (by decide) rfl ?_
    refine s_sub (ls' := [(0, rv g 10 0), (1, .int l1), (2, .int l2), (3, .int (-1)), (4, .int l4), (5, .int 0)]) [2, 3, 4, 1, 5, 0] rfl ?_
    refine sX12_fallingOf_l18 g l1 l2 l4 _ (fun y12 h13 => ?_) FU (-1) 0 h
    refine s_iload_n 2 dX12_fallingOf_82 rfl rfl ?_
    refine s_iconst (v := 1) dX12_fallingOf_83 rfl ?_
    refine s_iload_n 3 dX12_fallingOf_84 rfl rfl ?_
    refine s_ishl dX12_fallingOf_85 ?_
    refine s_ior dX12_fallingOf_86 ?_
    refine s_leti (fun x14 => ?_)
    refine s_istore_n (ls' := [(2, .int x14), (0, rv g 10 0), (1, .int l1), (3, .int y12), (4, .int l4)]) dX12_fallingOf_87 rfl (by decide) rfl ?_
    refine s_iincl 4 (w := 1) (fun x15 => [(4, .int x15), (2, .int x14), (0, rv g 10 0), (1, .int l1), (3, .int y12)]) dX12_fallingOf_88 rfl rfl (by decide) (fun _ => rfl) (fun x15 => ?_)
    refine s_goto (tgt := 7) dX12_fallingOf_91 (by decide) ?_
    refine s_sub [2, 3, 1, 4, 0] rfl ?_
    exact hrec x14 y12 x15 h13
set_option maxHeartbeats 4000000 in
set_option maxRecDepth 100000 in
theorem cX12_fallingOf_ok (g : GE) (l1 : Int32) (h : Hp) : Con cvi 1 g mX12_fallingOf 3 [rv g 10 0, .int l1] h (fX12_fallingOf l1 h) := by
  refine Con.of (by decide +kernel) (Nat.le_of_ble_eq_true rfl) ?_
  show Sim cvi 1 g mX12_fallingOf 3 0 [(0, rv g 10 0), (1, .int l1)] [] h _
  unfold fX12_fallingOf
  refine s_iconst (v := 0) dX12_fallingOf_0 rfl ?_
  refine s_istore_n (ls' := [(2, .int 0), (0, rv g 10 0), (1, .int l1)]) dX12_fallingOf_1 rfl (by decide) rfl ?_
  refine s_iconst (v := (-1)) dX12_fallingOf_2 rfl ?_
  refine s_istore_n (ls' := [(3, .int (-1)), (2, .int 0), (0, rv g 10 0), (1, .int l1)]) dX12_fallingOf_3 rfl (by decide) rfl ?_
  refine s_iconst (v := 0) dX12_fallingOf_4 rfl ?_
  refine s_istore (ls' := [(4, .int 0), (3, .int (-1)), (2, .int 0), (0, rv g 10 0), (1, .int l1)]) dX12_fallingOf_5 (by decide) rfl ?_
  refine s_sub (ls' := [(0, rv g 10 0), (1, .int l1), (2, .int 0), (3, .int (-1)), (4, .int 0)]) [3, 4, 2, 1, 0] rfl ?_
  refine sX12_fallingOf_l7 g l1 _ (fun y16 h17 => ?_) FU 0 (-1) 0 h
  refine s_iload_n 0 dX12_fallingOf_94 rfl rfl ?_
  exact s_iret rfl dX12_fallingOf_95
def fX12_fault (l1 : Int32) (h : Hp) : Option (Int32 × Hp) :=
  lt (wr h 10 0 0 0) fun h1 =>
  if l1 = 0 then (ck (ib 0 4) (
  some (ra h1 45 0 0, h1)))
  else (if l1 = 1 then (ck (ib 0 4) (
  some (ra h1 46 0 0, h1)))
  else (some ((-1), h1)))
set_option maxHeartbeats 4000000 in
set_option maxRecDepth 100000 in
theorem cX12_fault_ok (g : GE) (l1 : Int32) (h : Hp) : Con cvi 1 g mX12_fault 2 [rv g 10 0, .int l1] h (fX12_fault l1 h) := by
  refine Con.of (by decide +kernel) (Nat.le_of_ble_eq_true rfl) ?_
  show Sim cvi 1 g mX12_fault 2 0 [(0, rv g 10 0), (1, .int l1)] [] h _
  unfold fX12_fault
  refine s_aload_n 0 dX12_fault_0 rfl rfl ?_
  refine s_iconst (v := 0) dX12_fault_1 rfl ?_
  refine s_puti (s0 := 0) dX12_fault_2 fl_X12_88 (fun h1 => ?_)
  refine s_iload_n 1 dX12_fault_5 rfl rfl ?_
  refine s_if_ne (tgt := 18) dX12_fault_6 (by decide) ?_ ?_
  ·
    refine s_aload_n 0 dX12_fault_9 rfl rfl ?_
    refine s_getr (s0 := 0) dX12_fault_10 fl_X12_17 ?_
    refine s_iconst (v := 0) dX12_fault_13 rfl ?_
    refine s_iald (s0 := 0) ka_45 dX12_fault_14 ?_
    refine s_goto (tgt := 33) dX12_fault_15 (by decide) ?_
    exact s_iret rfl dX12_fault_33
  ·
    refine s_iload_n 1 dX12_fault_18 rfl rfl ?_
    refine s_iconst (v := 1) dX12_fault_19 rfl ?_
    refine s_icmp_ne (tgt := 32) dX12_fault_20 (by decide) ?_ ?_
    ·
      refine s_aload_n 0 dX12_fault_23 rfl rfl ?_
      refine s_getr (s0 := 0) dX12_fault_24 fl_X12_20 ?_
      refine s_iconst (v := 0) dX12_fault_27 rfl ?_
      refine s_iald (s0 := 0) ka_46 dX12_fault_28 ?_
      refine s_goto (tgt := 33) dX12_fault_29 (by decide) ?_
      exact s_iret rfl dX12_fault_33
    ·
      refine s_iconst (v := (-1)) dX12_fault_32 rfl ?_
      exact s_iret rfl dX12_fault_33
def fX12_four_l3 (l1 : Int32) (K : Hp → Option (Unit × Hp)) (rec : Int32 → Hp → Option (Unit × Hp)) (l2 : Int32) (h : Hp) : Option (Unit × Hp) :=
  if l2 < 0 then (K h)
  else (ck (ib 0 4) (
  ck (ib (ra h 44 0 0) 2400) (lt (wa h 43 0 (ra h 44 0 0) (vp_nar .byte ((l1 >>> (l2 &&& 31)).toInt8.toInt32))) fun h1 =>
  ck (ib 0 4) (
  ck (ib 0 4) (lt (wa h1 44 0 0 ((ra h1 44 0 0) + (1 : Int32))) fun h2 =>
  lt (l2 + (-8)) fun x3 =>
  rec x3 h2)))))
def fX12_four (l1 : Int32) (h : Hp) : Option (Unit × Hp) :=
  itr1 (fX12_four_l3 l1 (fun h4 => some ((), h4))) FU 24 h
set_option maxHeartbeats 4000000 in
set_option maxRecDepth 100000 in
theorem sX12_four_l3 (g : GE) (l1 : Int32) (K : Hp → Option (Unit × Hp)) (hK : ∀ (h : Hp), Sim cvv 1 g mX12_four 2 38 [] [] h (K  h)) : ∀ (n : Nat) (l2 : Int32) (h : Hp), Sim cvv 1 g mX12_four 2 3 [(0, rv g 10 0), (1, .int l1), (2, .int l2)] [] h (itr1 (fX12_four_l3 l1 K) n l2 h) := by
  refine s_itr1 (fun l2 h o => Sim cvv 1 g mX12_four 2 3 [(0, rv g 10 0), (1, .int l1), (2, .int l2)] [] h o) (fun _ _ => s_none) ?_
  intro rec hrec l2 h
  unfold fX12_four_l3
  refine s_iload_n 2 dX12_four_3 rfl rfl ?_
  refine s_if_lt (tgt := 38) dX12_four_4 (by decide) ?_ ?_
  ·
    refine s_sub [] rfl ?_
    exact hK h
  ·
    refine s_aload_n 0 dX12_four_7 rfl rfl ?_
    refine s_getr (s0 := 0) dX12_four_8 fl_X12_7 ?_
    refine s_aload_n 0 dX12_four_11 rfl rfl ?_
    refine s_getr (s0 := 0) dX12_four_12 fl_X12_13 ?_
    refine s_iconst (v := 0) dX12_four_15 rfl ?_
    refine s_iald (s0 := 0) ka_44 dX12_four_16 ?_
    refine s_iload_n 1 dX12_four_17 rfl rfl ?_
    refine s_iload_n 2 dX12_four_18 rfl rfl ?_
    refine s_ishr dX12_four_19 ?_
    refine s_i2b dX12_four_20 ?_
    refine s_bast (s0 := 0) ka_43 dX12_four_21 (fun h1 => ?_)
    refine s_aload_n 0 dX12_four_22 rfl rfl ?_
    refine s_getr (s0 := 0) dX12_four_23 fl_X12_13 ?_
    refine s_iconst (v := 0) dX12_four_26 rfl ?_
    refine s_dup2 dX12_four_27 rfl rfl ?_
    refine s_iald (s0 := 0) ka_44 dX12_four_28 ?_
    refine s_iconst (v := 1) dX12_four_29 rfl ?_
    refine s_iadd dX12_four_30 ?_
    refine s_iast (s0 := 0) ka_44 dX12_four_31 (fun h2 => ?_)
    refine s_iincl 2 (w := (-8)) (fun x3 => [(2, .int x3), (0, rv g 10 0), (1, .int l1)]) dX12_four_32 rfl rfl (by decide) (fun _ => rfl) (fun x3 => ?_)
    refine s_goto (tgt := 3) dX12_four_35 (by decide) ?_
    refine s_sub [1, 2, 0] rfl ?_
    exact hrec x3 h2
set_option maxHeartbeats 4000000 in
set_option maxRecDepth 100000 in
theorem cX12_four_ok (g : GE) (l1 : Int32) (h : Hp) : Con cvv 1 g mX12_four 2 [rv g 10 0, .int l1] h (fX12_four l1 h) := by
  refine Con.of (by decide +kernel) (Nat.le_of_ble_eq_true rfl) ?_
  show Sim cvv 1 g mX12_four 2 0 [(0, rv g 10 0), (1, .int l1)] [] h _
  unfold fX12_four
  refine s_bipush (v := 24) dX12_four_0 rfl ?_
  refine s_istore_n (ls' := [(2, .int 24), (0, rv g 10 0), (1, .int l1)]) dX12_four_2 rfl (by decide) rfl ?_
  refine s_sub (ls' := [(0, rv g 10 0), (1, .int l1), (2, .int 24)]) [1, 2, 0] rfl ?_
  refine sX12_four_l3 g l1 _ (fun h4 => ?_) FU 24 h
  exact s_vret rfl dX12_four_38
def fX12_feed (l1 : Int32) (l2 : Int32) (l3 : Int32) (l4 : Int32) (l5 : Int32) (h : Hp) : Option (Int32 × Hp) :=
  lt (wr h 10 0 0 0) fun h1 =>
  ck (ib 0 4) (
  if ((ra h1 44 0 0) + (20 : Int32)) ≤ 600 then (bnd (fX12_four l1 h1) fun _ h2 =>
  bnd (fX12_four l2 h2) fun _ h3 =>
  bnd (fX12_four l3 h3) fun _ h4 =>
  bnd (fX12_four l4 h4) fun _ h5 =>
  bnd (fX12_four l5 h5) fun _ h6 =>
  ck (ib 0 4) (
  some (ra h6 44 0 0, h6)))
  else (some ((-1), h1)))
set_option maxHeartbeats 4000000 in
set_option maxRecDepth 100000 in
theorem cX12_feed_ok (g : GE) (l1 : Int32) (l2 : Int32) (l3 : Int32) (l4 : Int32) (l5 : Int32) (h : Hp) : Con cvi 1 g mX12_feed 3 [rv g 10 0, .int l1, .int l2, .int l3, .int l4, .int l5] h (fX12_feed l1 l2 l3 l4 l5 h) := by
  refine Con.of (by decide +kernel) (Nat.le_of_ble_eq_true rfl) ?_
  show Sim cvi 1 g mX12_feed 3 0 [(0, rv g 10 0), (1, .int l1), (2, .int l2), (3, .int l3), (4, .int l4), (5, .int l5)] [] h _
  unfold fX12_feed
  refine s_aload_n 0 dX12_feed_0 rfl rfl ?_
  refine s_iconst (v := 0) dX12_feed_1 rfl ?_
  refine s_puti (s0 := 0) dX12_feed_2 fl_X12_88 (fun h1 => ?_)
  refine s_aload_n 0 dX12_feed_5 rfl rfl ?_
  refine s_getr (s0 := 0) dX12_feed_6 fl_X12_13 ?_
  refine s_iconst (v := 0) dX12_feed_9 rfl ?_
  refine s_iald (s0 := 0) ka_44 dX12_feed_10 ?_
  refine s_bipush (v := 20) dX12_feed_11 rfl ?_
  refine s_iadd dX12_feed_13 ?_
  refine s_sipush (v := 600) dX12_feed_14 rfl ?_
  refine s_icmp_le (tgt := 22) dX12_feed_17 (by decide) ?_ ?_
  ·
    refine s_aload_n 0 dX12_feed_22 rfl rfl ?_
    refine s_iload_n 1 dX12_feed_23 rfl rfl ?_
    refine s_callVv (s0 := 0) (As := [.int l1]) (rest := []) (cX12_four_ok g l1 h1) vl_X12_104 rfl (Nat.le_of_ble_eq_true rfl) (Nat.le_of_ble_eq_true rfl) dX12_feed_24 rfl (fun h2 => ?_)
    refine s_aload_n 0 dX12_feed_27 rfl rfl ?_
    refine s_iload_n 2 dX12_feed_28 rfl rfl ?_
    refine s_callVv (s0 := 0) (As := [.int l2]) (rest := []) (cX12_four_ok g l2 h2) vl_X12_104 rfl (Nat.le_of_ble_eq_true rfl) (Nat.le_of_ble_eq_true rfl) dX12_feed_29 rfl (fun h3 => ?_)
    refine s_aload_n 0 dX12_feed_32 rfl rfl ?_
    refine s_iload_n 3 dX12_feed_33 rfl rfl ?_
    refine s_callVv (s0 := 0) (As := [.int l3]) (rest := []) (cX12_four_ok g l3 h3) vl_X12_104 rfl (Nat.le_of_ble_eq_true rfl) (Nat.le_of_ble_eq_true rfl) dX12_feed_34 rfl (fun h4 => ?_)
    refine s_aload_n 0 dX12_feed_37 rfl rfl ?_
    refine s_iload 4 dX12_feed_38 rfl ?_
    refine s_callVv (s0 := 0) (As := [.int l4]) (rest := []) (cX12_four_ok g l4 h4) vl_X12_104 rfl (Nat.le_of_ble_eq_true rfl) (Nat.le_of_ble_eq_true rfl) dX12_feed_40 rfl (fun h5 => ?_)
    refine s_aload_n 0 dX12_feed_43 rfl rfl ?_
    refine s_iload 5 dX12_feed_44 rfl ?_
    refine s_callVv (s0 := 0) (As := [.int l5]) (rest := []) (cX12_four_ok g l5 h5) vl_X12_104 rfl (Nat.le_of_ble_eq_true rfl) (Nat.le_of_ble_eq_true rfl) dX12_feed_46 rfl (fun h6 => ?_)
    refine s_aload_n 0 dX12_feed_49 rfl rfl ?_
    refine s_getr (s0 := 0) dX12_feed_50 fl_X12_13 ?_
    refine s_iconst (v := 0) dX12_feed_53 rfl ?_
    refine s_iald (s0 := 0) ka_44 dX12_feed_54 ?_
    exact s_iret rfl dX12_feed_55
  ·
    refine s_iconst (v := (-1)) dX12_feed_20 rfl ?_
    exact s_iret rfl dX12_feed_21
def fX12_times_l4 (l0 : Int32) (l1 : Int32) (K : Int32 → Hp → Option (Int32 × Hp)) (rec : Int32 → Int32 → Hp → Option (Int32 × Hp)) (l2 l3 : Int32) (h : Hp) : Option (Int32 × Hp) :=
  if l1 ≤ l3 then (K l2 h)
  else (lt (l2 * l0) fun x1 =>
  lt (l3 + 1) fun x2 =>
  rec x1 x2 h)
def fX12_times (l0 : Int32) (l1 : Int32) (h : Hp) : Option (Int32 × Hp) :=
  itr2 (fX12_times_l4 l0 l1 (fun y3 h4 => some (y3, h4))) FU 1 0 h
set_option maxHeartbeats 4000000 in
set_option maxRecDepth 100000 in
theorem sX12_times_l4 (g : GE) (l0 : Int32) (l1 : Int32) (K : Int32 → Hp → Option (Int32 × Hp)) (hK : ∀ (y2 : Int32) (h : Hp), Sim cvi 1 g mX12_times 2 19 [(2, .int y2)] [] h (K y2 h)) : ∀ (n : Nat) (l2 l3 : Int32) (h : Hp), Sim cvi 1 g mX12_times 2 4 [(0, .int l0), (1, .int l1), (2, .int l2), (3, .int l3)] [] h (itr2 (fX12_times_l4 l0 l1 K) n l2 l3 h) := by
  refine s_itr2 (fun l2 l3 h o => Sim cvi 1 g mX12_times 2 4 [(0, .int l0), (1, .int l1), (2, .int l2), (3, .int l3)] [] h o) (fun _ _ _ => s_none) ?_
  intro rec hrec l2 l3 h
  unfold fX12_times_l4
  refine s_iload_n 3 dX12_times_4 rfl rfl ?_
  refine s_iload_n 1 dX12_times_5 rfl rfl ?_
  refine s_icmp_ge (tgt := 19) dX12_times_6 (by decide) ?_ ?_
  ·
    refine s_sub [2] rfl ?_
    exact hK l2 h
  ·
    refine s_iload_n 2 dX12_times_9 rfl rfl ?_
    refine s_iload_n 0 dX12_times_10 rfl rfl ?_
    refine s_imul dX12_times_11 ?_
    refine s_leti (fun x1 => ?_)
    refine s_istore_n (ls' := [(2, .int x1), (0, .int l0), (1, .int l1), (3, .int l3)]) dX12_times_12 rfl (by decide) rfl ?_
    refine s_iincl 3 (w := 1) (fun x2 => [(3, .int x2), (2, .int x1), (0, .int l0), (1, .int l1)]) dX12_times_13 rfl rfl (by decide) (fun _ => rfl) (fun x2 => ?_)
    refine s_goto (tgt := 4) dX12_times_16 (by decide) ?_
    refine s_sub [2, 3, 1, 0] rfl ?_
    exact hrec x1 x2 h
set_option maxHeartbeats 4000000 in
set_option maxRecDepth 100000 in
theorem cX12_times_ok (g : GE) (l0 : Int32) (l1 : Int32) (h : Hp) : Con cvi 1 g mX12_times 2 [.int l0, .int l1] h (fX12_times l0 l1 h) := by
  refine Con.of (by decide +kernel) (Nat.le_of_ble_eq_true rfl) ?_
  show Sim cvi 1 g mX12_times 2 0 [(0, .int l0), (1, .int l1)] [] h _
  unfold fX12_times
  refine s_iconst (v := 1) dX12_times_0 rfl ?_
  refine s_istore_n (ls' := [(2, .int 1), (0, .int l0), (1, .int l1)]) dX12_times_1 rfl (by decide) rfl ?_
  refine s_iconst (v := 0) dX12_times_2 rfl ?_
  refine s_istore_n (ls' := [(3, .int 0), (2, .int 1), (0, .int l0), (1, .int l1)]) dX12_times_3 rfl (by decide) rfl ?_
  refine s_sub (ls' := [(0, .int l0), (1, .int l1), (2, .int 1), (3, .int 0)]) [2, 3, 1, 0] rfl ?_
  refine sX12_times_l4 g l0 l1 _ (fun y3 h4 => ?_) FU 1 0 h
  refine s_iload_n 0 dX12_times_19 rfl rfl ?_
  exact s_iret rfl dX12_times_20
def fX12_fives (l1 : Int32) (h : Hp) : Option (Int32 × Hp) :=
  bnd (fX12_times 5 l1 h) fun x2 h1 =>
  some (x2, h1)
set_option maxHeartbeats 4000000 in
set_option maxRecDepth 100000 in
theorem cX12_fives_ok (g : GE) (l1 : Int32) (h : Hp) : Con cvi 1 g mX12_fives 3 [rv g 10 0, .int l1] h (fX12_fives l1 h) := by
  refine Con.of (by decide +kernel) (Nat.le_of_ble_eq_true rfl) ?_
  show Sim cvi 1 g mX12_fives 3 0 [(0, rv g 10 0), (1, .int l1)] [] h _
  unfold fX12_fives
  refine s_iconst (v := 5) dX12_fives_0 rfl ?_
  refine s_iload_n 1 dX12_fives_1 rfl rfl ?_
  refine s_callSi (As := [.int 5, .int l1]) (rest := []) (cX12_times_ok g 5 l1 h) sl_X12_437 rfl (Nat.le_of_ble_eq_true rfl) (Nat.le_of_ble_eq_true rfl) dX12_fives_2 rfl (fun x2 h1 => ?_)
  exact s_iret rfl dX12_fives_5
def fX12_isSo_l2 (K : Hp → Option (Int32 × Hp)) (rec : Int32 → Hp → Option (Int32 × Hp)) (l1 : Int32) (h : Hp) : Option (Int32 × Hp) :=
  bnd (fX12_facts h) fun x2 h1 =>
  if x2 ≤ l1 then (K h1)
  else (bnd (fX12_factOf l1 1 h1) fun x4 h3 =>
  bnd (fX12_isPlate x4 h3) fun x6 h5 =>
  if x6 = 0 then (ck (zk 0) (some (0, h5)))
  else (bnd (fX12_factOf l1 2 h5) fun x8 h7 =>
  ck (ib x8 64) (
  bnd (fX12_has (ra h7 57 0 x8) x4 h7) fun x10 h9 =>
  bnd (fX12_factOf l1 0 h9) fun x12 h11 =>
  jn (κ := Int32 → Hp → Option (Int32 × Hp)) (fun z0_12 h14 => if x10 = z0_12 then (lt (l1 + 1) fun x15 =>
  rec x15 h14)
  else (ck (zk 0) (some (0, h14)))) fun k55_12 =>
  if x12 = 1 then (k55_12 1 h11)
  else (k55_12 0 h11))))
def fX12_isSo (h : Hp) : Option (Int32 × Hp) :=
  itr1 (fX12_isSo_l2 (fun h16 => ck (zk 1) (some (1, h16)))) FU 0 h
set_option maxHeartbeats 4000000 in
set_option maxRecDepth 100000 in
theorem sX12_isSo_l2 (g : GE) (K : Hp → Option (Int32 × Hp)) (hK : ∀ (h : Hp), Sim cvi 1 g mX12_isSo 4 66 [] [] h (K  h)) : ∀ (n : Nat) (l1 : Int32) (h : Hp), Sim cvi 1 g mX12_isSo 4 2 [(0, rv g 10 0), (1, .int l1)] [] h (itr1 (fX12_isSo_l2 K) n l1 h) := by
  refine s_itr1 (fun l1 h o => Sim cvi 1 g mX12_isSo 4 2 [(0, rv g 10 0), (1, .int l1)] [] h o) (fun _ _ => s_none) ?_
  intro rec hrec l1 h
  unfold fX12_isSo_l2
  refine s_iload_n 1 dX12_isSo_2 rfl rfl ?_
  refine s_aload_n 0 dX12_isSo_3 rfl rfl ?_
  refine s_callVi (s0 := 0) (As := []) (rest := [.int l1]) (cX12_facts_ok g h) vl_X12_453 rfl (Nat.le_of_ble_eq_true rfl) (Nat.le_of_ble_eq_true rfl) dX12_isSo_4 rfl (fun x2 h1 => ?_)
  refine s_icmp_ge (tgt := 66) dX12_isSo_7 (by decide) ?_ ?_
  ·
    refine s_sub [] rfl ?_
    exact hK h1
  ·
    refine s_aload_n 0 dX12_isSo_10 rfl rfl ?_
    refine s_iload_n 1 dX12_isSo_11 rfl rfl ?_
    refine s_iconst (v := 1) dX12_isSo_12 rfl ?_
    refine s_callVi (s0 := 0) (As := [.int l1, .int 1]) (rest := []) (cX12_factOf_ok g l1 1 h1) vl_X12_456 rfl (Nat.le_of_ble_eq_true rfl) (Nat.le_of_ble_eq_true rfl) dX12_isSo_13 rfl (fun x4 h3 => ?_)
    refine s_istore_n (ls' := [(2, .int x4), (0, rv g 10 0), (1, .int l1)]) dX12_isSo_16 rfl (by decide) rfl ?_
    refine s_aload_n 1 dX12_isSo_17 rfl rfl ?_
    refine s_iload_n 0 dX12_isSo_18 rfl rfl ?_
    refine s_callVi (s0 := 0) (As := [.int x4]) (rest := []) (cX12_isPlate_ok g x4 h3) vl_X12_244 rfl (Nat.le_of_ble_eq_true rfl) (Nat.le_of_ble_eq_true rfl) dX12_isSo_19 rfl (fun x6 h5 => ?_)
    refine s_if_eq (tgt := 58) dX12_isSo_22 (by decide) ?_ ?_
    ·
      refine s_iconst (v := 0) dX12_isSo_58 rfl ?_
      exact s_zret rfl dX12_isSo_59
    ·
      refine s_aload_n 1 dX12_isSo_25 rfl rfl ?_
      refine s_getr (s0 := 0) dX12_isSo_26 fl_X12_53 ?_
      refine s_aload_n 1 dX12_isSo_29 rfl rfl ?_
      refine s_iload_n 2 dX12_isSo_30 rfl rfl ?_
      refine s_iconst (v := 2) dX12_isSo_31 rfl ?_
      refine s_callVi (s0 := 0) (As := [.int l1, .int 2]) (rest := [rv g 57 0]) (cX12_factOf_ok g l1 2 h5) vl_X12_456 rfl (Nat.le_of_ble_eq_true rfl) (Nat.le_of_ble_eq_true rfl) dX12_isSo_32 rfl (fun x8 h7 => ?_)
      refine s_iald (s0 := 0) ka_57 dX12_isSo_35 ?_
      refine s_iload_n 0 dX12_isSo_36 rfl rfl ?_
      refine s_callSi (As := [.int (ra h7 57 0 x8), .int x4]) (rest := []) (cX12_has_ok g (ra h7 57 0 x8) x4 h7) sl_X12_92 rfl (Nat.le_of_ble_eq_true rfl) (Nat.le_of_ble_eq_true rfl) dX12_isSo_37 rfl (fun x10 h9 => ?_)
      refine s_aload_n 1 dX12_isSo_40 rfl rfl ?_
      refine s_iload_n 2 dX12_isSo_41 rfl rfl ?_
      refine s_iconst (v := 0) dX12_isSo_42 rfl ?_
      refine s_callVi (s0 := 0) (As := [.int l1, .int 0]) (rest := [.int x10]) (cX12_factOf_ok g l1 0 h9) vl_X12_456 rfl (Nat.le_of_ble_eq_true rfl) (Nat.le_of_ble_eq_true rfl) dX12_isSo_43 rfl (fun x12 h11 => ?_)
      refine s_iconst (v := 1) dX12_isSo_46 rfl ?_
      refine s_jn (fun (k55_12 : Int32 → Hp → Option (Int32 × Hp)) => ∀ (z0_12 : Int32) (h14 : Hp), Sim cvi 1 g mX12_isSo 4 55 [(0, rv g 10 0), (1, .int l1)] [.int z0_12, .int x10] h14 (k55_12 z0_12 h14)) (fun z0_12 h14 => ?_) (fun k55_12 Hk55_12 => ?_)
      ·
        refine s_icmp_eq (tgt := 60) dX12_isSo_55 (by decide) ?_ ?_
        ·
          refine s_iincl 1 (w := 1) (fun x15 => [(1, .int x15), (0, rv g 10 0)]) dX12_isSo_60 rfl rfl (by decide) (fun _ => rfl) (fun x15 => ?_)
          refine s_goto (tgt := 2) dX12_isSo_63 (by decide) ?_
          refine s_sub [1, 0] rfl ?_
          exact hrec x15 h14
        ·
          refine s_iconst (v := 0) dX12_isSo_58 rfl ?_
          exact s_zret rfl dX12_isSo_59
      refine s_icmp_ne (tgt := 54) dX12_isSo_47 (by decide) ?_ ?_
      ·
        refine s_iconst (v := 1) dX12_isSo_50 rfl ?_
        refine s_goto (tgt := 55) dX12_isSo_51 (by decide) ?_
        refine s_sub [1, 2] rfl ?_
        exact Hk55_12 1 h11
      ·
        refine s_iconst (v := 0) dX12_isSo_54 rfl ?_
        refine s_sub [1, 2] rfl ?_
        exact Hk55_12 0 h11
set_option maxHeartbeats 4000000 in
set_option maxRecDepth 100000 in
theorem cX12_isSo_ok (g : GE) (h : Hp) : Con cvi 1 g mX12_isSo 4 [rv g 10 0] h (fX12_isSo h) := by
  refine Con.of (by decide +kernel) (Nat.le_of_ble_eq_true rfl) ?_
  show Sim cvi 1 g mX12_isSo 4 0 [(0, rv g 10 0)] [] h _
  unfold fX12_isSo
  refine s_iconst (v := 0) dX12_isSo_0 rfl ?_
  refine s_istore_n (ls' := [(1, .int 0), (0, rv g 10 0)]) dX12_isSo_1 rfl (by decide) rfl ?_
  refine s_sub (ls' := [(0, rv g 10 0), (1, .int 0)]) [1, 0] rfl ?_
  refine sX12_isSo_l2 g _ (fun h16 => ?_) FU 0 h
  refine s_iconst (v := 1) dX12_isSo_66 rfl ?_
  exact s_zret rfl dX12_isSo_67
def fX12_runs (h : Hp) : Option (Int32 × Hp) :=
  ck (ib ((26 : Int32) * (rd h 10 0 52)) 208) (
  some (ra h 50 0 ((26 : Int32) * (rd h 10 0 52)), h))
set_option maxHeartbeats 4000000 in
set_option maxRecDepth 100000 in
theorem cX12_runs_ok (g : GE) (h : Hp) : Con cvi 1 g mX12_runs 2 [rv g 10 0] h (fX12_runs h) := by
  refine Con.of (by decide +kernel) (Nat.le_of_ble_eq_true rfl) ?_
  show Sim cvi 1 g mX12_runs 2 0 [(0, rv g 10 0)] [] h _
  unfold fX12_runs
  refine s_aload_n 0 dX12_runs_0 rfl rfl ?_
  refine s_getr (s0 := 0) dX12_runs_1 fl_X12_32 ?_
  refine s_bipush (v := 26) dX12_runs_4 rfl ?_
  refine s_aload_n 0 dX12_runs_6 rfl rfl ?_
  refine s_geti (s0 := 0) dX12_runs_7 fl_X12_444 ?_
  refine s_imul dX12_runs_10 ?_
  refine s_iald (s0 := 0) ka_50 dX12_runs_11 ?_
  exact s_iret rfl dX12_runs_12
def fX12_rowCode_l4 (l1 : Int32) (K : Int32 → Hp → Option (Int32 × Hp)) (rec : Int32 → Int32 → Hp → Option (Int32 × Hp)) (l2 l3 : Int32) (h : Hp) : Option (Int32 × Hp) :=
  bnd (fX12_runs h) fun x2 h1 =>
  if x2 ≤ l3 then (K l2 h1)
  else (bnd (fX12_runs h1) fun x4 h3 =>
  bnd (fX12_fives ((x4 - (1 : Int32)) - l3) h3) fun x6 h5 =>
  ck (!decide (x6 = 0)) (
  lt (((10 : Int32) * l2) + (irm (l1 / x6) 5)) fun x7 =>
  lt (l3 + 1) fun x8 =>
  rec x7 x8 h5))
def fX12_rowCode (l1 : Int32) (h : Hp) : Option (Int32 × Hp) :=
  itr2 (fX12_rowCode_l4 l1 (fun y9 h10 => some (y9, h10))) FU 1 0 h
set_option maxHeartbeats 4000000 in
set_option maxRecDepth 100000 in
theorem sX12_rowCode_l4 (g : GE) (l1 : Int32) (K : Int32 → Hp → Option (Int32 × Hp)) (hK : ∀ (y2 : Int32) (h : Hp), Sim cvi 1 g mX12_rowCode 4 40 [(2, .int y2)] [] h (K y2 h)) : ∀ (n : Nat) (l2 l3 : Int32) (h : Hp), Sim cvi 1 g mX12_rowCode 4 4 [(0, rv g 10 0), (1, .int l1), (2, .int l2), (3, .int l3)] [] h (itr2 (fX12_rowCode_l4 l1 K) n l2 l3 h) := by
  refine s_itr2 (fun l2 l3 h o => Sim cvi 1 g mX12_rowCode 4 4 [(0, rv g 10 0), (1, .int l1), (2, .int l2), (3, .int l3)] [] h o) (fun _ _ _ => s_none) ?_
  intro rec hrec l2 l3 h
  unfold fX12_rowCode_l4
  refine s_iload_n 3 dX12_rowCode_4 rfl rfl ?_
  refine s_aload_n 0 dX12_rowCode_5 rfl rfl ?_
  refine s_callVi (s0 := 0) (As := []) (rest := [.int l3]) (cX12_runs_ok g h) vl_X12_450 rfl (Nat.le_of_ble_eq_true rfl) (Nat.le_of_ble_eq_true rfl) dX12_rowCode_6 rfl (fun x2 h1 => ?_)
  refine s_icmp_ge (tgt := 40) dX12_rowCode_9 (by decide) ?_ ?_
  ·
    refine s_sub [2] rfl ?_
    exact hK l2 h1
  ·
    refine s_bipush (v := 10) dX12_rowCode_12 rfl ?_
    refine s_iload_n 2 dX12_rowCode_14 rfl rfl ?_
    refine s_imul dX12_rowCode_15 ?_
    refine s_iload_n 1 dX12_rowCode_16 rfl rfl ?_
    refine s_aload_n 0 dX12_rowCode_17 rfl rfl ?_
    refine s_aload_n 0 dX12_rowCode_18 rfl rfl ?_
    refine s_callVi (s0 := 0) (As := []) (rest := [rv g 10 0, .int l1, .int ((10 : Int32) * l2)]) (cX12_runs_ok g h1) vl_X12_450 rfl (Nat.le_of_ble_eq_true rfl) (Nat.le_of_ble_eq_true rfl) dX12_rowCode_19 rfl (fun x4 h3 => ?_)
    refine s_iconst (v := 1) dX12_rowCode_22 rfl ?_
    refine s_isub dX12_rowCode_23 ?_
    refine s_iload_n 3 dX12_rowCode_24 rfl rfl ?_
    refine s_isub dX12_rowCode_25 ?_
    refine s_callVi (s0 := 0) (As := [.int ((x4 - (1 : Int32)) - l3)]) (rest := [.int l1, .int ((10 : Int32) * l2)]) (cX12_fives_ok g ((x4 - (1 : Int32)) - l3) h3) vl_X12_459 rfl (Nat.le_of_ble_eq_true rfl) (Nat.le_of_ble_eq_true rfl) dX12_rowCode_26 rfl (fun x6 h5 => ?_)
    refine s_idiv dX12_rowCode_29 ?_
    refine s_iconst (v := 5) dX12_rowCode_30 rfl ?_
    refine s_iremc dX12_rowCode_31 (by decide) ?_
    refine s_iadd dX12_rowCode_32 ?_
    refine s_leti (fun x7 => ?_)
    refine s_istore_n (ls' := [(2, .int x7), (0, rv g 10 0), (1, .int l1), (3, .int l3)]) dX12_rowCode_33 rfl (by decide) rfl ?_
    refine s_iincl 3 (w := 1) (fun x8 => [(3, .int x8), (2, .int x7), (0, rv g 10 0), (1, .int l1)]) dX12_rowCode_34 rfl rfl (by decide) (fun _ => rfl) (fun x8 => ?_)
    refine s_goto (tgt := 4) dX12_rowCode_37 (by decide) ?_
    refine s_sub [2, 3, 1, 0] rfl ?_
    exact hrec x7 x8 h5
set_option maxHeartbeats 4000000 in
set_option maxRecDepth 100000 in
theorem cX12_rowCode_ok (g : GE) (l1 : Int32) (h : Hp) : Con cvi 1 g mX12_rowCode 4 [rv g 10 0, .int l1] h (fX12_rowCode l1 h) := by
  refine Con.of (by decide +kernel) (Nat.le_of_ble_eq_true rfl) ?_
  show Sim cvi 1 g mX12_rowCode 4 0 [(0, rv g 10 0), (1, .int l1)] [] h _
  unfold fX12_rowCode
  refine s_iconst (v := 1) dX12_rowCode_0 rfl ?_
  refine s_istore_n (ls' := [(2, .int 1), (0, rv g 10 0), (1, .int l1)]) dX12_rowCode_1 rfl (by decide) rfl ?_
  refine s_iconst (v := 0) dX12_rowCode_2 rfl ?_
  refine s_istore_n (ls' := [(3, .int 0), (2, .int 1), (0, rv g 10 0), (1, .int l1)]) dX12_rowCode_3 rfl (by decide) rfl ?_
  refine s_sub (ls' := [(0, rv g 10 0), (1, .int l1), (2, .int 1), (3, .int 0)]) [2, 3, 1, 0] rfl ?_
  refine sX12_rowCode_l4 g l1 _ (fun y9 h10 => ?_) FU 1 0 h
  refine s_iload_n 0 dX12_rowCode_40 rfl rfl ?_
  exact s_iret rfl dX12_rowCode_41
def fX12_noteFit_l74 (l1 : Int32) (K : Hp → Option (Unit × Hp)) (rec : Int32 → Hp → Option (Unit × Hp)) (l5 : Int32) (h : Hp) : Option (Unit × Hp) :=
  bnd (fX12_runs h) fun x15 h14 =>
  if x15 ≤ l5 then (K h14)
  else (ck (ib l5 4) (
  bnd (fX12_runs h14) fun x17 h16 =>
  bnd (fX12_fives ((x17 - (1 : Int32)) - l5) h16) fun x19 h18 =>
  ck (!decide (x19 = 0)) (
  ck (ib l5 4) (lt (wa h18 65 0 l5 ((ra h14 65 0 l5) ||| ((1 : Int32) <<< ((irm (l1 / x19) 5) &&& 31)))) fun h20 =>
  lt (l5 + 1) fun x21 =>
  rec x21 h20))))
def fX12_noteFit_l121 (K : Hp → Option (Unit × Hp)) (rec : Int32 → Hp → Option (Unit × Hp)) (l5 : Int32) (h : Hp) : Option (Unit × Hp) :=
  if (105 : Int32) ≤ l5 then (K h)
  else (ck (ib l5 105) (
  ck (ib (l5 / 5) 64) (
  bnd (fX12_has (ra h 57 0 (l5 / 5)) (irm l5 5) h) fun x24 h23 =>
  jn (κ := Int32 → Hp → Option (Unit × Hp)) (fun z0_24 h26 => ck (ib l5 105) (lt (wa h26 66 0 l5 ((ra h 66 0 l5) + z0_24)) fun h27 =>
  lt (l5 + 1) fun x28 =>
  rec x28 h27)) fun k160_24 =>
  if x24 = 0 then (k160_24 0 h23)
  else (k160_24 1 h23))))
def fX12_noteFit (l1 : Int32) (l2 : Int32) (l3 : Int32) (l4 : Int32) (h : Hp) : Option (Unit × Hp) :=
  jn (κ := Int32 → Hp → Option (Unit × Hp)) (fun z0_0 h2 => lt (wr h2 10 0 54 z0_0) fun h3 =>
  bnd (fX12_lesser (rd h3 10 0 55) l3 h3) fun x5 h4 =>
  lt (wr h4 10 0 55 x5) fun h6 =>
  bnd (fX12_greater (rd h6 10 0 56) l3 h6) fun x8 h7 =>
  lt (wr h7 10 0 56 x8) fun h9 =>
  bnd (fX12_greater (rd h9 10 0 57) l4 h9) fun x11 h10 =>
  lt (wr h10 10 0 57 x11) fun h12 =>
  lt (wr h12 10 0 53 ((rd h12 10 0 53) + (1 : Int32))) fun h13 =>
  itr1 (fX12_noteFit_l74 l1 (fun h22 => itr1 (fX12_noteFit_l121 (fun h29 => some ((), h29))) FU 0 h22)) FU 0 h13) fun k21_0 =>
  if (rd h 10 0 53) = l2 then (bnd (fX12_rowCode l1 h) fun x31 h30 =>
  k21_0 x31 h30)
  else (k21_0 (rd h 10 0 54) h)
set_option maxHeartbeats 4000000 in
set_option maxRecDepth 100000 in
theorem sX12_noteFit_l74 (g : GE) (l1 : Int32) (K : Hp → Option (Unit × Hp)) (hK : ∀ (h : Hp), Sim cvv 1 g mX12_noteFit 5 118 [(0, rv g 10 0)] [] h (K  h)) : ∀ (n : Nat) (l5 : Int32) (h : Hp), Sim cvv 1 g mX12_noteFit 5 74 [(0, rv g 10 0), (1, .int l1), (5, .int l5)] [] h (itr1 (fX12_noteFit_l74 l1 K) n l5 h) := by
  refine s_itr1 (fun l5 h o => Sim cvv 1 g mX12_noteFit 5 74 [(0, rv g 10 0), (1, .int l1), (5, .int l5)] [] h o) (fun _ _ => s_none) ?_
  intro rec hrec l5 h
  unfold fX12_noteFit_l74
  refine s_iload 2 dX12_noteFit_74 rfl ?_
  refine s_aload_n 0 dX12_noteFit_76 rfl rfl ?_
  refine s_callVi (s0 := 0) (As := []) (rest := [.int l5]) (cX12_runs_ok g h) vl_X12_450 rfl (Nat.le_of_ble_eq_true rfl) (Nat.le_of_ble_eq_true rfl) dX12_noteFit_77 rfl (fun x15 h14 => ?_)
  refine s_icmp_ge (tgt := 118) dX12_noteFit_80 (by decide) ?_ ?_
  ·
    refine s_sub [0] rfl ?_
    exact hK h14
  ·
    refine s_aload_n 0 dX12_noteFit_83 rfl rfl ?_
    refine s_getr (s0 := 0) dX12_noteFit_84 fl_X12_78 ?_
    refine s_iload 2 dX12_noteFit_87 rfl ?_
    refine s_dup2 dX12_noteFit_89 rfl rfl ?_
    refine s_iald (s0 := 0) ka_65 dX12_noteFit_90 ?_
    refine s_iconst (v := 1) dX12_noteFit_91 rfl ?_
    refine s_iload_n 1 dX12_noteFit_92 rfl rfl ?_
    refine s_aload_n 0 dX12_noteFit_93 rfl rfl ?_
    refine s_aload_n 0 dX12_noteFit_94 rfl rfl ?_
    refine s_callVi (s0 := 0) (As := []) (rest := [rv g 10 0, .int l1, .int 1, .int (ra h14 65 0 l5), .int l5, rv g 65 0]) (cX12_runs_ok g h14) vl_X12_450 rfl (Nat.le_of_ble_eq_true rfl) (Nat.le_of_ble_eq_true rfl) dX12_noteFit_95 rfl (fun x17 h16 => ?_)
    refine s_iconst (v := 1) dX12_noteFit_98 rfl ?_
    refine s_isub dX12_noteFit_99 ?_
    refine s_iload 2 dX12_noteFit_100 rfl ?_
    refine s_isub dX12_noteFit_102 ?_
    refine s_callVi (s0 := 0) (As := [.int ((x17 - (1 : Int32)) - l5)]) (rest := [.int l1, .int 1, .int (ra h14 65 0 l5), .int l5, rv g 65 0]) (cX12_fives_ok g ((x17 - (1 : Int32)) - l5) h16) vl_X12_459 rfl (Nat.le_of_ble_eq_true rfl) (Nat.le_of_ble_eq_true rfl) dX12_noteFit_103 rfl (fun x19 h18 => ?_)
    refine s_idiv dX12_noteFit_106 ?_
    refine s_iconst (v := 5) dX12_noteFit_107 rfl ?_
    refine s_iremc dX12_noteFit_108 (by decide) ?_
    refine s_ishl dX12_noteFit_109 ?_
    refine s_ior dX12_noteFit_110 ?_
    refine s_iast (s0 := 0) ka_65 dX12_noteFit_111 (fun h20 => ?_)
    refine s_iincl 2 (w := 1) (fun x21 => [(5, .int x21), (0, rv g 10 0), (1, .int l1)]) dX12_noteFit_112 rfl rfl (by decide) (fun _ => rfl) (fun x21 => ?_)
    refine s_goto (tgt := 74) dX12_noteFit_115 (by decide) ?_
    refine s_sub [1, 2, 0] rfl ?_
    exact hrec x21 h20
set_option maxHeartbeats 4000000 in
set_option maxRecDepth 100000 in
theorem sX12_noteFit_l121 (g : GE) (K : Hp → Option (Unit × Hp)) (hK : ∀ (h : Hp), Sim cvv 1 g mX12_noteFit 5 168 [] [] h (K  h)) : ∀ (n : Nat) (l5 : Int32) (h : Hp), Sim cvv 1 g mX12_noteFit 5 121 [(0, rv g 10 0), (5, .int l5)] [] h (itr1 (fX12_noteFit_l121 K) n l5 h) := by
  refine s_itr1 (fun l5 h o => Sim cvv 1 g mX12_noteFit 5 121 [(0, rv g 10 0), (5, .int l5)] [] h o) (fun _ _ => s_none) ?_
  intro rec hrec l5 h
  unfold fX12_noteFit_l121
  refine s_iload 1 dX12_noteFit_121 rfl ?_
  refine s_bipush (v := 105) dX12_noteFit_123 rfl ?_
  refine s_icmp_ge (tgt := 168) dX12_noteFit_125 (by decide) ?_ ?_
  ·
    refine s_sub [] rfl ?_
    exact hK h
  ·
    refine s_aload_n 0 dX12_noteFit_128 rfl rfl ?_
    refine s_getr (s0 := 0) dX12_noteFit_129 fl_X12_81 ?_
    refine s_iload 1 dX12_noteFit_132 rfl ?_
    refine s_dup2 dX12_noteFit_134 rfl rfl ?_
    refine s_iald (s0 := 0) ka_66 dX12_noteFit_135 ?_
    refine s_aload_n 0 dX12_noteFit_136 rfl rfl ?_
    refine s_getr (s0 := 0) dX12_noteFit_137 fl_X12_53 ?_
    refine s_iload 1 dX12_noteFit_140 rfl ?_
    refine s_iconst (v := 5) dX12_noteFit_142 rfl ?_
    refine s_idivc dX12_noteFit_143 (by decide) ?_
    refine s_iald (s0 := 0) ka_57 dX12_noteFit_144 ?_
    refine s_iload 1 dX12_noteFit_145 rfl ?_
    refine s_iconst (v := 5) dX12_noteFit_147 rfl ?_
    refine s_iremc dX12_noteFit_148 (by decide) ?_
    refine s_callSi (As := [.int (ra h 57 0 (l5 / 5)), .int (irm l5 5)]) (rest := [.int (ra h 66 0 l5), .int l5, rv g 66 0]) (cX12_has_ok g (ra h 57 0 (l5 / 5)) (irm l5 5) h) sl_X12_92 rfl (Nat.le_of_ble_eq_true rfl) (Nat.le_of_ble_eq_true rfl) dX12_noteFit_149 rfl (fun x24 h23 => ?_)
    refine s_jn (fun (k160_24 : Int32 → Hp → Option (Unit × Hp)) => ∀ (z0_24 : Int32) (h26 : Hp), Sim cvv 1 g mX12_noteFit 5 160 [(0, rv g 10 0), (5, .int l5)] [.int z0_24, .int (ra h 66 0 l5), .int l5, rv g 66 0] h26 (k160_24 z0_24 h26)) (fun z0_24 h26 => ?_) (fun k160_24 Hk160_24 => ?_)
    ·
      refine s_iadd dX12_noteFit_160 ?_
      refine s_iast (s0 := 0) ka_66 dX12_noteFit_161 (fun h27 => ?_)
      refine s_iincl 1 (w := 1) (fun x28 => [(5, .int x28), (0, rv g 10 0)]) dX12_noteFit_162 rfl rfl (by decide) (fun _ => rfl) (fun x28 => ?_)
      refine s_goto (tgt := 121) dX12_noteFit_165 (by decide) ?_
      refine s_sub [1, 0] rfl ?_
      exact hrec x28 h27
    refine s_if_eq (tgt := 159) dX12_noteFit_152 (by decide) ?_ ?_
    ·
      refine s_iconst (v := 0) dX12_noteFit_159 rfl ?_
      exact Hk160_24 0 h23
    ·
      refine s_iconst (v := 1) dX12_noteFit_155 rfl ?_
      refine s_goto (tgt := 160) dX12_noteFit_156 (by decide) ?_
      exact Hk160_24 1 h23
set_option maxHeartbeats 4000000 in
set_option maxRecDepth 100000 in
theorem cX12_noteFit_ok (g : GE) (l1 : Int32) (l2 : Int32) (l3 : Int32) (l4 : Int32) (h : Hp) : Con cvv 1 g mX12_noteFit 5 [rv g 10 0, .int l1, .int l2, .int l3, .int l4] h (fX12_noteFit l1 l2 l3 l4 h) := by
  refine Con.of (by decide +kernel) (Nat.le_of_ble_eq_true rfl) ?_
  show Sim cvv 1 g mX12_noteFit 5 0 [(0, rv g 10 0), (1, .int l1), (2, .int l2), (3, .int l3), (4, .int l4)] [] h _
  unfold fX12_noteFit
  refine s_aload_n 0 dX12_noteFit_0 rfl rfl ?_
  refine s_aload_n 0 dX12_noteFit_1 rfl rfl ?_
  refine s_geti (s0 := 0) dX12_noteFit_2 fl_X12_462 ?_
  refine s_iload_n 2 dX12_noteFit_5 rfl rfl ?_
  refine s_jn (fun (k21_0 : Int32 → Hp → Option (Unit × Hp)) => ∀ (z0_0 : Int32) (h2 : Hp), Sim cvv 1 g mX12_noteFit 5 21 [(0, rv g 10 0), (1, .int l1), (3, .int l3), (4, .int l4)] [.int z0_0, rv g 10 0] h2 (k21_0 z0_0 h2)) (fun z0_0 h2 => ?_) (fun k21_0 Hk21_0 => ?_)
  ·
    refine s_puti (s0 := 0) dX12_noteFit_21 fl_X12_468 (fun h3 => ?_)
    refine s_aload_n 0 dX12_noteFit_24 rfl rfl ?_
    refine s_aload_n 0 dX12_noteFit_25 rfl rfl ?_
    refine s_geti (s0 := 0) dX12_noteFit_26 fl_X12_471 ?_
    refine s_iload_n 2 dX12_noteFit_29 rfl rfl ?_
    refine s_callSi (As := [.int (rd h3 10 0 55), .int l3]) (rest := [rv g 10 0]) (cX12_lesser_ok g (rd h3 10 0 55) l3 h3) sl_X12_162 rfl (Nat.le_of_ble_eq_true rfl) (Nat.le_of_ble_eq_true rfl) dX12_noteFit_30 rfl (fun x5 h4 => ?_)
    refine s_puti (s0 := 0) dX12_noteFit_33 fl_X12_471 (fun h6 => ?_)
    refine s_aload_n 0 dX12_noteFit_36 rfl rfl ?_
    refine s_aload_n 0 dX12_noteFit_37 rfl rfl ?_
    refine s_geti (s0 := 0) dX12_noteFit_38 fl_X12_474 ?_
    refine s_iload_n 2 dX12_noteFit_41 rfl rfl ?_
    refine s_callSi (As := [.int (rd h6 10 0 56), .int l3]) (rest := [rv g 10 0]) (cX12_greater_ok g (rd h6 10 0 56) l3 h6) sl_X12_280 rfl (Nat.le_of_ble_eq_true rfl) (Nat.le_of_ble_eq_true rfl) dX12_noteFit_42 rfl (fun x8 h7 => ?_)
    refine s_puti (s0 := 0) dX12_noteFit_45 fl_X12_474 (fun h9 => ?_)
    refine s_aload_n 0 dX12_noteFit_48 rfl rfl ?_
    refine s_aload_n 0 dX12_noteFit_49 rfl rfl ?_
    refine s_geti (s0 := 0) dX12_noteFit_50 fl_X12_477 ?_
    refine s_iload 3 dX12_noteFit_53 rfl ?_
    refine s_callSi (As := [.int (rd h9 10 0 57), .int l4]) (rest := [rv g 10 0]) (cX12_greater_ok g (rd h9 10 0 57) l4 h9) sl_X12_280 rfl (Nat.le_of_ble_eq_true rfl) (Nat.le_of_ble_eq_true rfl) dX12_noteFit_55 rfl (fun x11 h10 => ?_)
    refine s_puti (s0 := 0) dX12_noteFit_58 fl_X12_477 (fun h12 => ?_)
    refine s_aload_n 0 dX12_noteFit_61 rfl rfl ?_
    refine s_dup dX12_noteFit_62 rfl ?_
    refine s_geti (s0 := 0) dX12_noteFit_63 fl_X12_462 ?_
    refine s_iconst (v := 1) dX12_noteFit_66 rfl ?_
    refine s_iadd dX12_noteFit_67 ?_
    refine s_puti (s0 := 0) dX12_noteFit_68 fl_X12_462 (fun h13 => ?_)
    refine s_iconst (v := 0) dX12_noteFit_71 rfl ?_
    refine s_istore (ls' := [(5, .int 0), (0, rv g 10 0), (1, .int l1), (3, .int l3), (4, .int l4)]) dX12_noteFit_72 (by decide) rfl ?_
    refine s_sub (ls' := [(0, rv g 10 0), (1, .int l1), (5, .int 0)]) [1, 2, 0] rfl ?_
    refine sX12_noteFit_l74 g l1 _ (fun h22 => ?_) FU 0 h13
    refine s_iconst (v := 0) dX12_noteFit_118 rfl ?_
    refine s_istore (ls' := [(5, .int 0), (0, rv g 10 0)]) dX12_noteFit_119 (by decide) rfl ?_
    refine s_sub (ls' := [(0, rv g 10 0), (5, .int 0)]) [1, 0] rfl ?_
    refine sX12_noteFit_l121 g _ (fun h29 => ?_) FU 0 h22
    exact s_vret rfl dX12_noteFit_168
  refine s_icmp_ne (tgt := 17) dX12_noteFit_6 (by decide) ?_ ?_
  ·
    refine s_aload_n 0 dX12_noteFit_9 rfl rfl ?_
    refine s_iload_n 1 dX12_noteFit_10 rfl rfl ?_
    refine s_callVi (s0 := 0) (As := [.int l1]) (rest := [rv g 10 0]) (cX12_rowCode_ok g l1 h) vl_X12_465 rfl (Nat.le_of_ble_eq_true rfl) (Nat.le_of_ble_eq_true rfl) dX12_noteFit_11 rfl (fun x31 h30 => ?_)
    refine s_goto (tgt := 21) dX12_noteFit_14 (by decide) ?_
    refine s_sub [0, 1, 3, 4] rfl ?_
    exact Hk21_0 x31 h30
  ·
    refine s_aload_n 0 dX12_noteFit_17 rfl rfl ?_
    refine s_geti (s0 := 0) dX12_noteFit_18 fl_X12_468 ?_
    refine s_sub [0, 1, 3, 4] rfl ?_
    exact Hk21_0 (rd h 10 0 54) h
def fX12_runsAll_l6 (l1 : Int32) (K : Hp → Option (Int32 × Hp)) (rec : Int32 → Hp → Option (Int32 × Hp)) (l2 : Int32) (h : Hp) : Option (Int32 × Hp) :=
  bnd (fX12_runs h) fun x3 h2 =>
  if x3 ≤ l2 then (K h2)
  else (bnd (fX12_runs h2) fun x5 h4 =>
  bnd (fX12_fives ((x5 - (1 : Int32)) - l2) h4) fun x7 h6 =>
  ck (!decide (x7 = 0)) (
  lt (irm (l1 / x7) 5) fun x8 =>
  bnd (fX12_isPlate x8 h6) fun x10 h9 =>
  if x10 = 0 then (ck (zk 0) (some (0, h9)))
  else (bnd (fX12_run x8 h9) fun x12 h11 =>
  if x12 = 0 then (ck (zk 0) (some (0, h11)))
  else (lt (l2 + 1) fun x13 =>
  rec x13 h11))))
def fX12_runsAll (l1 : Int32) (h : Hp) : Option (Int32 × Hp) :=
  bnd (fX12_beginShow h) fun _ h1 =>
  itr1 (fX12_runsAll_l6 l1 (fun h14 => ck (zk 1) (some (1, h14)))) FU 0 h1
set_option maxHeartbeats 4000000 in
set_option maxRecDepth 100000 in
theorem sX12_runsAll_l6 (g : GE) (l1 : Int32) (K : Hp → Option (Int32 × Hp)) (hK : ∀ (h : Hp), Sim cvi 1 g mX12_runsAll 5 55 [] [] h (K  h)) : ∀ (n : Nat) (l2 : Int32) (h : Hp), Sim cvi 1 g mX12_runsAll 5 6 [(0, rv g 10 0), (1, .int l1), (2, .int l2)] [] h (itr1 (fX12_runsAll_l6 l1 K) n l2 h) := by
  refine s_itr1 (fun l2 h o => Sim cvi 1 g mX12_runsAll 5 6 [(0, rv g 10 0), (1, .int l1), (2, .int l2)] [] h o) (fun _ _ => s_none) ?_
  intro rec hrec l2 h
  unfold fX12_runsAll_l6
  refine s_iload_n 2 dX12_runsAll_6 rfl rfl ?_
  refine s_aload_n 0 dX12_runsAll_7 rfl rfl ?_
  refine s_callVi (s0 := 0) (As := []) (rest := [.int l2]) (cX12_runs_ok g h) vl_X12_450 rfl (Nat.le_of_ble_eq_true rfl) (Nat.le_of_ble_eq_true rfl) dX12_runsAll_8 rfl (fun x3 h2 => ?_)
  refine s_icmp_ge (tgt := 55) dX12_runsAll_11 (by decide) ?_ ?_
  ·
    refine s_sub [] rfl ?_
    exact hK h2
  ·
    refine s_iload_n 1 dX12_runsAll_14 rfl rfl ?_
    refine s_aload_n 0 dX12_runsAll_15 rfl rfl ?_
    refine s_aload_n 0 dX12_runsAll_16 rfl rfl ?_
    refine s_callVi (s0 := 0) (As := []) (rest := [rv g 10 0, .int l1]) (cX12_runs_ok g h2) vl_X12_450 rfl (Nat.le_of_ble_eq_true rfl) (Nat.le_of_ble_eq_true rfl) dX12_runsAll_17 rfl (fun x5 h4 => ?_)
    refine s_iconst (v := 1) dX12_runsAll_20 rfl ?_
    refine s_isub dX12_runsAll_21 ?_
    refine s_iload_n 2 dX12_runsAll_22 rfl rfl ?_
    refine s_isub dX12_runsAll_23 ?_
    refine s_callVi (s0 := 0) (As := [.int ((x5 - (1 : Int32)) - l2)]) (rest := [.int l1]) (cX12_fives_ok g ((x5 - (1 : Int32)) - l2) h4) vl_X12_459 rfl (Nat.le_of_ble_eq_true rfl) (Nat.le_of_ble_eq_true rfl) dX12_runsAll_24 rfl (fun x7 h6 => ?_)
    refine s_idiv dX12_runsAll_27 ?_
    refine s_iconst (v := 5) dX12_runsAll_28 rfl ?_
    refine s_iremc dX12_runsAll_29 (by decide) ?_
    refine s_leti (fun x8 => ?_)
    refine s_istore_n (ls' := [(3, .int x8), (0, rv g 10 0), (1, .int l1), (2, .int l2)]) dX12_runsAll_30 rfl (by decide) rfl ?_
    refine s_aload_n 1 dX12_runsAll_31 rfl rfl ?_
    refine s_iload_n 0 dX12_runsAll_32 rfl rfl ?_
    refine s_callVi (s0 := 0) (As := [.int x8]) (rest := []) (cX12_isPlate_ok g x8 h6) vl_X12_244 rfl (Nat.le_of_ble_eq_true rfl) (Nat.le_of_ble_eq_true rfl) dX12_runsAll_33 rfl (fun x10 h9 => ?_)
    refine s_if_eq (tgt := 47) dX12_runsAll_36 (by decide) ?_ ?_
    ·
      refine s_iconst (v := 0) dX12_runsAll_47 rfl ?_
      exact s_zret rfl dX12_runsAll_48
    ·
      refine s_aload_n 1 dX12_runsAll_39 rfl rfl ?_
      refine s_iload_n 0 dX12_runsAll_40 rfl rfl ?_
      refine s_callVi (s0 := 0) (As := [.int x8]) (rest := []) (cX12_run_ok g x8 h9) vl_X12_292 rfl (Nat.le_of_ble_eq_true rfl) (Nat.le_of_ble_eq_true rfl) dX12_runsAll_41 rfl (fun x12 h11 => ?_)
      refine s_if_ne (tgt := 49) dX12_runsAll_44 (by decide) ?_ ?_
      ·
        refine s_iconst (v := 0) dX12_runsAll_47 rfl ?_
        exact s_zret rfl dX12_runsAll_48
      ·
        refine s_iincl 3 (w := 1) (fun x13 => [(2, .int x13), (3, .int x8), (0, rv g 10 0), (1, .int l1)]) dX12_runsAll_49 rfl rfl (by decide) (fun _ => rfl) (fun x13 => ?_)
        refine s_goto (tgt := 6) dX12_runsAll_52 (by decide) ?_
        refine s_sub [2, 3, 0] rfl ?_
        exact hrec x13 h11
set_option maxHeartbeats 4000000 in
set_option maxRecDepth 100000 in
theorem cX12_runsAll_ok (g : GE) (l1 : Int32) (h : Hp) : Con cvi 1 g mX12_runsAll 5 [rv g 10 0, .int l1] h (fX12_runsAll l1 h) := by
  refine Con.of (by decide +kernel) (Nat.le_of_ble_eq_true rfl) ?_
  show Sim cvi 1 g mX12_runsAll 5 0 [(0, rv g 10 0), (1, .int l1)] [] h _
  unfold fX12_runsAll
  refine s_aload_n 0 dX12_runsAll_0 rfl rfl ?_
  refine s_callVv (s0 := 0) (As := []) (rest := []) (cX12_beginShow_ok g h) vl_X12_316 rfl (Nat.le_of_ble_eq_true rfl) (Nat.le_of_ble_eq_true rfl) dX12_runsAll_1 rfl (fun h1 => ?_)
  refine s_iconst (v := 0) dX12_runsAll_4 rfl ?_
  refine s_istore_n (ls' := [(2, .int 0), (0, rv g 10 0), (1, .int l1)]) dX12_runsAll_5 rfl (by decide) rfl ?_
  refine s_sub (ls' := [(0, rv g 10 0), (1, .int l1), (2, .int 0)]) [1, 2, 0] rfl ?_
  refine sX12_runsAll_l6 g l1 _ (fun h14 => ?_) FU 0 h1
  refine s_iconst (v := 1) dX12_runsAll_55 rfl ?_
  exact s_zret rfl dX12_runsAll_56
def fX12_findRows_l30 (K : Hp → Option (Unit × Hp)) (rec : Int32 → Hp → Option (Unit × Hp)) (l2 : Int32) (h : Hp) : Option (Unit × Hp) :=
  if (4 : Int32) ≤ l2 then (K h)
  else (ck (ib l2 4) (lt (wa h 65 0 l2 0) fun h6 =>
  lt (l2 + 1) fun x7 =>
  rec x7 h6))
def fX12_findRows_l50 (K : Hp → Option (Unit × Hp)) (rec : Int32 → Hp → Option (Unit × Hp)) (l2 : Int32) (h : Hp) : Option (Unit × Hp) :=
  if (105 : Int32) ≤ l2 then (K h)
  else (ck (ib l2 105) (lt (wa h 66 0 l2 0) fun h9 =>
  lt (l2 + 1) fun x10 =>
  rec x10 h9))
def fX12_findRows_l105 (K : Hp → Option (Unit × Hp)) (rec : Hp → Option (Unit × Hp)) (h : Hp) : Option (Unit × Hp) :=
  if (30 : Int32) < (rd h 10 0 30) then (K h)
  else (bnd (fX12_beat (-1) h) fun _ h26 =>
  rec h26)
def fX12_findRows_l71 (l1 : Int32) (K : Hp → Option (Unit × Hp)) (rec : Int32 → Hp → Option (Unit × Hp)) (l2 : Int32) (h : Hp) : Option (Unit × Hp) :=
  bnd (fX12_runs h) fun x13 h12 =>
  bnd (fX12_fives x13 h12) fun x15 h14 =>
  if x15 ≤ l2 then (K h14)
  else (bnd (fX12_runsAll l2 h14) fun x17 h16 =>
  jn (κ := Hp → Option (Unit × Hp)) (fun h19 => lt (l2 + 1) fun x20 =>
  rec x20 h19) fun k138_17 =>
  if x17 = 0 then (k138_17 h16)
  else (lt (rd h16 10 0 30) fun x21 =>
  bnd (fX12_standNow h16) fun x23 h22 =>
  bnd (fX12_ones x23 h22) fun x25 h24 =>
  itr0 (fX12_findRows_l105 (fun h27 => bnd (fX12_isSo h27) fun x29 h28 =>
  if x29 = 0 then (k138_17 h28)
  else (bnd (fX12_noteFit l2 l1 x21 x25 h28) fun _ h30 =>
  k138_17 h30))) FU h24))
def fX12_findRows (l1 : Int32) (h : Hp) : Option (Unit × Hp) :=
  lt (wr h 10 0 53 0) fun h1 =>
  lt (wr h1 10 0 54 (-2)) fun h2 =>
  lt (wr h2 10 0 55 1000000) fun h3 =>
  lt (wr h3 10 0 56 (-1)) fun h4 =>
  lt (wr h4 10 0 57 (-1)) fun h5 =>
  itr1 (fX12_findRows_l30 (fun h8 => itr1 (fX12_findRows_l50 (fun h11 => itr1 (fX12_findRows_l71 l1 (fun h31 => some ((), h31))) FU 0 h11)) FU 0 h8)) FU 0 h5
set_option maxHeartbeats 4000000 in
set_option maxRecDepth 100000 in
theorem sX12_findRows_l30 (g : GE) (l1 : Int32) (K : Hp → Option (Unit × Hp)) (hK : ∀ (h : Hp), Sim cvv 1 g mX12_findRows 6 48 [(0, rv g 10 0), (1, .int l1)] [] h (K  h)) : ∀ (n : Nat) (l2 : Int32) (h : Hp), Sim cvv 1 g mX12_findRows 6 30 [(0, rv g 10 0), (1, .int l1), (2, .int l2)] [] h (itr1 (fX12_findRows_l30 K) n l2 h) := by
  refine s_itr1 (fun l2 h o => Sim cvv 1 g mX12_findRows 6 30 [(0, rv g 10 0), (1, .int l1), (2, .int l2)] [] h o) (fun _ _ => s_none) ?_
  intro rec hrec l2 h
  unfold fX12_findRows_l30
  refine s_iload_n 2 dX12_findRows_30 rfl rfl ?_
  refine s_iconst (v := 4) dX12_findRows_31 rfl ?_
  refine s_icmp_ge (tgt := 48) dX12_findRows_32 (by decide) ?_ ?_
  ·
    refine s_sub [0, 1] rfl ?_
    exact hK h
  ·
    refine s_aload_n 0 dX12_findRows_35 rfl rfl ?_
    refine s_getr (s0 := 0) dX12_findRows_36 fl_X12_78 ?_
    refine s_iload_n 2 dX12_findRows_39 rfl rfl ?_
    refine s_iconst (v := 0) dX12_findRows_40 rfl ?_
    refine s_iast (s0 := 0) ka_65 dX12_findRows_41 (fun h6 => ?_)
    refine s_iincl 2 (w := 1) (fun x7 => [(2, .int x7), (0, rv g 10 0), (1, .int l1)]) dX12_findRows_42 rfl rfl (by decide) (fun _ => rfl) (fun x7 => ?_)
    refine s_goto (tgt := 30) dX12_findRows_45 (by decide) ?_
    refine s_sub [1, 2, 0] rfl ?_
    exact hrec x7 h6
set_option maxHeartbeats 4000000 in
set_option maxRecDepth 100000 in
theorem sX12_findRows_l50 (g : GE) (l1 : Int32) (K : Hp → Option (Unit × Hp)) (hK : ∀ (h : Hp), Sim cvv 1 g mX12_findRows 6 69 [(0, rv g 10 0), (1, .int l1)] [] h (K  h)) : ∀ (n : Nat) (l2 : Int32) (h : Hp), Sim cvv 1 g mX12_findRows 6 50 [(0, rv g 10 0), (1, .int l1), (2, .int l2)] [] h (itr1 (fX12_findRows_l50 K) n l2 h) := by
  refine s_itr1 (fun l2 h o => Sim cvv 1 g mX12_findRows 6 50 [(0, rv g 10 0), (1, .int l1), (2, .int l2)] [] h o) (fun _ _ => s_none) ?_
  intro rec hrec l2 h
  unfold fX12_findRows_l50
  refine s_iload_n 2 dX12_findRows_50 rfl rfl ?_
  refine s_bipush (v := 105) dX12_findRows_51 rfl ?_
  refine s_icmp_ge (tgt := 69) dX12_findRows_53 (by decide) ?_ ?_
  ·
    refine s_sub [0, 1] rfl ?_
    exact hK h
  ·
    refine s_aload_n 0 dX12_findRows_56 rfl rfl ?_
    refine s_getr (s0 := 0) dX12_findRows_57 fl_X12_81 ?_
    refine s_iload_n 2 dX12_findRows_60 rfl rfl ?_
    refine s_iconst (v := 0) dX12_findRows_61 rfl ?_
    refine s_iast (s0 := 0) ka_66 dX12_findRows_62 (fun h9 => ?_)
    refine s_iincl 2 (w := 1) (fun x10 => [(2, .int x10), (0, rv g 10 0), (1, .int l1)]) dX12_findRows_63 rfl rfl (by decide) (fun _ => rfl) (fun x10 => ?_)
    refine s_goto (tgt := 50) dX12_findRows_66 (by decide) ?_
    refine s_sub [1, 2, 0] rfl ?_
    exact hrec x10 h9
set_option maxHeartbeats 4000000 in
set_option maxRecDepth 100000 in
theorem sX12_findRows_l105 (g : GE) (l1 : Int32) (l2 : Int32) (l3 : Int32) (l4 : Int32) (K : Hp → Option (Unit × Hp)) (hK : ∀ (h : Hp), Sim cvv 1 g mX12_findRows 6 122 [(0, rv g 10 0), (1, .int l1), (2, .int l2), (3, .int l3), (4, .int l4)] [] h (K  h)) : ∀ (n : Nat) (h : Hp), Sim cvv 1 g mX12_findRows 6 105 [(0, rv g 10 0), (1, .int l1), (2, .int l2), (3, .int l3), (4, .int l4)] [] h (itr0 (fX12_findRows_l105 K) n  h) := by
  refine s_itr0 (fun h o => Sim cvv 1 g mX12_findRows 6 105 [(0, rv g 10 0), (1, .int l1), (2, .int l2), (3, .int l3), (4, .int l4)] [] h o) (fun _ => s_none) ?_
  intro rec hrec  h
  unfold fX12_findRows_l105
  refine s_aload_n 0 dX12_findRows_105 rfl rfl ?_
  refine s_geti (s0 := 0) dX12_findRows_106 fl_X12_250 ?_
  refine s_bipush (v := 30) dX12_findRows_109 rfl ?_
  refine s_icmp_gt (tgt := 122) dX12_findRows_111 (by decide) ?_ ?_
  ·
    exact hK h
  ·
    refine s_aload_n 0 dX12_findRows_114 rfl rfl ?_
    refine s_iconst (v := (-1)) dX12_findRows_115 rfl ?_
    refine s_callVv (s0 := 0) (As := [.int (-1)]) (rest := []) (cX12_beat_ok g (-1) h) vl_X12_289 rfl (Nat.le_of_ble_eq_true rfl) (Nat.le_of_ble_eq_true rfl) dX12_findRows_116 rfl (fun h26 => ?_)
    refine s_goto (tgt := 105) dX12_findRows_119 (by decide) ?_
    exact hrec h26
set_option maxHeartbeats 4000000 in
set_option maxRecDepth 100000 in
theorem sX12_findRows_l71 (g : GE) (l1 : Int32) (K : Hp → Option (Unit × Hp)) (hK : ∀ (h : Hp), Sim cvv 1 g mX12_findRows 6 144 [] [] h (K  h)) : ∀ (n : Nat) (l2 : Int32) (h : Hp), Sim cvv 1 g mX12_findRows 6 71 [(0, rv g 10 0), (1, .int l1), (2, .int l2)] [] h (itr1 (fX12_findRows_l71 l1 K) n l2 h) := by
  refine s_itr1 (fun l2 h o => Sim cvv 1 g mX12_findRows 6 71 [(0, rv g 10 0), (1, .int l1), (2, .int l2)] [] h o) (fun _ _ => s_none) ?_
  intro rec hrec l2 h
  unfold fX12_findRows_l71
  refine s_iload_n 2 dX12_findRows_71 rfl rfl ?_
  refine s_aload_n 0 dX12_findRows_72 rfl rfl ?_
  refine s_aload_n 0 dX12_findRows_73 rfl rfl ?_
  refine s_callVi (s0 := 0) (As := []) (rest := [rv g 10 0, .int l2]) (cX12_runs_ok g h) vl_X12_450 rfl (Nat.le_of_ble_eq_true rfl) (Nat.le_of_ble_eq_true rfl) dX12_findRows_74 rfl (fun x13 h12 => ?_)
  refine s_callVi (s0 := 0) (As := [.int x13]) (rest := [.int l2]) (cX12_fives_ok g x13 h12) vl_X12_459 rfl (Nat.le_of_ble_eq_true rfl) (Nat.le_of_ble_eq_true rfl) dX12_findRows_77 rfl (fun x15 h14 => ?_)
  refine s_icmp_ge (tgt := 144) dX12_findRows_80 (by decide) ?_ ?_
  ·
    refine s_sub [] rfl ?_
    exact hK h14
  ·
    refine s_aload_n 0 dX12_findRows_83 rfl rfl ?_
    refine s_iload_n 2 dX12_findRows_84 rfl rfl ?_
    refine s_callVi (s0 := 0) (As := [.int l2]) (rest := []) (cX12_runsAll_ok g l2 h14) vl_X12_480 rfl (Nat.le_of_ble_eq_true rfl) (Nat.le_of_ble_eq_true rfl) dX12_findRows_85 rfl (fun x17 h16 => ?_)
    refine s_jn (fun (k138_17 : Hp → Option (Unit × Hp)) => ∀ (h19 : Hp), Sim cvv 1 g mX12_findRows 6 138 [(0, rv g 10 0), (1, .int l1), (2, .int l2)] [] h19 (k138_17 h19)) (fun h19 => ?_) (fun k138_17 Hk138_17 => ?_)
    ·
      refine s_iincl 2 (w := 1) (fun x20 => [(2, .int x20), (0, rv g 10 0), (1, .int l1)]) dX12_findRows_138 rfl rfl (by decide) (fun _ => rfl) (fun x20 => ?_)
      refine s_goto (tgt := 71) dX12_findRows_141 (by decide) ?_
      refine s_sub [1, 2, 0] rfl ?_
      exact hrec x20 h19
    refine s_if_eq (tgt := 138) dX12_findRows_88 (by decide) ?_ ?_
    ·
      exact Hk138_17 h16
    ·
      refine s_aload_n 0 dX12_findRows_91 rfl rfl ?_
      refine s_geti (s0 := 0) dX12_findRows_92 fl_X12_250 ?_
      refine s_leti (fun x21 => ?_)
      refine s_istore_n (ls' := [(3, .int x21), (0, rv g 10 0), (1, .int l1), (2, .int l2)]) dX12_findRows_95 rfl (by decide) rfl ?_
      refine s_aload_n 1 dX12_findRows_96 rfl rfl ?_
      refine s_callVi (s0 := 0) (As := []) (rest := []) (cX12_standNow_ok g h16) vl_X12_274 rfl (Nat.le_of_ble_eq_true rfl) (Nat.le_of_ble_eq_true rfl) dX12_findRows_97 rfl (fun x23 h22 => ?_)
      refine s_callSi (As := [.int x23]) (rest := []) (cX12_ones_ok g x23 h22) sl_X12_389 rfl (Nat.le_of_ble_eq_true rfl) (Nat.le_of_ble_eq_true rfl) dX12_findRows_100 rfl (fun x25 h24 => ?_)
      refine s_istore (ls' := [(4, .int x25), (3, .int x21), (0, rv g 10 0), (1, .int l1), (2, .int l2)]) dX12_findRows_103 (by decide) rfl ?_
      refine s_sub (ls' := [(0, rv g 10 0), (1, .int l1), (2, .int l2), (3, .int x21), (4, .int x25)]) [2, 3, 4, 1, 0] rfl ?_
      refine sX12_findRows_l105 g l1 l2 x21 x25 _ (fun h27 => ?_) FU h24
      refine s_aload_n 0 dX12_findRows_122 rfl rfl ?_
      refine s_callVi (s0 := 0) (As := []) (rest := []) (cX12_isSo_ok g h27) vl_X12_483 rfl (Nat.le_of_ble_eq_true rfl) (Nat.le_of_ble_eq_true rfl) dX12_findRows_123 rfl (fun x29 h28 => ?_)
      refine s_if_eq (tgt := 138) dX12_findRows_126 (by decide) ?_ ?_
      ·
        refine s_sub [0, 1, 2] rfl ?_
        exact Hk138_17 h28
      ·
        refine s_aload_n 0 dX12_findRows_129 rfl rfl ?_
        refine s_iload_n 2 dX12_findRows_130 rfl rfl ?_
        refine s_iload_n 1 dX12_findRows_131 rfl rfl ?_
        refine s_iload_n 3 dX12_findRows_132 rfl rfl ?_
        refine s_iload 4 dX12_findRows_133 rfl ?_
        refine s_callVv (s0 := 0) (As := [.int l2, .int l1, .int x21, .int x25]) (rest := []) (cX12_noteFit_ok g l2 l1 x21 x25 h28) vl_X12_486 rfl (Nat.le_of_ble_eq_true rfl) (Nat.le_of_ble_eq_true rfl) dX12_findRows_135 rfl (fun h30 => ?_)
        refine s_sub [0, 1, 2] rfl ?_
        exact Hk138_17 h30
set_option maxHeartbeats 4000000 in
set_option maxRecDepth 100000 in
theorem cX12_findRows_ok (g : GE) (l1 : Int32) (h : Hp) : Con cvv 1 g mX12_findRows 6 [rv g 10 0, .int l1] h (fX12_findRows l1 h) := by
  refine Con.of (by decide +kernel) (Nat.le_of_ble_eq_true rfl) ?_
  show Sim cvv 1 g mX12_findRows 6 0 [(0, rv g 10 0), (1, .int l1)] [] h _
  unfold fX12_findRows
  refine s_aload_n 0 dX12_findRows_0 rfl rfl ?_
  refine s_iconst (v := 0) dX12_findRows_1 rfl ?_
  refine s_puti (s0 := 0) dX12_findRows_2 fl_X12_462 (fun h1 => ?_)
  refine s_aload_n 0 dX12_findRows_5 rfl rfl ?_
  refine s_bipush (v := (-2)) dX12_findRows_6 rfl ?_
  refine s_puti (s0 := 0) dX12_findRows_8 fl_X12_468 (fun h2 => ?_)
  refine s_aload_n 0 dX12_findRows_11 rfl rfl ?_
  refine s_ldcw dX12_findRows_12 w_7_137 ?_
  refine s_puti (s0 := 0) dX12_findRows_15 fl_X12_471 (fun h3 => ?_)
  refine s_aload_n 0 dX12_findRows_18 rfl rfl ?_
  refine s_iconst (v := (-1)) dX12_findRows_19 rfl ?_
  refine s_puti (s0 := 0) dX12_findRows_20 fl_X12_474 (fun h4 => ?_)
  refine s_aload_n 0 dX12_findRows_23 rfl rfl ?_
  refine s_iconst (v := (-1)) dX12_findRows_24 rfl ?_
  refine s_puti (s0 := 0) dX12_findRows_25 fl_X12_477 (fun h5 => ?_)
  refine s_iconst (v := 0) dX12_findRows_28 rfl ?_
  refine s_istore_n (ls' := [(2, .int 0), (0, rv g 10 0), (1, .int l1)]) dX12_findRows_29 rfl (by decide) rfl ?_
  refine s_sub (ls' := [(0, rv g 10 0), (1, .int l1), (2, .int 0)]) [1, 2, 0] rfl ?_
  refine sX12_findRows_l30 g l1 _ (fun h8 => ?_) FU 0 h5
  refine s_iconst (v := 0) dX12_findRows_48 rfl ?_
  refine s_istore_n (ls' := [(2, .int 0), (0, rv g 10 0), (1, .int l1)]) dX12_findRows_49 rfl (by decide) rfl ?_
  refine s_sub (ls' := [(0, rv g 10 0), (1, .int l1), (2, .int 0)]) [1, 2, 0] rfl ?_
  refine sX12_findRows_l50 g l1 _ (fun h11 => ?_) FU 0 h8
  refine s_iconst (v := 0) dX12_findRows_69 rfl ?_
  refine s_istore_n (ls' := [(2, .int 0), (0, rv g 10 0), (1, .int l1)]) dX12_findRows_70 rfl (by decide) rfl ?_
  refine s_sub (ls' := [(0, rv g 10 0), (1, .int l1), (2, .int 0)]) [1, 2, 0] rfl ?_
  refine sX12_findRows_l71 g l1 _ (fun h31 => ?_) FU 0 h11
  exact s_vret rfl dX12_findRows_144
def fX12_hasLog (l1 : Int32) (h : Hp) : Option (Int32 × Hp) :=
  lt (wr h 10 0 52 l1) fun h1 =>
  bnd (fX12_is 2 l1 h1) fun x3 h2 =>
  ck (zk x3) (some (x3, h2))
set_option maxHeartbeats 4000000 in
set_option maxRecDepth 100000 in
theorem cX12_hasLog_ok (g : GE) (l1 : Int32) (h : Hp) : Con cvi 1 g mX12_hasLog 4 [rv g 10 0, .int l1] h (fX12_hasLog l1 h) := by
  refine Con.of (by decide +kernel) (Nat.le_of_ble_eq_true rfl) ?_
  show Sim cvi 1 g mX12_hasLog 4 0 [(0, rv g 10 0), (1, .int l1)] [] h _
  unfold fX12_hasLog
  refine s_aload_n 0 dX12_hasLog_0 rfl rfl ?_
  refine s_iload_n 1 dX12_hasLog_1 rfl rfl ?_
  refine s_puti (s0 := 0) dX12_hasLog_2 fl_X12_444 (fun h1 => ?_)
  refine s_aload_n 0 dX12_hasLog_5 rfl rfl ?_
  refine s_iconst (v := 2) dX12_hasLog_6 rfl ?_
  refine s_iload_n 1 dX12_hasLog_7 rfl rfl ?_
  refine s_callVi (s0 := 0) (As := [.int 2, .int l1]) (rest := []) (cX12_is_ok g 2 l1 h1) vl_X12_209 rfl (Nat.le_of_ble_eq_true rfl) (Nat.le_of_ble_eq_true rfl) dX12_hasLog_8 rfl (fun x3 h2 => ?_)
  exact s_zret rfl dX12_hasLog_11
def fX12_sure_l2 (l1 : Int32) (K : Hp → Option (Int32 × Hp)) (rec : Int32 → Hp → Option (Int32 × Hp)) (l2 : Int32) (h : Hp) : Option (Int32 × Hp) :=
  if (5 : Int32) ≤ l2 then (K h)
  else (ck (ib l1 4) (
  if (ra h 65 0 l1) = ((1 : Int32) <<< (l2 &&& 31)) then (some (l2, h))
  else (lt (l2 + 1) fun x1 =>
  rec x1 h)))
def fX12_sure (l1 : Int32) (h : Hp) : Option (Int32 × Hp) :=
  itr1 (fX12_sure_l2 l1 (fun h2 => some ((-1), h2))) FU 0 h
set_option maxHeartbeats 4000000 in
set_option maxRecDepth 100000 in
theorem sX12_sure_l2 (g : GE) (l1 : Int32) (K : Hp → Option (Int32 × Hp)) (hK : ∀ (h : Hp), Sim cvi 1 g mX12_sure 2 27 [] [] h (K  h)) : ∀ (n : Nat) (l2 : Int32) (h : Hp), Sim cvi 1 g mX12_sure 2 2 [(0, rv g 10 0), (1, .int l1), (2, .int l2)] [] h (itr1 (fX12_sure_l2 l1 K) n l2 h) := by
  refine s_itr1 (fun l2 h o => Sim cvi 1 g mX12_sure 2 2 [(0, rv g 10 0), (1, .int l1), (2, .int l2)] [] h o) (fun _ _ => s_none) ?_
  intro rec hrec l2 h
  unfold fX12_sure_l2
  refine s_iload_n 2 dX12_sure_2 rfl rfl ?_
  refine s_iconst (v := 5) dX12_sure_3 rfl ?_
  refine s_icmp_ge (tgt := 27) dX12_sure_4 (by decide) ?_ ?_
  ·
    refine s_sub [] rfl ?_
    exact hK h
  ·
    refine s_aload_n 0 dX12_sure_7 rfl rfl ?_
    refine s_getr (s0 := 0) dX12_sure_8 fl_X12_78 ?_
    refine s_iload_n 1 dX12_sure_11 rfl rfl ?_
    refine s_iald (s0 := 0) ka_65 dX12_sure_12 ?_
    refine s_iconst (v := 1) dX12_sure_13 rfl ?_
    refine s_iload_n 2 dX12_sure_14 rfl rfl ?_
    refine s_ishl dX12_sure_15 ?_
    refine s_icmp_ne (tgt := 21) dX12_sure_16 (by decide) ?_ ?_
    ·
      refine s_iload_n 2 dX12_sure_19 rfl rfl ?_
      exact s_iret rfl dX12_sure_20
    ·
      refine s_iincl 2 (w := 1) (fun x1 => [(2, .int x1), (0, rv g 10 0), (1, .int l1)]) dX12_sure_21 rfl rfl (by decide) (fun _ => rfl) (fun x1 => ?_)
      refine s_goto (tgt := 2) dX12_sure_24 (by decide) ?_
      refine s_sub [1, 2, 0] rfl ?_
      exact hrec x1 h
set_option maxHeartbeats 4000000 in
set_option maxRecDepth 100000 in
theorem cX12_sure_ok (g : GE) (l1 : Int32) (h : Hp) : Con cvi 1 g mX12_sure 2 [rv g 10 0, .int l1] h (fX12_sure l1 h) := by
  refine Con.of (by decide +kernel) (Nat.le_of_ble_eq_true rfl) ?_
  show Sim cvi 1 g mX12_sure 2 0 [(0, rv g 10 0), (1, .int l1)] [] h _
  unfold fX12_sure
  refine s_iconst (v := 0) dX12_sure_0 rfl ?_
  refine s_istore_n (ls' := [(2, .int 0), (0, rv g 10 0), (1, .int l1)]) dX12_sure_1 rfl (by decide) rfl ?_
  refine s_sub (ls' := [(0, rv g 10 0), (1, .int l1), (2, .int 0)]) [1, 2, 0] rfl ?_
  refine sX12_sure_l2 g l1 _ (fun h2 => ?_) FU 0 h
  refine s_iconst (v := (-1)) dX12_sure_27 rfl ?_
  exact s_iret rfl dX12_sure_28
def fX12_fits (l1 : Int32) (l2 : Int32) (l3 : Int32) (h : Hp) : Option (Int32 × Hp) :=
  lt (wr h 10 0 0 0) fun h1 =>
  bnd (fX12_hasLog l2 h1) fun x3 h2 =>
  if x3 = 0 then (some ((-2), h2))
  else (bnd (fX12_hand l1 h2) fun x5 h4 =>
  if x5 = 0 then (some ((-2), h4))
  else (bnd (fX12_findRows (l3 - (10 : Int32)) h4) fun _ h6 =>
  if l3 < 10 then (bnd (fX12_in l3 2 5 h6) fun x8 h7 =>
  if x8 = 0 then (if l3 = 0 then (some (rd h7 10 0 53, h7))
  else (if l3 = 1 then (bnd (fX12_askWhat h7) fun x10 h9 =>
  some (x10, h9))
  else (some ((-2), h7))))
  else (bnd (fX12_sure (l3 - (2 : Int32)) h7) fun x12 h11 =>
  some (x12, h11)))
  else (some (rd h6 10 0 54, h6))))
set_option maxHeartbeats 4000000 in
set_option maxRecDepth 100000 in
theorem cX12_fits_ok (g : GE) (l1 : Int32) (l2 : Int32) (l3 : Int32) (h : Hp) : Con cvi 1 g mX12_fits 7 [rv g 10 0, .int l1, .int l2, .int l3] h (fX12_fits l1 l2 l3 h) := by
  refine Con.of (by decide +kernel) (Nat.le_of_ble_eq_true rfl) ?_
  show Sim cvi 1 g mX12_fits 7 0 [(0, rv g 10 0), (1, .int l1), (2, .int l2), (3, .int l3)] [] h _
  unfold fX12_fits
  refine s_aload_n 0 dX12_fits_0 rfl rfl ?_
  refine s_iconst (v := 0) dX12_fits_1 rfl ?_
  refine s_puti (s0 := 0) dX12_fits_2 fl_X12_88 (fun h1 => ?_)
  refine s_aload_n 0 dX12_fits_5 rfl rfl ?_
  refine s_iload_n 2 dX12_fits_6 rfl rfl ?_
  refine s_callVi (s0 := 0) (As := [.int l2]) (rest := []) (cX12_hasLog_ok g l2 h1) vl_X12_447 rfl (Nat.le_of_ble_eq_true rfl) (Nat.le_of_ble_eq_true rfl) dX12_fits_7 rfl (fun x3 h2 => ?_)
  refine s_if_eq (tgt := 21) dX12_fits_10 (by decide) ?_ ?_
  ·
    refine s_bipush (v := (-2)) dX12_fits_21 rfl ?_
    exact s_iret rfl dX12_fits_23
  ·
    refine s_aload_n 0 dX12_fits_13 rfl rfl ?_
    refine s_iload_n 1 dX12_fits_14 rfl rfl ?_
    refine s_callVi (s0 := 0) (As := [.int l1]) (rest := []) (cX12_hand_ok g l1 h2) vl_X12_241 rfl (Nat.le_of_ble_eq_true rfl) (Nat.le_of_ble_eq_true rfl) dX12_fits_15 rfl (fun x5 h4 => ?_)
    refine s_if_ne (tgt := 24) dX12_fits_18 (by decide) ?_ ?_
    ·
      refine s_bipush (v := (-2)) dX12_fits_21 rfl ?_
      exact s_iret rfl dX12_fits_23
    ·
      refine s_aload_n 0 dX12_fits_24 rfl rfl ?_
      refine s_iload_n 3 dX12_fits_25 rfl rfl ?_
      refine s_bipush (v := 10) dX12_fits_26 rfl ?_
      refine s_isub dX12_fits_28 ?_
      refine s_callVv (s0 := 0) (As := [.int (l3 - (10 : Int32))]) (rest := []) (cX12_findRows_ok g (l3 - (10 : Int32)) h4) vl_X12_490 rfl (Nat.le_of_ble_eq_true rfl) (Nat.le_of_ble_eq_true rfl) dX12_fits_29 rfl (fun h6 => ?_)
      refine s_iload_n 3 dX12_fits_32 rfl rfl ?_
      refine s_bipush (v := 10) dX12_fits_33 rfl ?_
      refine s_icmp_lt (tgt := 43) dX12_fits_35 (by decide) ?_ ?_
      ·
        refine s_iload_n 3 dX12_fits_43 rfl rfl ?_
        refine s_iconst (v := 2) dX12_fits_44 rfl ?_
        refine s_iconst (v := 5) dX12_fits_45 rfl ?_
        refine s_callSi (As := [.int l3, .int 2, .int 5]) (rest := []) (cX12_in_ok g l3 2 5 h6) sl_X12_100 rfl (Nat.le_of_ble_eq_true rfl) (Nat.le_of_ble_eq_true rfl) dX12_fits_46 rfl (fun x8 h7 => ?_)
        refine s_if_eq (tgt := 60) dX12_fits_49 (by decide) ?_ ?_
        ·
          refine s_iload_n 3 dX12_fits_60 rfl rfl ?_
          refine s_if_ne (tgt := 71) dX12_fits_61 (by decide) ?_ ?_
          ·
            refine s_aload_n 0 dX12_fits_64 rfl rfl ?_
            refine s_geti (s0 := 0) dX12_fits_65 fl_X12_462 ?_
            refine s_goto (tgt := 85) dX12_fits_68 (by decide) ?_
            exact s_iret rfl dX12_fits_85
          ·
            refine s_iload_n 3 dX12_fits_71 rfl rfl ?_
            refine s_iconst (v := 1) dX12_fits_72 rfl ?_
            refine s_icmp_ne (tgt := 83) dX12_fits_73 (by decide) ?_ ?_
            ·
              refine s_aload_n 0 dX12_fits_76 rfl rfl ?_
              refine s_callVi (s0 := 0) (As := []) (rest := []) (cX12_askWhat_ok g h7) vl_X12_496 rfl (Nat.le_of_ble_eq_true rfl) (Nat.le_of_ble_eq_true rfl) dX12_fits_77 rfl (fun x10 h9 => ?_)
              refine s_goto (tgt := 85) dX12_fits_80 (by decide) ?_
              exact s_iret rfl dX12_fits_85
            ·
              refine s_bipush (v := (-2)) dX12_fits_83 rfl ?_
              exact s_iret rfl dX12_fits_85
        ·
          refine s_aload_n 0 dX12_fits_52 rfl rfl ?_
          refine s_iload_n 3 dX12_fits_53 rfl rfl ?_
          refine s_iconst (v := 2) dX12_fits_54 rfl ?_
          refine s_isub dX12_fits_55 ?_
          refine s_callVi (s0 := 0) (As := [.int (l3 - (2 : Int32))]) (rest := []) (cX12_sure_ok g (l3 - (2 : Int32)) h7) vl_X12_493 rfl (Nat.le_of_ble_eq_true rfl) (Nat.le_of_ble_eq_true rfl) dX12_fits_56 rfl (fun x12 h11 => ?_)
          exact s_iret rfl dX12_fits_59
      ·
        refine s_aload_n 0 dX12_fits_38 rfl rfl ?_
        refine s_geti (s0 := 0) dX12_fits_39 fl_X12_468 ?_
        exact s_iret rfl dX12_fits_42
