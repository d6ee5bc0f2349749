def fX12_isKept_l36 (l1 : Int32) (l2 : Int32) (K : Int32 → Hp → Option (Int32 × Hp)) (rec : Int32 → Int32 → Hp → Option (Int32 × Hp)) (l3 l4 : Int32) (h : Hp) : Option (Int32 × Hp) :=
  if (5 : Int32) ≤ l4 then (K l3 h)
  else (jn (κ := Int32 → Hp → Option (Int32 × Hp)) (fun z0_6 h8 => lt (l4 + 1) fun x9 =>
  rec z0_6 x9 h8) fun k80_6 =>
  jn (κ := Hp → Option (Int32 × Hp)) (fun h11 => k80_6 0 h11) fun k79_9 =>
  if l3 = 0 then (k79_9 h)
  else (jn (κ := Hp → Option (Int32 × Hp)) (fun h13 => k80_6 1 h13) fun k75_11 =>
  if l4 = l1 then (k75_11 h)
  else (bnd (fX12_has (rd h 10 0 25) l4 h) fun x15 h14 =>
  if x15 = 0 then (k75_11 h14)
  else (ck (ib l4 5) (
  if (ra h14 63 0 l4) ≤ l2 then (k79_9 h14)
  else (k75_11 h14))))))
def fX12_isKept (l1 : Int32) (h : Hp) : Option (Int32 × Hp) :=
  bnd (fX12_beatsTo l1 h) fun x2 h1 =>
  bnd (fX12_has (rd h1 10 0 25) l1 h1) fun x4 h3 =>
  jn (κ := Int32 → Hp → Option (Int32 × Hp)) (fun z0_4 h6 => itr2 (fX12_isKept_l36 l1 x2 (fun y16 h17 => ck (zk y16) (some (y16, h17)))) FU z0_4 0 h6) fun k32_4 =>
  jn (κ := Hp → Option (Int32 × Hp)) (fun h19 => k32_4 0 h19) fun k31_17 =>
  if x4 = 0 then (k31_17 h3)
  else (ck (ib l1 5) (
  if (ra h3 63 0 l1) < x2 then (k31_17 h3)
  else (k32_4 1 h3)))
set_option maxHeartbeats 4000000 in
set_option maxRecDepth 100000 in
theorem sX12_isKept_l36 (g : GE) (l1 : Int32) (l2 : Int32) (K : Int32 → Hp → Option (Int32 × Hp)) (hK : ∀ (y3 : Int32) (h : Hp), Sim cvi 1 g mX12_isKept 4 87 [(3, .int y3)] [] h (K y3 h)) : ∀ (n : Nat) (l3 l4 : Int32) (h : Hp), Sim cvi 1 g mX12_isKept 4 36 [(0, rv g 10 0), (1, .int l1), (2, .int l2), (3, .int l3), (4, .int l4)] [] h (itr2 (fX12_isKept_l36 l1 l2 K) n l3 l4 h) := by
  refine s_itr2 (fun l3 l4 h o => Sim cvi 1 g mX12_isKept 4 36 [(0, rv g 10 0), (1, .int l1), (2, .int l2), (3, .int l3), (4, .int l4)] [] h o) (fun _ _ _ => s_none) ?_
  intro rec hrec l3 l4 h
  unfold fX12_isKept_l36
  refine s_iload 4 dX12_isKept_36 rfl ?_
  refine s_iconst (v := 5) dX12_isKept_38 rfl ?_
  refine s_icmp_ge (tgt := 87) dX12_isKept_39 (by decide) ?_ ?_
  ·
    refine s_sub [3] rfl ?_
    exact hK l3 h
  ·
    refine s_iload_n 3 dX12_isKept_42 rfl rfl ?_
    refine s_jn (fun (k80_6 : Int32 → Hp → Option (Int32 × Hp)) => ∀ (z0_6 : Int32) (h8 : Hp), Sim cvi 1 g mX12_isKept 4 80 [(0, rv g 10 0), (1, .int l1), (2, .int l2), (4, .int l4)] [.int z0_6] h8 (k80_6 z0_6 h8)) (fun z0_6 h8 => ?_) (fun k80_6 Hk80_6 => ?_)
    ·
      refine s_istore_n (ls' := [(3, .int z0_6), (0, rv g 10 0), (1, .int l1), (2, .int l2), (4, .int l4)]) dX12_isKept_80 rfl (by decide) rfl ?_
      refine s_iincl 4 (w := 1) (fun x9 => [(4, .int x9), (3, .int z0_6), (0, rv g 10 0), (1, .int l1), (2, .int l2)]) dX12_isKept_81 rfl rfl (by decide) (fun _ => rfl) (fun x9 => ?_)
      refine s_goto (tgt := 36) dX12_isKept_84 (by decide) ?_
      refine s_sub [2, 3, 4, 1, 0] rfl ?_
      exact hrec z0_6 x9 h8
    refine s_jn (fun (k79_9 : Hp → Option (Int32 × Hp)) => ∀ (h11 : Hp), Sim cvi 1 g mX12_isKept 4 79 [(0, rv g 10 0), (1, .int l1), (2, .int l2), (4, .int l4)] [] h11 (k79_9 h11)) (fun h11 => ?_) (fun k79_9 Hk79_9 => ?_)
    ·
      refine s_iconst (v := 0) dX12_isKept_79 rfl ?_
      exact Hk80_6 0 h11
    refine s_if_eq (tgt := 79) dX12_isKept_43 (by decide) ?_ ?_
    ·
      refine s_sub [0, 1, 2, 4] rfl ?_
      exact Hk79_9 h
    ·
      refine s_iload 4 dX12_isKept_46 rfl ?_
      refine s_iload_n 1 dX12_isKept_48 rfl rfl ?_
      refine s_jn (fun (k75_11 : Hp → Option (Int32 × Hp)) => ∀ (h13 : Hp), Sim cvi 1 g mX12_isKept 4 75 [(0, rv g 10 0), (1, .int l1), (2, .int l2), (4, .int l4)] [] h13 (k75_11 h13)) (fun h13 => ?_) (fun k75_11 Hk75_11 => ?_)
      ·
        refine s_iconst (v := 1) dX12_isKept_75 rfl ?_
        refine s_goto (tgt := 80) dX12_isKept_76 (by decide) ?_
        exact Hk80_6 1 h13
      refine s_icmp_eq (tgt := 75) dX12_isKept_49 (by decide) ?_ ?_
      ·
        refine s_sub [0, 1, 2, 4] rfl ?_
        exact Hk75_11 h
      ·
        refine s_aload_n 0 dX12_isKept_52 rfl rfl ?_
        refine s_geti (s0 := 0) dX12_isKept_53 fl_X12_235 ?_
        refine s_iload 4 dX12_isKept_56 rfl ?_
        refine s_callSi (As := [.int (rd h 10 0 25), .int l4]) (rest := []) (cX12_has_ok g (rd h 10 0 25) l4 h) sl_X12_92 rfl (Nat.le_of_ble_eq_true rfl) (Nat.le_of_ble_eq_true rfl) dX12_isKept_58 rfl (fun x15 h14 => ?_)
        refine s_if_eq (tgt := 75) dX12_isKept_61 (by decide) ?_ ?_
        ·
          refine s_sub [0, 1, 2, 4] rfl ?_
          exact Hk75_11 h14
        ·
          refine s_aload_n 0 dX12_isKept_64 rfl rfl ?_
          refine s_getr (s0 := 0) dX12_isKept_65 fl_X12_72 ?_
          refine s_iload 4 dX12_isKept_68 rfl ?_
          refine s_iald (s0 := 0) ka_63 dX12_isKept_70 ?_
          refine s_iload_n 2 dX12_isKept_71 rfl rfl ?_
          refine s_icmp_le (tgt := 79) dX12_isKept_72 (by decide) ?_ ?_
          ·
            refine s_sub [0, 1, 2, 4] rfl ?_
            exact Hk79_9 h14
          ·
            refine s_sub [0, 1, 2, 4] rfl ?_
            exact Hk75_11 h14
set_option maxHeartbeats 4000000 in
set_option maxRecDepth 100000 in
theorem cX12_isKept_ok (g : GE) (l1 : Int32) (h : Hp) : Con cvi 1 g mX12_isKept 4 [rv g 10 0, .int l1] h (fX12_isKept l1 h) := by
  refine Con.of (by decide +kernel) (Nat.le_of_ble_eq_true rfl) ?_
  show Sim cvi 1 g mX12_isKept 4 0 [(0, rv g 10 0), (1, .int l1)] [] h _
  unfold fX12_isKept
  refine s_aload_n 0 dX12_isKept_0 rfl rfl ?_
  refine s_iload_n 1 dX12_isKept_1 rfl rfl ?_
  refine s_callVi (s0 := 0) (As := [.int l1]) (rest := []) (cX12_beatsTo_ok g l1 h) vl_X12_334 rfl (Nat.le_of_ble_eq_true rfl) (Nat.le_of_ble_eq_true rfl) dX12_isKept_2 rfl (fun x2 h1 => ?_)
  refine s_istore_n (ls' := [(2, .int x2), (0, rv g 10 0), (1, .int l1)]) dX12_isKept_5 rfl (by decide) rfl ?_
  refine s_aload_n 1 dX12_isKept_6 rfl rfl ?_
  refine s_geti (s0 := 0) dX12_isKept_7 fl_X12_235 ?_
  refine s_iload_n 2 dX12_isKept_10 rfl rfl ?_
  refine s_callSi (As := [.int (rd h1 10 0 25), .int l1]) (rest := []) (cX12_has_ok g (rd h1 10 0 25) l1 h1) sl_X12_92 rfl (Nat.le_of_ble_eq_true rfl) (Nat.le_of_ble_eq_true rfl) dX12_isKept_11 rfl (fun x4 h3 => ?_)
  refine s_jn (fun (k32_4 : Int32 → Hp → Option (Int32 × Hp)) => ∀ (z0_4 : Int32) (h6 : Hp), Sim cvi 1 g mX12_isKept 4 32 [(0, rv g 10 0), (1, .int l1), (2, .int x2)] [.int z0_4] h6 (k32_4 z0_4 h6)) (fun z0_4 h6 => ?_) (fun k32_4 Hk32_4 => ?_)
  ·
    refine s_istore_n (ls' := [(3, .int z0_4), (0, rv g 10 0), (1, .int l1), (2, .int x2)]) dX12_isKept_32 rfl (by decide) rfl ?_
    refine s_iconst (v := 0) dX12_isKept_33 rfl ?_
    refine s_istore (ls' := [(4, .int 0), (3, .int z0_4), (0, rv g 10 0), (1, .int l1), (2, .int x2)]) dX12_isKept_34 (by decide) rfl ?_
    refine s_sub (ls' := [(0, rv g 10 0), (1, .int l1), (2, .int x2), (3, .int z0_4), (4, .int 0)]) [2, 3, 4, 1, 0] rfl ?_
    refine sX12_isKept_l36 g l1 x2 _ (fun y16 h17 => ?_) FU z0_4 0 h6
    refine s_iload_n 0 dX12_isKept_87 rfl rfl ?_
    exact s_zret rfl dX12_isKept_88
  refine s_jn (fun (k31_17 : Hp → Option (Int32 × Hp)) => ∀ (h19 : Hp), Sim cvi 1 g mX12_isKept 4 31 [(0, rv g 10 0), (1, .int l1), (2, .int x2)] [] h19 (k31_17 h19)) (fun h19 => ?_) (fun k31_17 Hk31_17 => ?_)
  ·
    refine s_iconst (v := 0) dX12_isKept_31 rfl ?_
    exact Hk32_4 0 h19
  refine s_if_eq (tgt := 31) dX12_isKept_14 (by decide) ?_ ?_
  ·
    refine s_sub [1, 2, 0] rfl ?_
    exact Hk31_17 h3
  ·
    refine s_aload_n 1 dX12_isKept_17 rfl rfl ?_
    refine s_getr (s0 := 0) dX12_isKept_18 fl_X12_72 ?_
    refine s_iload_n 2 dX12_isKept_21 rfl rfl ?_
    refine s_iald (s0 := 0) ka_63 dX12_isKept_22 ?_
    refine s_iload_n 0 dX12_isKept_23 rfl rfl ?_
    refine s_icmp_lt (tgt := 31) dX12_isKept_24 (by decide) ?_ ?_
    ·
      refine s_sub [1, 2, 0] rfl ?_
      exact Hk31_17 h3
    ·
      refine s_iconst (v := 1) dX12_isKept_27 rfl ?_
      refine s_goto (tgt := 32) dX12_isKept_28 (by decide) ?_
      refine s_sub [1, 2, 0] rfl ?_
      exact Hk32_4 1 h3
def fX12_leastLeft_l6 (K : Int32 → Hp → Option (Int32 × Hp)) (rec : Int32 → Int32 → Hp → Option (Int32 × Hp)) (l1 l2 : Int32) (h : Hp) : Option (Int32 × Hp) :=
  if (5 : Int32) ≤ l2 then (K l1 h)
  else (bnd (fX12_has (rd h 10 0 25) l2 h) fun x2 h1 =>
  jn (κ := Int32 → Hp → Option (Int32 × Hp)) (fun z0_2 h4 => lt (l2 + 1) fun x5 =>
  rec z0_2 x5 h4) fun k36_2 =>
  if x2 = 0 then (k36_2 l1 h1)
  else (ck (ib l2 5) (
  bnd (fX12_lesser l1 (ra h1 63 0 l2) h1) fun x7 h6 =>
  k36_2 x7 h6)))
def fX12_leastLeft (h : Hp) : Option (Int32 × Hp) :=
  itr2 (fX12_leastLeft_l6 (fun y8 h9 => some (y8, h9))) FU 1000000 0 h
set_option maxHeartbeats 4000000 in
set_option maxRecDepth 100000 in
theorem sX12_leastLeft_l6 (g : GE) (K : Int32 → Hp → Option (Int32 × Hp)) (hK : ∀ (y1 : Int32) (h : Hp), Sim cvi 1 g mX12_leastLeft 3 43 [(1, .int y1)] [] h (K y1 h)) : ∀ (n : Nat) (l1 l2 : Int32) (h : Hp), Sim cvi 1 g mX12_leastLeft 3 6 [(0, rv g 10 0), (1, .int l1), (2, .int l2)] [] h (itr2 (fX12_leastLeft_l6 K) n l1 l2 h) := by
  refine s_itr2 (fun l1 l2 h o => Sim cvi 1 g mX12_leastLeft 3 6 [(0, rv g 10 0), (1, .int l1), (2, .int l2)] [] h o) (fun _ _ _ => s_none) ?_
  intro rec hrec l1 l2 h
  unfold fX12_leastLeft_l6
  refine s_iload_n 2 dX12_leastLeft_6 rfl rfl ?_
  refine s_iconst (v := 5) dX12_leastLeft_7 rfl ?_
  refine s_icmp_ge (tgt := 43) dX12_leastLeft_8 (by decide) ?_ ?_
  ·
    refine s_sub [1] rfl ?_
    exact hK l1 h
  ·
    refine s_aload_n 0 dX12_leastLeft_11 rfl rfl ?_
    refine s_geti (s0 := 0) dX12_leastLeft_12 fl_X12_235 ?_
    refine s_iload_n 2 dX12_leastLeft_15 rfl rfl ?_
    refine s_callSi (As := [.int (rd h 10 0 25), .int l2]) (rest := []) (cX12_has_ok g (rd h 10 0 25) l2 h) sl_X12_92 rfl (Nat.le_of_ble_eq_true rfl) (Nat.le_of_ble_eq_true rfl) dX12_leastLeft_16 rfl (fun x2 h1 => ?_)
    refine s_jn (fun (k36_2 : Int32 → Hp → Option (Int32 × Hp)) => ∀ (z0_2 : Int32) (h4 : Hp), Sim cvi 1 g mX12_leastLeft 3 36 [(0, rv g 10 0), (2, .int l2)] [.int z0_2] h4 (k36_2 z0_2 h4)) (fun z0_2 h4 => ?_) (fun k36_2 Hk36_2 => ?_)
    ·
      refine s_istore_n (ls' := [(1, .int z0_2), (0, rv g 10 0), (2, .int l2)]) dX12_leastLeft_36 rfl (by decide) rfl ?_
      refine s_iincl 2 (w := 1) (fun x5 => [(2, .int x5), (1, .int z0_2), (0, rv g 10 0)]) dX12_leastLeft_37 rfl rfl (by decide) (fun _ => rfl) (fun x5 => ?_)
      refine s_goto (tgt := 6) dX12_leastLeft_40 (by decide) ?_
      refine s_sub [2, 1, 0] rfl ?_
      exact hrec z0_2 x5 h4
    refine s_if_eq (tgt := 35) dX12_leastLeft_19 (by decide) ?_ ?_
    ·
      refine s_iload_n 1 dX12_leastLeft_35 rfl rfl ?_
      refine s_sub [0, 2] rfl ?_
      exact Hk36_2 l1 h1
    ·
      refine s_iload_n 1 dX12_leastLeft_22 rfl rfl ?_
      refine s_aload_n 0 dX12_leastLeft_23 rfl rfl ?_
      refine s_getr (s0 := 0) dX12_leastLeft_24 fl_X12_72 ?_
      refine s_iload_n 2 dX12_leastLeft_27 rfl rfl ?_
      refine s_iald (s0 := 0) ka_63 dX12_leastLeft_28 ?_
      refine s_callSi (As := [.int l1, .int (ra h1 63 0 l2)]) (rest := []) (cX12_lesser_ok g l1 (ra h1 63 0 l2) h1) sl_X12_162 rfl (Nat.le_of_ble_eq_true rfl) (Nat.le_of_ble_eq_true rfl) dX12_leastLeft_29 rfl (fun x7 h6 => ?_)
      refine s_goto (tgt := 36) dX12_leastLeft_32 (by decide) ?_
      refine s_sub [0, 2] rfl ?_
      exact Hk36_2 x7 h6
set_option maxHeartbeats 4000000 in
set_option maxRecDepth 100000 in
theorem cX12_leastLeft_ok (g : GE) (h : Hp) : Con cvi 1 g mX12_leastLeft 3 [rv g 10 0] h (fX12_leastLeft h) := by
  refine Con.of (by decide +kernel) (Nat.le_of_ble_eq_true rfl) ?_
  show Sim cvi 1 g mX12_leastLeft 3 0 [(0, rv g 10 0)] [] h _
  unfold fX12_leastLeft
  refine s_ldcw dX12_leastLeft_0 w_7_137 ?_
  refine s_istore_n (ls' := [(1, .int 1000000), (0, rv g 10 0)]) dX12_leastLeft_3 rfl (by decide) rfl ?_
  refine s_iconst (v := 0) dX12_leastLeft_4 rfl ?_
  refine s_istore_n (ls' := [(2, .int 0), (1, .int 1000000), (0, rv g 10 0)]) dX12_leastLeft_5 rfl (by decide) rfl ?_
  refine s_sub (ls' := [(0, rv g 10 0), (1, .int 1000000), (2, .int 0)]) [2, 1, 0] rfl ?_
  refine sX12_leastLeft_l6 g _ (fun y8 h9 => ?_) FU 1000000 0 h
  refine s_iload_n 0 dX12_leastLeft_43 rfl rfl ?_
  exact s_iret rfl dX12_leastLeft_44
def fX12_open_l17 (K : Hp → Option (Unit × Hp)) (rec : Int32 → Int32 → Hp → Option (Unit × Hp)) (l2 l3 : Int32) (h : Hp) : Option (Unit × Hp) :=
  if (5 : Int32) ≤ l3 then (K h)
  else (ck (ib l3 5) (lt (wa h 63 0 l3 ((irm l2 6) + (1 : Int32))) fun h3 =>
  lt (l2 / 6) fun x4 =>
  lt (l3 + 1) fun x5 =>
  rec x4 x5 h3))
def fX12_open (l1 : Int32) (h : Hp) : Option (Unit × Hp) :=
  lt (wr h 10 0 47 (l1 / 7776)) fun h1 =>
  lt (irm l1 7776) fun x2 =>
  itr2 (fX12_open_l17 (fun h6 => some ((), h6))) FU x2 0 h1
set_option maxHeartbeats 4000000 in
set_option maxRecDepth 100000 in
theorem sX12_open_l17 (g : GE) (K : Hp → Option (Unit × Hp)) (hK : ∀ (h : Hp), Sim cvv 1 g mX12_open 2 45 [] [] h (K  h)) : ∀ (n : Nat) (l2 l3 : Int32) (h : Hp), Sim cvv 1 g mX12_open 2 17 [(0, rv g 10 0), (2, .int l2), (3, .int l3)] [] h (itr2 (fX12_open_l17 K) n l2 l3 h) := by
  refine s_itr2 (fun l2 l3 h o => Sim cvv 1 g mX12_open 2 17 [(0, rv g 10 0), (2, .int l2), (3, .int l3)] [] h o) (fun _ _ _ => s_none) ?_
  intro rec hrec l2 l3 h
  unfold fX12_open_l17
  refine s_iload_n 2 dX12_open_17 rfl rfl ?_
  refine s_iconst (v := 5) dX12_open_18 rfl ?_
  refine s_icmp_ge (tgt := 45) dX12_open_19 (by decide) ?_ ?_
  ·
    refine s_sub [] rfl ?_
    exact hK h
  ·
    refine s_aload_n 0 dX12_open_22 rfl rfl ?_
    refine s_getr (s0 := 0) dX12_open_23 fl_X12_72 ?_
    refine s_iload_n 2 dX12_open_26 rfl rfl ?_
    refine s_iload_n 1 dX12_open_27 rfl rfl ?_
    refine s_bipush (v := 6) dX12_open_28 rfl ?_
    refine s_iremc dX12_open_30 (by decide) ?_
    refine s_iconst (v := 1) dX12_open_31 rfl ?_
    refine s_iadd dX12_open_32 ?_
    refine s_iast (s0 := 0) ka_63 dX12_open_33 (fun h3 => ?_)
    refine s_iload_n 1 dX12_open_34 rfl rfl ?_
    refine s_bipush (v := 6) dX12_open_35 rfl ?_
    refine s_idivc dX12_open_37 (by decide) ?_
    refine s_leti (fun x4 => ?_)
    refine s_istore_n (ls' := [(2, .int x4), (0, rv g 10 0), (3, .int l3)]) dX12_open_38 rfl (by decide) rfl ?_
    refine s_iincl 2 (w := 1) (fun x5 => [(3, .int x5), (2, .int x4), (0, rv g 10 0)]) dX12_open_39 rfl rfl (by decide) (fun _ => rfl) (fun x5 => ?_)
    refine s_goto (tgt := 17) dX12_open_42 (by decide) ?_
    refine s_sub [2, 1, 0] rfl ?_
    exact hrec x4 x5 h3
set_option maxHeartbeats 4000000 in
set_option maxRecDepth 100000 in
theorem cX12_open_ok (g : GE) (l1 : Int32) (h : Hp) : Con cvv 1 g mX12_open 2 [rv g 10 0, .int l1] h (fX12_open l1 h) := by
  refine Con.of (by decide +kernel) (Nat.le_of_ble_eq_true rfl) ?_
  show Sim cvv 1 g mX12_open 2 0 [(0, rv g 10 0), (1, .int l1)] [] h _
  unfold fX12_open
  refine s_aload_n 0 dX12_open_0 rfl rfl ?_
  refine s_iload_n 1 dX12_open_1 rfl rfl ?_
  refine s_sipush (v := 7776) dX12_open_2 rfl ?_
  refine s_idivc dX12_open_5 (by decide) ?_
  refine s_puti (s0 := 0) dX12_open_6 fl_X12_328 (fun h1 => ?_)
  refine s_iload_n 1 dX12_open_9 rfl rfl ?_
  refine s_sipush (v := 7776) dX12_open_10 rfl ?_
  refine s_iremc dX12_open_13 (by decide) ?_
  refine s_leti (fun x2 => ?_)
  refine s_istore_n (ls' := [(2, .int x2), (0, rv g 10 0), (1, .int l1)]) dX12_open_14 rfl (by decide) rfl ?_
  refine s_iconst (v := 0) dX12_open_15 rfl ?_
  refine s_istore_n (ls' := [(3, .int 0), (2, .int x2), (0, rv g 10 0), (1, .int l1)]) dX12_open_16 rfl (by decide) rfl ?_
  refine s_sub (ls' := [(0, rv g 10 0), (2, .int x2), (3, .int 0)]) [2, 1, 0] rfl ?_
  refine sX12_open_l17 g _ (fun h6 => ?_) FU x2 0 h1
  exact s_vret rfl dX12_open_45
def fX12_lastsOf_l17 (l1 : Int32) (K : Int32 → Hp → Option (Int32 × Hp)) (rec : Int32 → Int32 → Hp → Option (Int32 × Hp)) (l2 l3 : Int32) (h : Hp) : Option (Int32 × Hp) :=
  if (5 : Int32) ≤ l3 then (K l2 h)
  else (ck (ib l1 46656) (
  bnd (fX12_open (ra h 58 0 l1) h) fun _ h4 =>
  bnd (fX12_isKept l3 h4) fun x6 h5 =>
  jn (κ := Int32 → Hp → Option (Int32 × Hp)) (fun y2_6 h8 => lt (l3 + 1) fun x9 =>
  rec y2_6 x9 h8) fun k84_6 =>
  if x6 = 0 then (k84_6 l2 h5)
  else (bnd (fX12_beatsTo l3 h5) fun x11 h10 =>
  bnd (fX12_behindRun l3 h10) fun x13 h12 =>
  ck (ib x13 46656) (
  ck (ib ((ra h12 59 0 x13) - (1 : Int32)) 46656) (
  lt (ra h12 60 0 ((ra h12 59 0 x13) - (1 : Int32))) fun x14 =>
  if x14 = (-1) then (some ((-1), h12))
  else (bnd (fX12_greater l2 (x11 + x14) h12) fun x16 h15 =>
  k84_6 x16 h15))))))
def fX12_lastsOf (l1 : Int32) (h : Hp) : Option (Int32 × Hp) :=
  ck (ib l1 46656) (
  bnd (fX12_open (ra h 58 0 l1) h) fun _ h1 =>
  bnd (fX12_leastLeft h1) fun x3 h2 =>
  itr2 (fX12_lastsOf_l17 l1 (fun y17 h18 => some (y17, h18))) FU x3 0 h2)
set_option maxHeartbeats 4000000 in
set_option maxRecDepth 100000 in
theorem sX12_lastsOf_l17 (g : GE) (l1 : Int32) (K : Int32 → Hp → Option (Int32 × Hp)) (hK : ∀ (y2 : Int32) (h : Hp), Sim cvi 1 g mX12_lastsOf 5 90 [(2, .int y2)] [] h (K y2 h)) : ∀ (n : Nat) (l2 l3 : Int32) (h : Hp), Sim cvi 1 g mX12_lastsOf 5 17 [(0, rv g 10 0), (1, .int l1), (2, .int l2), (3, .int l3)] [] h (itr2 (fX12_lastsOf_l17 l1 K) n l2 l3 h) := by
  refine s_itr2 (fun l2 l3 h o => Sim cvi 1 g mX12_lastsOf 5 17 [(0, rv g 10 0), (1, .int l1), (2, .int l2), (3, .int l3)] [] h o) (fun _ _ _ => s_none) ?_
  intro rec hrec l2 l3 h
  unfold fX12_lastsOf_l17
  refine s_iload_n 3 dX12_lastsOf_17 rfl rfl ?_
  refine s_iconst (v := 5) dX12_lastsOf_18 rfl ?_
  refine s_icmp_ge (tgt := 90) dX12_lastsOf_19 (by decide) ?_ ?_
  ·
    refine s_sub [2] rfl ?_
    exact hK l2 h
  ·
    refine s_aload_n 0 dX12_lastsOf_22 rfl rfl ?_
    refine s_aload_n 0 dX12_lastsOf_23 rfl rfl ?_
    refine s_getr (s0 := 0) dX12_lastsOf_24 fl_X12_57 ?_
    refine s_iload_n 1 dX12_lastsOf_27 rfl rfl ?_
    refine s_iald (s0 := 0) ka_58 dX12_lastsOf_28 ?_
    refine s_callVv (s0 := 0) (As := [.int (ra h 58 0 l1)]) (rest := []) (cX12_open_ok g (ra h 58 0 l1) h) vl_X12_349 rfl (Nat.le_of_ble_eq_true rfl) (Nat.le_of_ble_eq_true rfl) dX12_lastsOf_29 rfl (fun h4 => ?_)
    refine s_aload_n 0 dX12_lastsOf_32 rfl rfl ?_
    refine s_iload_n 3 dX12_lastsOf_33 rfl rfl ?_
    refine s_callVi (s0 := 0) (As := [.int l3]) (rest := []) (cX12_isKept_ok g l3 h4) vl_X12_352 rfl (Nat.le_of_ble_eq_true rfl) (Nat.le_of_ble_eq_true rfl) dX12_lastsOf_34 rfl (fun x6 h5 => ?_)
    refine s_jn (fun (k84_6 : Int32 → Hp → Option (Int32 × Hp)) => ∀ (y2_6 : Int32) (h8 : Hp), Sim cvi 1 g mX12_lastsOf 5 84 [(0, rv g 10 0), (1, .int l1), (2, .int y2_6), (3, .int l3)] [] h8 (k84_6 y2_6 h8)) (fun y2_6 h8 => ?_) (fun k84_6 Hk84_6 => ?_)
    ·
      refine s_iincl 3 (w := 1) (fun x9 => [(3, .int x9), (0, rv g 10 0), (1, .int l1), (2, .int y2_6)]) dX12_lastsOf_84 rfl rfl (by decide) (fun _ => rfl) (fun x9 => ?_)
      refine s_goto (tgt := 17) dX12_lastsOf_87 (by decide) ?_
      refine s_sub [1, 2, 3, 0] rfl ?_
      exact hrec y2_6 x9 h8
    refine s_if_eq (tgt := 84) dX12_lastsOf_37 (by decide) ?_ ?_
    ·
      exact Hk84_6 l2 h5
    ·
      refine s_aload_n 0 dX12_lastsOf_40 rfl rfl ?_
      refine s_iload_n 3 dX12_lastsOf_41 rfl rfl ?_
      refine s_callVi (s0 := 0) (As := [.int l3]) (rest := []) (cX12_beatsTo_ok g l3 h5) vl_X12_334 rfl (Nat.le_of_ble_eq_true rfl) (Nat.le_of_ble_eq_true rfl) dX12_lastsOf_42 rfl (fun x11 h10 => ?_)
      refine s_istore (ls' := [(4, .int x11), (0, rv g 10 0), (1, .int l1), (2, .int l2), (3, .int l3)]) dX12_lastsOf_45 (by decide) rfl ?_
      refine s_aload_n 1 dX12_lastsOf_47 rfl rfl ?_
      refine s_getr (s0 := 0) dX12_lastsOf_48 fl_X12_63 ?_
      refine s_aload_n 1 dX12_lastsOf_51 rfl rfl ?_
      refine s_getr (s0 := 0) dX12_lastsOf_52 fl_X12_60 ?_
      refine s_aload_n 1 dX12_lastsOf_55 rfl rfl ?_
      refine s_iload_n 4 dX12_lastsOf_56 rfl rfl ?_
      refine s_callVi (s0 := 0) (As := [.int l3]) (rest := [rv g 59 0, rv g 60 0]) (cX12_behindRun_ok g l3 h10) vl_X12_355 rfl (Nat.le_of_ble_eq_true rfl) (Nat.le_of_ble_eq_true rfl) dX12_lastsOf_57 rfl (fun x13 h12 => ?_)
      refine s_iald (s0 := 0) ka_59 dX12_lastsOf_60 ?_
      refine s_iconst (v := 1) dX12_lastsOf_61 rfl ?_
      refine s_isub dX12_lastsOf_62 ?_
      refine s_iald (s0 := 0) ka_60 dX12_lastsOf_63 ?_
      refine s_leti (fun x14 => ?_)
      refine s_istore (ls' := [(5, .int x14), (4, .int x11), (0, rv g 10 0), (1, .int l1), (2, .int l2), (3, .int l3)]) dX12_lastsOf_64 (by decide) rfl ?_
      refine s_iload 0 dX12_lastsOf_66 rfl ?_
      refine s_iconst (v := (-1)) dX12_lastsOf_68 rfl ?_
      refine s_icmp_ne (tgt := 74) dX12_lastsOf_69 (by decide) ?_ ?_
      ·
        refine s_iconst (v := (-1)) dX12_lastsOf_72 rfl ?_
        exact s_iret rfl dX12_lastsOf_73
      ·
        refine s_iload_n 4 dX12_lastsOf_74 rfl rfl ?_
        refine s_iload 1 dX12_lastsOf_75 rfl ?_
        refine s_iload 0 dX12_lastsOf_77 rfl ?_
        refine s_iadd dX12_lastsOf_79 ?_
        refine s_callSi (As := [.int l2, .int (x11 + x14)]) (rest := []) (cX12_greater_ok g l2 (x11 + x14) h12) sl_X12_280 rfl (Nat.le_of_ble_eq_true rfl) (Nat.le_of_ble_eq_true rfl) dX12_lastsOf_80 rfl (fun x16 h15 => ?_)
        refine s_istore_n (ls' := [(2, .int x16), (5, .int x14), (4, .int x11), (0, rv g 10 0), (1, .int l1), (3, .int l3)]) dX12_lastsOf_83 rfl (by decide) rfl ?_
        refine s_sub [3, 4, 0, 5] rfl ?_
        exact Hk84_6 x16 h15
set_option maxHeartbeats 4000000 in
set_option maxRecDepth 100000 in
theorem cX12_lastsOf_ok (g : GE) (l1 : Int32) (h : Hp) : Con cvi 1 g mX12_lastsOf 5 [rv g 10 0, .int l1] h (fX12_lastsOf l1 h) := by
  refine Con.of (by decide +kernel) (Nat.le_of_ble_eq_true rfl) ?_
  show Sim cvi 1 g mX12_lastsOf 5 0 [(0, rv g 10 0), (1, .int l1)] [] h _
  unfold fX12_lastsOf
  refine s_aload_n 0 dX12_lastsOf_0 rfl rfl ?_
  refine s_aload_n 0 dX12_lastsOf_1 rfl rfl ?_
  refine s_getr (s0 := 0) dX12_lastsOf_2 fl_X12_57 ?_
  refine s_iload_n 1 dX12_lastsOf_5 rfl rfl ?_
  refine s_iald (s0 := 0) ka_58 dX12_lastsOf_6 ?_
  refine s_callVv (s0 := 0) (As := [.int (ra h 58 0 l1)]) (rest := []) (cX12_open_ok g (ra h 58 0 l1) h) vl_X12_349 rfl (Nat.le_of_ble_eq_true rfl) (Nat.le_of_ble_eq_true rfl) dX12_lastsOf_7 rfl (fun h1 => ?_)
  refine s_aload_n 0 dX12_lastsOf_10 rfl rfl ?_
  refine s_callVi (s0 := 0) (As := []) (rest := []) (cX12_leastLeft_ok g h1) vl_X12_359 rfl (Nat.le_of_ble_eq_true rfl) (Nat.le_of_ble_eq_true rfl) dX12_lastsOf_11 rfl (fun x3 h2 => ?_)
  refine s_istore_n (ls' := [(2, .int x3), (0, rv g 10 0), (1, .int l1)]) dX12_lastsOf_14 rfl (by decide) rfl ?_
  refine s_iconst (v := 0) dX12_lastsOf_15 rfl ?_
  refine s_istore_n (ls' := [(3, .int 0), (2, .int x3), (0, rv g 10 0), (1, .int l1)]) dX12_lastsOf_16 rfl (by decide) rfl ?_
  refine s_sub (ls' := [(0, rv g 10 0), (1, .int l1), (2, .int x3), (3, .int 0)]) [2, 3, 1, 0] rfl ?_
  refine sX12_lastsOf_l17 g l1 _ (fun y17 h18 => ?_) FU x3 0 h2
  refine s_iload_n 0 dX12_lastsOf_90 rfl rfl ?_
  exact s_iret rfl dX12_lastsOf_91
def fX12_openFirst_l7 (K : Hp → Option (Unit × Hp)) (rec : Int32 → Hp → Option (Unit × Hp)) (l1 : Int32) (h : Hp) : Option (Unit × Hp) :=
  if (5 : Int32) ≤ l1 then (K h)
  else (ck (ib l1 5) (
  ck (ib l1 5) (lt (wa h 63 0 l1 (ra h 55 0 l1)) fun h2 =>
  lt (l1 + 1) fun x3 =>
  rec x3 h2)))
def fX12_openFirst (h : Hp) : Option (Unit × Hp) :=
  lt (wr h 10 0 47 5) fun h1 =>
  itr1 (fX12_openFirst_l7 (fun h4 => some ((), h4))) FU 0 h1
set_option maxHeartbeats 4000000 in
set_option maxRecDepth 100000 in
theorem sX12_openFirst_l7 (g : GE) (K : Hp → Option (Unit × Hp)) (hK : ∀ (h : Hp), Sim cvv 1 g mX12_openFirst 2 30 [] [] h (K  h)) : ∀ (n : Nat) (l1 : Int32) (h : Hp), Sim cvv 1 g mX12_openFirst 2 7 [(0, rv g 10 0), (1, .int l1)] [] h (itr1 (fX12_openFirst_l7 K) n l1 h) := by
  refine s_itr1 (fun l1 h o => Sim cvv 1 g mX12_openFirst 2 7 [(0, rv g 10 0), (1, .int l1)] [] h o) (fun _ _ => s_none) ?_
  intro rec hrec l1 h
  unfold fX12_openFirst_l7
  refine s_iload_n 1 dX12_openFirst_7 rfl rfl ?_
  refine s_iconst (v := 5) dX12_openFirst_8 rfl ?_
  refine s_icmp_ge (tgt := 30) dX12_openFirst_9 (by decide) ?_ ?_
  ·
    refine s_sub [] rfl ?_
    exact hK h
  ·
    refine s_aload_n 0 dX12_openFirst_12 rfl rfl ?_
    refine s_getr (s0 := 0) dX12_openFirst_13 fl_X12_72 ?_
    refine s_iload_n 1 dX12_openFirst_16 rfl rfl ?_
    refine s_aload_n 0 dX12_openFirst_17 rfl rfl ?_
    refine s_getr (s0 := 0) dX12_openFirst_18 fl_X12_47 ?_
    refine s_iload_n 1 dX12_openFirst_21 rfl rfl ?_
    refine s_iald (s0 := 0) ka_55 dX12_openFirst_22 ?_
    refine s_iast (s0 := 0) ka_63 dX12_openFirst_23 (fun h2 => ?_)
    refine s_iincl 1 (w := 1) (fun x3 => [(1, .int x3), (0, rv g 10 0)]) dX12_openFirst_24 rfl rfl (by decide) (fun _ => rfl) (fun x3 => ?_)
    refine s_goto (tgt := 7) dX12_openFirst_27 (by decide) ?_
    refine s_sub [1, 0] rfl ?_
    exact hrec x3 h2
set_option maxHeartbeats 4000000 in
set_option maxRecDepth 100000 in
theorem cX12_openFirst_ok (g : GE) (h : Hp) : Con cvv 1 g mX12_openFirst 2 [rv g 10 0] h (fX12_openFirst h) := by
  refine Con.of (by decide +kernel) (Nat.le_of_ble_eq_true rfl) ?_
  show Sim cvv 1 g mX12_openFirst 2 0 [(0, rv g 10 0)] [] h _
  unfold fX12_openFirst
  refine s_aload_n 0 dX12_openFirst_0 rfl rfl ?_
  refine s_iconst (v := 5) dX12_openFirst_1 rfl ?_
  refine s_puti (s0 := 0) dX12_openFirst_2 fl_X12_328 (fun h1 => ?_)
  refine s_iconst (v := 0) dX12_openFirst_5 rfl ?_
  refine s_istore_n (ls' := [(1, .int 0), (0, rv g 10 0)]) dX12_openFirst_6 rfl (by decide) rfl ?_
  refine s_sub (ls' := [(0, rv g 10 0), (1, .int 0)]) [1, 0] rfl ?_
  refine sX12_openFirst_l7 g _ (fun h4 => ?_) FU 0 h1
  exact s_vret rfl dX12_openFirst_30
def fX12_layOut_l2 (K : Hp → Option (Unit × Hp)) (rec : Int32 → Hp → Option (Unit × Hp)) (l1 : Int32) (h : Hp) : Option (Unit × Hp) :=
  if (rd h 10 0 46) ≤ l1 then (K h)
  else (ck (ib l1 46656) (
  ck (ib (ra h 58 0 l1) 46656) (lt (wa h 59 0 (ra h 58 0 l1) 0) fun h1 =>
  lt (l1 + 1) fun x2 =>
  rec x2 h1)))
def fX12_layOut_l57 (l1 : Int32) (K : Hp → Option (Unit × Hp)) (rec : Int32 → Hp → Option (Unit × Hp)) (l2 : Int32) (h : Hp) : Option (Unit × Hp) :=
  if (5 : Int32) ≤ l2 then (K h)
  else (ck (ib l1 46656) (
  bnd (fX12_open (ra h 58 0 l1) h) fun _ h9 =>
  bnd (fX12_isKept l2 h9) fun x11 h10 =>
  jn (κ := Hp → Option (Unit × Hp)) (fun h13 => lt (l2 + 1) fun x14 =>
  rec x14 h13) fun k89_11 =>
  if x11 = 0 then (k89_11 h10)
  else (bnd (fX12_behindRun l2 h10) fun x16 h15 =>
  bnd (fX12_addStand x16 h15) fun _ h17 =>
  k89_11 h17)))
def fX12_layOut_l47 (K : Hp → Option (Unit × Hp)) (rec : Int32 → Hp → Option (Unit × Hp)) (l1 : Int32) (h : Hp) : Option (Unit × Hp) :=
  if (rd h 10 0 46) ≤ l1 then (K h)
  else (itr1 (fX12_layOut_l57 l1 (fun h18 => lt (l1 + 1) fun x19 =>
  rec x19 h18)) FU 0 h)
def fX12_layOut (h : Hp) : Option (Unit × Hp) :=
  itr1 (fX12_layOut_l2 (fun h3 => lt (wr h3 10 0 46 0) fun h4 =>
  bnd (fX12_openFirst h4) fun _ h5 =>
  bnd (fX12_close h5) fun x7 h6 =>
  bnd (fX12_addStand x7 h6) fun _ h8 =>
  itr1 (fX12_layOut_l47 (fun h20 => some ((), h20))) FU 0 h8)) FU 0 h
set_option maxHeartbeats 4000000 in
set_option maxRecDepth 100000 in
theorem sX12_layOut_l2 (g : GE) (K : Hp → Option (Unit × Hp)) (hK : ∀ (h : Hp), Sim cvv 1 g mX12_layOut 5 28 [(0, rv g 10 0)] [] h (K  h)) : ∀ (n : Nat) (l1 : Int32) (h : Hp), Sim cvv 1 g mX12_layOut 5 2 [(0, rv g 10 0), (1, .int l1)] [] h (itr1 (fX12_layOut_l2 K) n l1 h) := by
  refine s_itr1 (fun l1 h o => Sim cvv 1 g mX12_layOut 5 2 [(0, rv g 10 0), (1, .int l1)] [] h o) (fun _ _ => s_none) ?_
  intro rec hrec l1 h
  unfold fX12_layOut_l2
  refine s_iload_n 1 dX12_layOut_2 rfl rfl ?_
  refine s_aload_n 0 dX12_layOut_3 rfl rfl ?_
  refine s_geti (s0 := 0) dX12_layOut_4 fl_X12_340 ?_
  refine s_icmp_ge (tgt := 28) dX12_layOut_7 (by decide) ?_ ?_
  ·
    refine s_sub [0] rfl ?_
    exact hK h
  ·
    refine s_aload_n 0 dX12_layOut_10 rfl rfl ?_
    refine s_getr (s0 := 0) dX12_layOut_11 fl_X12_60 ?_
    refine s_aload_n 0 dX12_layOut_14 rfl rfl ?_
    refine s_getr (s0 := 0) dX12_layOut_15 fl_X12_57 ?_
    refine s_iload_n 1 dX12_layOut_18 rfl rfl ?_
    refine s_iald (s0 := 0) ka_58 dX12_layOut_19 ?_
    refine s_iconst (v := 0) dX12_layOut_20 rfl ?_
    refine s_iast (s0 := 0) ka_59 dX12_layOut_21 (fun h1 => ?_)
    refine s_iincl 1 (w := 1) (fun x2 => [(1, .int x2), (0, rv g 10 0)]) dX12_layOut_22 rfl rfl (by decide) (fun _ => rfl) (fun x2 => ?_)
    refine s_goto (tgt := 2) dX12_layOut_25 (by decide) ?_
    refine s_sub [1, 0] rfl ?_
    exact hrec x2 h1
set_option maxHeartbeats 4000000 in
set_option maxRecDepth 100000 in
theorem sX12_layOut_l57 (g : GE) (l1 : Int32) (K : Hp → Option (Unit × Hp)) (hK : ∀ (h : Hp), Sim cvv 1 g mX12_layOut 5 95 [(0, rv g 10 0), (1, .int l1)] [] h (K  h)) : ∀ (n : Nat) (l2 : Int32) (h : Hp), Sim cvv 1 g mX12_layOut 5 57 [(0, rv g 10 0), (1, .int l1), (2, .int l2)] [] h (itr1 (fX12_layOut_l57 l1 K) n l2 h) := by
  refine s_itr1 (fun l2 h o => Sim cvv 1 g mX12_layOut 5 57 [(0, rv g 10 0), (1, .int l1), (2, .int l2)] [] h o) (fun _ _ => s_none) ?_
  intro rec hrec l2 h
  unfold fX12_layOut_l57
  refine s_iload_n 2 dX12_layOut_57 rfl rfl ?_
  refine s_iconst (v := 5) dX12_layOut_58 rfl ?_
  refine s_icmp_ge (tgt := 95) dX12_layOut_59 (by decide) ?_ ?_
  ·
    refine s_sub [0, 1] rfl ?_
    exact hK h
  ·
    refine s_aload_n 0 dX12_layOut_62 rfl rfl ?_
    refine s_aload_n 0 dX12_layOut_63 rfl rfl ?_
    refine s_getr (s0 := 0) dX12_layOut_64 fl_X12_57 ?_
    refine s_iload_n 1 dX12_layOut_67 rfl rfl ?_
    refine s_iald (s0 := 0) ka_58 dX12_layOut_68 ?_
    refine s_callVv (s0 := 0) (As := [.int (ra h 58 0 l1)]) (rest := []) (cX12_open_ok g (ra h 58 0 l1) h) vl_X12_349 rfl (Nat.le_of_ble_eq_true rfl) (Nat.le_of_ble_eq_true rfl) dX12_layOut_69 rfl (fun h9 => ?_)
    refine s_aload_n 0 dX12_layOut_72 rfl rfl ?_
    refine s_iload_n 2 dX12_layOut_73 rfl rfl ?_
    refine s_callVi (s0 := 0) (As := [.int l2]) (rest := []) (cX12_isKept_ok g l2 h9) vl_X12_352 rfl (Nat.le_of_ble_eq_true rfl) (Nat.le_of_ble_eq_true rfl) dX12_layOut_74 rfl (fun x11 h10 => ?_)
    refine s_jn (fun (k89_11 : Hp → Option (Unit × Hp)) => ∀ (h13 : Hp), Sim cvv 1 g mX12_layOut 5 89 [(0, rv g 10 0), (1, .int l1), (2, .int l2)] [] h13 (k89_11 h13)) (fun h13 => ?_) (fun k89_11 Hk89_11 => ?_)
    ·
      refine s_iincl 2 (w := 1) (fun x14 => [(2, .int x14), (0, rv g 10 0), (1, .int l1)]) dX12_layOut_89 rfl rfl (by decide) (fun _ => rfl) (fun x14 => ?_)
      refine s_goto (tgt := 57) dX12_layOut_92 (by decide) ?_
      refine s_sub [1, 2, 0] rfl ?_
      exact hrec x14 h13
    refine s_if_eq (tgt := 89) dX12_layOut_77 (by decide) ?_ ?_
    ·
      exact Hk89_11 h10
    ·
      refine s_aload_n 0 dX12_layOut_80 rfl rfl ?_
      refine s_aload_n 0 dX12_layOut_81 rfl rfl ?_
      refine s_iload_n 2 dX12_layOut_82 rfl rfl ?_
      refine s_callVi (s0 := 0) (As := [.int l2]) (rest := [rv g 10 0]) (cX12_behindRun_ok g l2 h10) vl_X12_355 rfl (Nat.le_of_ble_eq_true rfl) (Nat.le_of_ble_eq_true rfl) dX12_layOut_83 rfl (fun x16 h15 => ?_)
      refine s_callVv (s0 := 0) (As := [.int x16]) (rest := []) (cX12_addStand_ok g x16 h15) vl_X12_346 rfl (Nat.le_of_ble_eq_true rfl) (Nat.le_of_ble_eq_true rfl) dX12_layOut_86 rfl (fun h17 => ?_)
      exact Hk89_11 h17
set_option maxHeartbeats 4000000 in
set_option maxRecDepth 100000 in
theorem sX12_layOut_l47 (g : GE) (K : Hp → Option (Unit × Hp)) (hK : ∀ (h : Hp), Sim cvv 1 g mX12_layOut 5 101 [] [] h (K  h)) : ∀ (n : Nat) (l1 : Int32) (h : Hp), Sim cvv 1 g mX12_layOut 5 47 [(0, rv g 10 0), (1, .int l1)] [] h (itr1 (fX12_layOut_l47 K) n l1 h) := by
  refine s_itr1 (fun l1 h o => Sim cvv 1 g mX12_layOut 5 47 [(0, rv g 10 0), (1, .int l1)] [] h o) (fun _ _ => s_none) ?_
  intro rec hrec l1 h
  unfold fX12_layOut_l47
  refine s_iload_n 1 dX12_layOut_47 rfl rfl ?_
  refine s_aload_n 0 dX12_layOut_48 rfl rfl ?_
  refine s_geti (s0 := 0) dX12_layOut_49 fl_X12_340 ?_
  refine s_icmp_ge (tgt := 101) dX12_layOut_52 (by decide) ?_ ?_
  ·
    refine s_sub [] rfl ?_
    exact hK h
  ·
    refine s_iconst (v := 0) dX12_layOut_55 rfl ?_
    refine s_istore_n (ls' := [(2, .int 0), (0, rv g 10 0), (1, .int l1)]) dX12_layOut_56 rfl (by decide) rfl ?_
    refine s_sub (ls' := [(0, rv g 10 0), (1, .int l1), (2, .int 0)]) [1, 2, 0] rfl ?_
    refine sX12_layOut_l57 g l1 _ (fun h18 => ?_) FU 0 h
    refine s_iincl 1 (w := 1) (fun x19 => [(1, .int x19), (0, rv g 10 0)]) dX12_layOut_95 rfl rfl (by decide) (fun _ => rfl) (fun x19 => ?_)
    refine s_goto (tgt := 47) dX12_layOut_98 (by decide) ?_
    refine s_sub [1, 0] rfl ?_
    exact hrec x19 h18
set_option maxHeartbeats 4000000 in
set_option maxRecDepth 100000 in
theorem cX12_layOut_ok (g : GE) (h : Hp) : Con cvv 1 g mX12_layOut 5 [rv g 10 0] h (fX12_layOut h) := by
  refine Con.of (by decide +kernel) (Nat.le_of_ble_eq_true rfl) ?_
  show Sim cvv 1 g mX12_layOut 5 0 [(0, rv g 10 0)] [] h _
  unfold fX12_layOut
  refine s_iconst (v := 0) dX12_layOut_0 rfl ?_
  refine s_istore_n (ls' := [(1, .int 0), (0, rv g 10 0)]) dX12_layOut_1 rfl (by decide) rfl ?_
  refine s_sub (ls' := [(0, rv g 10 0), (1, .int 0)]) [1, 0] rfl ?_
  refine sX12_layOut_l2 g _ (fun h3 => ?_) FU 0 h
  refine s_aload_n 0 dX12_layOut_28 rfl rfl ?_
  refine s_iconst (v := 0) dX12_layOut_29 rfl ?_
  refine s_puti (s0 := 0) dX12_layOut_30 fl_X12_340 (fun h4 => ?_)
  refine s_aload_n 0 dX12_layOut_33 rfl rfl ?_
  refine s_callVv (s0 := 0) (As := []) (rest := []) (cX12_openFirst_ok g h4) vl_X12_343 rfl (Nat.le_of_ble_eq_true rfl) (Nat.le_of_ble_eq_true rfl) dX12_layOut_34 rfl (fun h5 => ?_)
  refine s_aload_n 0 dX12_layOut_37 rfl rfl ?_
  refine s_aload_n 0 dX12_layOut_38 rfl rfl ?_
  refine s_callVi (s0 := 0) (As := []) (rest := [rv g 10 0]) (cX12_close_ok g h5) vl_X12_337 rfl (Nat.le_of_ble_eq_true rfl) (Nat.le_of_ble_eq_true rfl) dX12_layOut_39 rfl (fun x7 h6 => ?_)
  refine s_callVv (s0 := 0) (As := [.int x7]) (rest := []) (cX12_addStand_ok g x7 h6) vl_X12_346 rfl (Nat.le_of_ble_eq_true rfl) (Nat.le_of_ble_eq_true rfl) dX12_layOut_42 rfl (fun h8 => ?_)
  refine s_iconst (v := 0) dX12_layOut_45 rfl ?_
  refine s_istore_n (ls' := [(1, .int 0), (0, rv g 10 0)]) dX12_layOut_46 rfl (by decide) rfl ?_
  refine s_sub (ls' := [(0, rv g 10 0), (1, .int 0)]) [1, 0] rfl ?_
  refine sX12_layOut_l47 g _ (fun h20 => ?_) FU 0 h8
  exact s_vret rfl dX12_layOut_101
def fX12_isForever_l15 (K : Hp → Option (Int32 × Hp)) (rec : Int32 → Hp → Option (Int32 × Hp)) (l1 : Int32) (h : Hp) : Option (Int32 × Hp) :=
  if (rd h 10 0 46) ≤ l1 then (K h)
  else (ck (ib l1 46656) (lt (wa h 60 0 l1 (-1)) fun h2 =>
  lt (l1 + 1) fun x3 =>
  rec x3 h2))
def fX12_isForever_l51 (K : Int32 → Hp → Option (Int32 × Hp)) (rec : Int32 → Int32 → Hp → Option (Int32 × Hp)) (l1 l2 : Int32) (h : Hp) : Option (Int32 × Hp) :=
  if l2 < 0 then (K l1 h)
  else (ck (ib l2 46656) (
  jn (κ := Int32 → Hp → Option (Int32 × Hp)) (fun y1_5 h7 => lt (l2 + (-1)) fun x8 =>
  rec y1_5 x8 h7) fun k96_5 =>
  if (ra h 60 0 l2) = (-1) then (bnd (fX12_lastsOf l2 h) fun x10 h9 =>
  ck (ib l2 46656) (lt (wa h9 60 0 l2 x10) fun h11 =>
  jn (κ := Int32 → Hp → Option (Int32 × Hp)) (fun z0_11 h13 => k96_5 z0_11 h13) fun k95_11 =>
  jn (κ := Hp → Option (Int32 × Hp)) (fun h15 => k95_11 1 h15) fun k90_13 =>
  if l1 = 0 then (ck (ib l2 46656) (
  if (ra h11 60 0 l2) = (-1) then (k95_11 0 h11)
  else (k90_13 h11)))
  else (k90_13 h11)))
  else (k96_5 l1 h)))
def fX12_isForever_l38 (K : Hp → Option (Int32 × Hp)) (rec : Int32 → Hp → Option (Int32 × Hp)) (l1 : Int32) (h : Hp) : Option (Int32 × Hp) :=
  if l1 = 0 then (K h)
  else (lt ((rd h 10 0 46) - (1 : Int32)) fun x5 =>
  itr2 (fX12_isForever_l51 (fun y16 h17 => rec y16 h17)) FU 0 x5 h)
def fX12_isForever (h : Hp) : Option (Int32 × Hp) :=
  bnd (fX12_layOut h) fun _ h1 =>
  if (rd h1 10 0 25) = 0 then (ck (zk 1) (some (1, h1)))
  else (itr1 (fX12_isForever_l15 (fun h4 => itr1 (fX12_isForever_l38 (fun h18 => ck (ib 0 46656) (
  if (ra h18 60 0 0) = (-1) then (ck (zk 1) (some (1, h18)))
  else (ck (zk 0) (some (0, h18)))))) FU 1 h4)) FU 0 h1)
set_option maxHeartbeats 4000000 in
set_option maxRecDepth 100000 in
theorem sX12_isForever_l15 (g : GE) (K : Hp → Option (Int32 × Hp)) (hK : ∀ (h : Hp), Sim cvi 1 g mX12_isForever 6 36 [(0, rv g 10 0)] [] h (K  h)) : ∀ (n : Nat) (l1 : Int32) (h : Hp), Sim cvi 1 g mX12_isForever 6 15 [(0, rv g 10 0), (1, .int l1)] [] h (itr1 (fX12_isForever_l15 K) n l1 h) := by
  refine s_itr1 (fun l1 h o => Sim cvi 1 g mX12_isForever 6 15 [(0, rv g 10 0), (1, .int l1)] [] h o) (fun _ _ => s_none) ?_
  intro rec hrec l1 h
  unfold fX12_isForever_l15
  refine s_iload_n 1 dX12_isForever_15 rfl rfl ?_
  refine s_aload_n 0 dX12_isForever_16 rfl rfl ?_
  refine s_geti (s0 := 0) dX12_isForever_17 fl_X12_340 ?_
  refine s_icmp_ge (tgt := 36) dX12_isForever_20 (by decide) ?_ ?_
  ·
    refine s_sub [0] rfl ?_
    exact hK h
  ·
    refine s_aload_n 0 dX12_isForever_23 rfl rfl ?_
    refine s_getr (s0 := 0) dX12_isForever_24 fl_X12_63 ?_
    refine s_iload_n 1 dX12_isForever_27 rfl rfl ?_
    refine s_iconst (v := (-1)) dX12_isForever_28 rfl ?_
    refine s_iast (s0 := 0) ka_60 dX12_isForever_29 (fun h2 => ?_)
    refine s_iincl 1 (w := 1) (fun x3 => [(1, .int x3), (0, rv g 10 0)]) dX12_isForever_30 rfl rfl (by decide) (fun _ => rfl) (fun x3 => ?_)
    refine s_goto (tgt := 15) dX12_isForever_33 (by decide) ?_
    refine s_sub [1, 0] rfl ?_
    exact hrec x3 h2
set_option maxHeartbeats 4000000 in
set_option maxRecDepth 100000 in
theorem sX12_isForever_l51 (g : GE) (K : Int32 → Hp → Option (Int32 × Hp)) (hK : ∀ (y1 : Int32) (h : Hp), Sim cvi 1 g mX12_isForever 6 102 [(0, rv g 10 0), (1, .int y1)] [] h (K y1 h)) : ∀ (n : Nat) (l1 l2 : Int32) (h : Hp), Sim cvi 1 g mX12_isForever 6 51 [(0, rv g 10 0), (1, .int l1), (2, .int l2)] [] h (itr2 (fX12_isForever_l51 K) n l1 l2 h) := by
  refine s_itr2 (fun l1 l2 h o => Sim cvi 1 g mX12_isForever 6 51 [(0, rv g 10 0), (1, .int l1), (2, .int l2)] [] h o) (fun _ _ _ => s_none) ?_
  intro rec hrec l1 l2 h
  unfold fX12_isForever_l51
  refine s_iload_n 2 dX12_isForever_51 rfl rfl ?_
  refine s_if_lt (tgt := 102) dX12_isForever_52 (by decide) ?_ ?_
  ·
    refine s_sub [0, 1] rfl ?_
    exact hK l1 h
  ·
    refine s_aload_n 0 dX12_isForever_55 rfl rfl ?_
    refine s_getr (s0 := 0) dX12_isForever_56 fl_X12_63 ?_
    refine s_iload_n 2 dX12_isForever_59 rfl rfl ?_
    refine s_iald (s0 := 0) ka_60 dX12_isForever_60 ?_
    refine s_iconst (v := (-1)) dX12_isForever_61 rfl ?_
    refine s_jn (fun (k96_5 : Int32 → Hp → Option (Int32 × Hp)) => ∀ (y1_5 : Int32) (h7 : Hp), Sim cvi 1 g mX12_isForever 6 96 [(0, rv g 10 0), (1, .int y1_5), (2, .int l2)] [] h7 (k96_5 y1_5 h7)) (fun y1_5 h7 => ?_) (fun k96_5 Hk96_5 => ?_)
    ·
      refine s_iincl 2 (w := (-1)) (fun x8 => [(2, .int x8), (0, rv g 10 0), (1, .int y1_5)]) dX12_isForever_96 rfl rfl (by decide) (fun _ => rfl) (fun x8 => ?_)
      refine s_goto (tgt := 51) dX12_isForever_99 (by decide) ?_
      refine s_sub [1, 2, 0] rfl ?_
      exact hrec y1_5 x8 h7
    refine s_icmp_ne (tgt := 96) dX12_isForever_62 (by decide) ?_ ?_
    ·
      refine s_aload_n 0 dX12_isForever_65 rfl rfl ?_
      refine s_getr (s0 := 0) dX12_isForever_66 fl_X12_63 ?_
      refine s_iload_n 2 dX12_isForever_69 rfl rfl ?_
      refine s_aload_n 0 dX12_isForever_70 rfl rfl ?_
      refine s_iload_n 2 dX12_isForever_71 rfl rfl ?_
      refine s_callVi (s0 := 0) (As := [.int l2]) (rest := [.int l2, rv g 60 0]) (cX12_lastsOf_ok g l2 h) vl_X12_365 rfl (Nat.le_of_ble_eq_true rfl) (Nat.le_of_ble_eq_true rfl) dX12_isForever_72 rfl (fun x10 h9 => ?_)
      refine s_iast (s0 := 0) ka_60 dX12_isForever_75 (fun h11 => ?_)
      refine s_iload_n 1 dX12_isForever_76 rfl rfl ?_
      refine s_jn (fun (k95_11 : Int32 → Hp → Option (Int32 × Hp)) => ∀ (z0_11 : Int32) (h13 : Hp), Sim cvi 1 g mX12_isForever 6 95 [(0, rv g 10 0), (2, .int l2)] [.int z0_11] h13 (k95_11 z0_11 h13)) (fun z0_11 h13 => ?_) (fun k95_11 Hk95_11 => ?_)
      ·
        refine s_istore_n (ls' := [(1, .int z0_11), (0, rv g 10 0), (2, .int l2)]) dX12_isForever_95 rfl (by decide) rfl ?_
        refine s_sub [1, 0, 2] rfl ?_
        exact Hk96_5 z0_11 h13
      refine s_jn (fun (k90_13 : Hp → Option (Int32 × Hp)) => ∀ (h15 : Hp), Sim cvi 1 g mX12_isForever 6 90 [(0, rv g 10 0), (2, .int l2)] [] h15 (k90_13 h15)) (fun h15 => ?_) (fun k90_13 Hk90_13 => ?_)
      ·
        refine s_iconst (v := 1) dX12_isForever_90 rfl ?_
        refine s_goto (tgt := 95) dX12_isForever_91 (by decide) ?_
        exact Hk95_11 1 h15
      refine s_if_ne (tgt := 90) dX12_isForever_77 (by decide) ?_ ?_
      ·
        refine s_aload_n 0 dX12_isForever_80 rfl rfl ?_
        refine s_getr (s0 := 0) dX12_isForever_81 fl_X12_63 ?_
        refine s_iload_n 2 dX12_isForever_84 rfl rfl ?_
        refine s_iald (s0 := 0) ka_60 dX12_isForever_85 ?_
        refine s_iconst (v := (-1)) dX12_isForever_86 rfl ?_
        refine s_icmp_eq (tgt := 94) dX12_isForever_87 (by decide) ?_ ?_
        ·
          refine s_iconst (v := 0) dX12_isForever_94 rfl ?_
          refine s_sub [0, 2] rfl ?_
          exact Hk95_11 0 h11
        ·
          refine s_sub [0, 2] rfl ?_
          exact Hk90_13 h11
      ·
        refine s_sub [0, 2] rfl ?_
        exact Hk90_13 h11
    ·
      exact Hk96_5 l1 h
set_option maxHeartbeats 4000000 in
set_option maxRecDepth 100000 in
theorem sX12_isForever_l38 (g : GE) (K : Hp → Option (Int32 × Hp)) (hK : ∀ (h : Hp), Sim cvi 1 g mX12_isForever 6 105 [(0, rv g 10 0)] [] h (K  h)) : ∀ (n : Nat) (l1 : Int32) (h : Hp), Sim cvi 1 g mX12_isForever 6 38 [(0, rv g 10 0), (1, .int l1)] [] h (itr1 (fX12_isForever_l38 K) n l1 h) := by
  refine s_itr1 (fun l1 h o => Sim cvi 1 g mX12_isForever 6 38 [(0, rv g 10 0), (1, .int l1)] [] h o) (fun _ _ => s_none) ?_
  intro rec hrec l1 h
  unfold fX12_isForever_l38
  refine s_iload_n 1 dX12_isForever_38 rfl rfl ?_
  refine s_if_eq (tgt := 105) dX12_isForever_39 (by decide) ?_ ?_
  ·
    refine s_sub [0] rfl ?_
    exact hK h
  ·
    refine s_iconst (v := 0) dX12_isForever_42 rfl ?_
    refine s_istore_n (ls' := [(1, .int 0), (0, rv g 10 0)]) dX12_isForever_43 rfl (by decide) rfl ?_
    refine s_aload_n 1 dX12_isForever_44 rfl rfl ?_
    refine s_geti (s0 := 0) dX12_isForever_45 fl_X12_340 ?_
    refine s_iconst (v := 1) dX12_isForever_48 rfl ?_
    refine s_isub dX12_isForever_49 ?_
    refine s_leti (fun x5 => ?_)
    refine s_istore_n (ls' := [(2, .int x5), (1, .int 0), (0, rv g 10 0)]) dX12_isForever_50 rfl (by decide) rfl ?_
    refine s_sub (ls' := [(0, rv g 10 0), (1, .int 0), (2, .int x5)]) [2, 1, 0] rfl ?_
    refine sX12_isForever_l51 g _ (fun y16 h17 => ?_) FU 0 x5 h
    refine s_goto (tgt := 38) dX12_isForever_102 (by decide) ?_
    exact hrec y16 h17
set_option maxHeartbeats 4000000 in
set_option maxRecDepth 100000 in
theorem cX12_isForever_ok (g : GE) (h : Hp) : Con cvi 1 g mX12_isForever 6 [rv g 10 0] h (fX12_isForever h) := by
  refine Con.of (by decide +kernel) (Nat.le_of_ble_eq_true rfl) ?_
  show Sim cvi 1 g mX12_isForever 6 0 [(0, rv g 10 0)] [] h _
  unfold fX12_isForever
  refine s_aload_n 0 dX12_isForever_0 rfl rfl ?_
  refine s_callVv (s0 := 0) (As := []) (rest := []) (cX12_layOut_ok g h) vl_X12_362 rfl (Nat.le_of_ble_eq_true rfl) (Nat.le_of_ble_eq_true rfl) dX12_isForever_1 rfl (fun h1 => ?_)
  refine s_aload_n 0 dX12_isForever_4 rfl rfl ?_
  refine s_geti (s0 := 0) dX12_isForever_5 fl_X12_235 ?_
  refine s_if_ne (tgt := 13) dX12_isForever_8 (by decide) ?_ ?_
  ·
    refine s_iconst (v := 1) dX12_isForever_11 rfl ?_
    exact s_zret rfl dX12_isForever_12
  ·
    refine s_iconst (v := 0) dX12_isForever_13 rfl ?_
    refine s_istore_n (ls' := [(1, .int 0), (0, rv g 10 0)]) dX12_isForever_14 rfl (by decide) rfl ?_
    refine s_sub (ls' := [(0, rv g 10 0), (1, .int 0)]) [1, 0] rfl ?_
    refine sX12_isForever_l15 g _ (fun h4 => ?_) FU 0 h1
    refine s_iconst (v := 1) dX12_isForever_36 rfl ?_
    refine s_istore_n (ls' := [(1, .int 1), (0, rv g 10 0)]) dX12_isForever_37 rfl (by decide) rfl ?_
    refine s_sub (ls' := [(0, rv g 10 0), (1, .int 1)]) [1, 0] rfl ?_
    refine sX12_isForever_l38 g _ (fun h18 => ?_) FU 1 h4
    refine s_aload_n 0 dX12_isForever_105 rfl rfl ?_
    refine s_getr (s0 := 0) dX12_isForever_106 fl_X12_63 ?_
    refine s_iconst (v := 0) dX12_isForever_109 rfl ?_
    refine s_iald (s0 := 0) ka_60 dX12_isForever_110 ?_
    refine s_iconst (v := (-1)) dX12_isForever_111 rfl ?_
    refine s_icmp_ne (tgt := 119) dX12_isForever_112 (by decide) ?_ ?_
    ·
      refine s_iconst (v := 1) dX12_isForever_115 rfl ?_
      refine s_goto (tgt := 120) dX12_isForever_116 (by decide) ?_
      exact s_zret rfl dX12_isForever_120
    ·
      refine s_iconst (v := 0) dX12_isForever_119 rfl ?_
      exact s_zret rfl dX12_isForever_120
def fX12_aloneOf_l4 (K : Int32 → Hp → Option (Int32 × Hp)) (rec : Int32 → Int32 → Hp → Option (Int32 × Hp)) (l1 l2 : Int32) (h : Hp) : Option (Int32 × Hp) :=
  if (rd h 10 0 22) ≤ l2 then (K l1 h)
  else (lt (wr h 10 0 25 ((1 : Int32) <<< (l2 &&& 31))) fun h1 =>
  bnd (fX12_isForever h1) fun x3 h2 =>
  jn (κ := Int32 → Hp → Option (Int32 × Hp)) (fun z0_3 h5 => lt (l1 ||| z0_3) fun x6 =>
  lt (l2 + 1) fun x7 =>
  rec x6 x7 h5) fun k34_3 =>
  if x3 = 0 then (k34_3 0 h2)
  else (k34_3 ((1 : Int32) <<< (l2 &&& 31)) h2))
def fX12_aloneOf (h : Hp) : Option (Int32 × Hp) :=
  itr2 (fX12_aloneOf_l4 (fun y8 h9 => some (y8, h9))) FU 0 0 h
set_option maxHeartbeats 4000000 in
set_option maxRecDepth 100000 in
theorem sX12_aloneOf_l4 (g : GE) (K : Int32 → Hp → Option (Int32 × Hp)) (hK : ∀ (y1 : Int32) (h : Hp), Sim cvi 1 g mX12_aloneOf 7 42 [(1, .int y1)] [] h (K y1 h)) : ∀ (n : Nat) (l1 l2 : Int32) (h : Hp), Sim cvi 1 g mX12_aloneOf 7 4 [(0, rv g 10 0), (1, .int l1), (2, .int l2)] [] h (itr2 (fX12_aloneOf_l4 K) n l1 l2 h) := by
  refine s_itr2 (fun l1 l2 h o => Sim cvi 1 g mX12_aloneOf 7 4 [(0, rv g 10 0), (1, .int l1), (2, .int l2)] [] h o) (fun _ _ _ => s_none) ?_
  intro rec hrec l1 l2 h
  unfold fX12_aloneOf_l4
  refine s_iload_n 2 dX12_aloneOf_4 rfl rfl ?_
  refine s_aload_n 0 dX12_aloneOf_5 rfl rfl ?_
  refine s_geti (s0 := 0) dX12_aloneOf_6 fl_X12_232 ?_
  refine s_icmp_ge (tgt := 42) dX12_aloneOf_9 (by decide) ?_ ?_
  ·
    refine s_sub [1] rfl ?_
    exact hK l1 h
  ·
    refine s_aload_n 0 dX12_aloneOf_12 rfl rfl ?_
    refine s_iconst (v := 1) dX12_aloneOf_13 rfl ?_
    refine s_iload_n 2 dX12_aloneOf_14 rfl rfl ?_
    refine s_ishl dX12_aloneOf_15 ?_
    refine s_puti (s0 := 0) dX12_aloneOf_16 fl_X12_235 (fun h1 => ?_)
    refine s_iload_n 1 dX12_aloneOf_19 rfl rfl ?_
    refine s_aload_n 0 dX12_aloneOf_20 rfl rfl ?_
    refine s_callVi (s0 := 0) (As := []) (rest := [.int l1]) (cX12_isForever_ok g h1) vl_X12_377 rfl (Nat.le_of_ble_eq_true rfl) (Nat.le_of_ble_eq_true rfl) dX12_aloneOf_21 rfl (fun x3 h2 => ?_)
    refine s_jn (fun (k34_3 : Int32 → Hp → Option (Int32 × Hp)) => ∀ (z0_3 : Int32) (h5 : Hp), Sim cvi 1 g mX12_aloneOf 7 34 [(0, rv g 10 0), (2, .int l2)] [.int z0_3, .int l1] h5 (k34_3 z0_3 h5)) (fun z0_3 h5 => ?_) (fun k34_3 Hk34_3 => ?_)
    ·
      refine s_ior dX12_aloneOf_34 ?_
      refine s_leti (fun x6 => ?_)
      refine s_istore_n (ls' := [(1, .int x6), (0, rv g 10 0), (2, .int l2)]) dX12_aloneOf_35 rfl (by decide) rfl ?_
      refine s_iincl 2 (w := 1) (fun x7 => [(2, .int x7), (1, .int x6), (0, rv g 10 0)]) dX12_aloneOf_36 rfl rfl (by decide) (fun _ => rfl) (fun x7 => ?_)
      refine s_goto (tgt := 4) dX12_aloneOf_39 (by decide) ?_
      refine s_sub [2, 1, 0] rfl ?_
      exact hrec x6 x7 h5
    refine s_if_eq (tgt := 33) dX12_aloneOf_24 (by decide) ?_ ?_
    ·
      refine s_iconst (v := 0) dX12_aloneOf_33 rfl ?_
      refine s_sub [0, 2] rfl ?_
      exact Hk34_3 0 h2
    ·
      refine s_iconst (v := 1) dX12_aloneOf_27 rfl ?_
      refine s_iload_n 2 dX12_aloneOf_28 rfl rfl ?_
      refine s_ishl dX12_aloneOf_29 ?_
      refine s_goto (tgt := 34) dX12_aloneOf_30 (by decide) ?_
      refine s_sub [0, 2] rfl ?_
      exact Hk34_3 ((1 : Int32) <<< (l2 &&& 31)) h2
set_option maxHeartbeats 4000000 in
set_option maxRecDepth 100000 in
theorem cX12_aloneOf_ok (g : GE) (h : Hp) : Con cvi 1 g mX12_aloneOf 7 [rv g 10 0] h (fX12_aloneOf h) := by
  refine Con.of (by decide +kernel) (Nat.le_of_ble_eq_true rfl) ?_
  show Sim cvi 1 g mX12_aloneOf 7 0 [(0, rv g 10 0)] [] h _
  unfold fX12_aloneOf
  refine s_iconst (v := 0) dX12_aloneOf_0 rfl ?_
  refine s_istore_n (ls' := [(1, .int 0), (0, rv g 10 0)]) dX12_aloneOf_1 rfl (by decide) rfl ?_
  refine s_iconst (v := 0) dX12_aloneOf_2 rfl ?_
  refine s_istore_n (ls' := [(2, .int 0), (1, .int 0), (0, rv g 10 0)]) dX12_aloneOf_3 rfl (by decide) rfl ?_
  refine s_sub (ls' := [(0, rv g 10 0), (1, .int 0), (2, .int 0)]) [2, 1, 0] rfl ?_
  refine sX12_aloneOf_l4 g _ (fun y8 h9 => ?_) FU 0 0 h
  refine s_iload_n 0 dX12_aloneOf_42 rfl rfl ?_
  exact s_iret rfl dX12_aloneOf_43
def fX12_askWhat_l8 (K : Int32 → Hp → Option (Int32 × Hp)) (rec : Int32 → Int32 → Int32 → Hp → Option (Int32 × Hp)) (l1 l2 l3 : Int32) (h : Hp) : Option (Int32 × Hp) :=
  if (105 : Int32) ≤ l3 then (K l1 h)
  else (if (rd h 10 0 53) ≤ 0 then (K l1 h)
  else (ck (ib l3 105) (
  ck (ib l3 105) (
  bnd (fX12_greater (ra h 66 0 l3) ((rd h 10 0 53) - (ra h 66 0 l3)) h) fun x2 h1 =>
  jn (κ := Int32 → Int32 → Hp → Option (Int32 × Hp)) (fun y1_2 y2_2 h4 => lt (l3 + 1) fun x5 =>
  rec y1_2 y2_2 x5 h4) fun k73_2 =>
  if (rd h1 10 0 22) ≤ (irm l3 5) then (k73_2 l1 l2 h1)
  else (if l2 ≤ x2 then (k73_2 l1 l2 h1)
  else (lt (((10 : Int32) * (l3 / 5)) + (irm l3 5)) fun x6 =>
  k73_2 x6 x2 h1))))))
def fX12_askWhat (h : Hp) : Option (Int32 × Hp) :=
  itr3 (fX12_askWhat_l8 (fun y7 h8 => some (y7, h8))) FU (-1) 1000000 0 h
set_option maxHeartbeats 4000000 in
set_option maxRecDepth 100000 in
theorem sX12_askWhat_l8 (g : GE) (K : Int32 → Hp → Option (Int32 × Hp)) (hK : ∀ (y1 : Int32) (h : Hp), Sim cvi 1 g mX12_askWhat 3 79 [(1, .int y1)] [] h (K y1 h)) : ∀ (n : Nat) (l1 l2 l3 : Int32) (h : Hp), Sim cvi 1 g mX12_askWhat 3 8 [(0, rv g 10 0), (1, .int l1), (2, .int l2), (3, .int l3)] [] h (itr3 (fX12_askWhat_l8 K) n l1 l2 l3 h) := by
  refine s_itr3 (fun l1 l2 l3 h o => Sim cvi 1 g mX12_askWhat 3 8 [(0, rv g 10 0), (1, .int l1), (2, .int l2), (3, .int l3)] [] h o) (fun _ _ _ _ => s_none) ?_
  intro rec hrec l1 l2 l3 h
  unfold fX12_askWhat_l8
  refine s_iload_n 3 dX12_askWhat_8 rfl rfl ?_
  refine s_bipush (v := 105) dX12_askWhat_9 rfl ?_
  refine s_icmp_ge (tgt := 79) dX12_askWhat_11 (by decide) ?_ ?_
  ·
    refine s_sub [1] rfl ?_
    exact hK l1 h
  ·
    refine s_aload_n 0 dX12_askWhat_14 rfl rfl ?_
    refine s_geti (s0 := 0) dX12_askWhat_15 fl_X12_462 ?_
    refine s_if_le (tgt := 79) dX12_askWhat_18 (by decide) ?_ ?_
    ·
      refine s_sub [1] rfl ?_
      exact hK l1 h
    ·
      refine s_aload_n 0 dX12_askWhat_21 rfl rfl ?_
      refine s_getr (s0 := 0) dX12_askWhat_22 fl_X12_81 ?_
      refine s_iload_n 3 dX12_askWhat_25 rfl rfl ?_
      refine s_iald (s0 := 0) ka_66 dX12_askWhat_26 ?_
      refine s_aload_n 0 dX12_askWhat_27 rfl rfl ?_
      refine s_geti (s0 := 0) dX12_askWhat_28 fl_X12_462 ?_
      refine s_aload_n 0 dX12_askWhat_31 rfl rfl ?_
      refine s_getr (s0 := 0) dX12_askWhat_32 fl_X12_81 ?_
      refine s_iload_n 3 dX12_askWhat_35 rfl rfl ?_
      refine s_iald (s0 := 0) ka_66 dX12_askWhat_36 ?_
      refine s_isub dX12_askWhat_37 ?_
      refine s_callSi (As := [.int (ra h 66 0 l3), .int ((rd h 10 0 53) - (ra h 66 0 l3))]) (rest := []) (cX12_greater_ok g (ra h 66 0 l3) ((rd h 10 0 53) - (ra h 66 0 l3)) h) sl_X12_280 rfl (Nat.le_of_ble_eq_true rfl) (Nat.le_of_ble_eq_true rfl) dX12_askWhat_38 rfl (fun x2 h1 => ?_)
      refine s_istore (ls' := [(4, .int x2), (0, rv g 10 0), (1, .int l1), (2, .int l2), (3, .int l3)]) dX12_askWhat_41 (by decide) rfl ?_
      refine s_iload_n 4 dX12_askWhat_43 rfl rfl ?_
      refine s_iconst (v := 5) dX12_askWhat_44 rfl ?_
      refine s_iremc dX12_askWhat_45 (by decide) ?_
      refine s_aload_n 1 dX12_askWhat_46 rfl rfl ?_
      refine s_geti (s0 := 0) dX12_askWhat_47 fl_X12_232 ?_
      refine s_jn (fun (k73_2 : Int32 → Int32 → Hp → Option (Int32 × Hp)) => ∀ (y1_2 : Int32) (y2_2 : Int32) (h4 : Hp), Sim cvi 1 g mX12_askWhat 3 73 [(0, rv g 10 0), (1, .int y1_2), (2, .int y2_2), (3, .int l3)] [] h4 (k73_2 y1_2 y2_2 h4)) (fun y1_2 y2_2 h4 => ?_) (fun k73_2 Hk73_2 => ?_)
      ·
        refine s_iincl 3 (w := 1) (fun x5 => [(3, .int x5), (0, rv g 10 0), (1, .int y1_2), (2, .int y2_2)]) dX12_askWhat_73 rfl rfl (by decide) (fun _ => rfl) (fun x5 => ?_)
        refine s_goto (tgt := 8) dX12_askWhat_76 (by decide) ?_
        refine s_sub [1, 2, 3, 0] rfl ?_
        exact hrec y1_2 y2_2 x5 h4
      refine s_icmp_ge (tgt := 73) dX12_askWhat_50 (by decide) ?_ ?_
      ·
        refine s_sub [1, 2, 3, 4] rfl ?_
        exact Hk73_2 l1 l2 h1
      ·
        refine s_iload 0 dX12_askWhat_53 rfl ?_
        refine s_iload_n 3 dX12_askWhat_55 rfl rfl ?_
        refine s_icmp_ge (tgt := 73) dX12_askWhat_56 (by decide) ?_ ?_
        ·
          refine s_sub [1, 2, 3, 4] rfl ?_
          exact Hk73_2 l1 l2 h1
        ·
          refine s_bipush (v := 10) dX12_askWhat_59 rfl ?_
          refine s_iload_n 4 dX12_askWhat_61 rfl rfl ?_
          refine s_iconst (v := 5) dX12_askWhat_62 rfl ?_
          refine s_idivc dX12_askWhat_63 (by decide) ?_
          refine s_imul dX12_askWhat_64 ?_
          refine s_iload_n 4 dX12_askWhat_65 rfl rfl ?_
          refine s_iconst (v := 5) dX12_askWhat_66 rfl ?_
          refine s_iremc dX12_askWhat_67 (by decide) ?_
          refine s_iadd dX12_askWhat_68 ?_
          refine s_leti (fun x6 => ?_)
          refine s_istore_n (ls' := [(1, .int x6), (4, .int x2), (0, rv g 10 0), (2, .int l2), (3, .int l3)]) dX12_askWhat_69 rfl (by decide) rfl ?_
          refine s_iload 1 dX12_askWhat_70 rfl ?_
          refine s_istore_n (ls' := [(2, .int x2), (1, .int x6), (4, .int x2), (0, rv g 10 0), (3, .int l3)]) dX12_askWhat_72 rfl (by decide) rfl ?_
          refine s_sub [3, 1, 0, 4] rfl ?_
          exact Hk73_2 x6 x2 h1
set_option maxHeartbeats 4000000 in
set_option maxRecDepth 100000 in
theorem cX12_askWhat_ok (g : GE) (h : Hp) : Con cvi 1 g mX12_askWhat 3 [rv g 10 0] h (fX12_askWhat h) := by
  refine Con.of (by decide +kernel) (Nat.le_of_ble_eq_true rfl) ?_
  show Sim cvi 1 g mX12_askWhat 3 0 [(0, rv g 10 0)] [] h _
  unfold fX12_askWhat
  refine s_iconst (v := (-1)) dX12_askWhat_0 rfl ?_
  refine s_istore_n (ls' := [(1, .int (-1)), (0, rv g 10 0)]) dX12_askWhat_1 rfl (by decide) rfl ?_
  refine s_ldcw dX12_askWhat_2 w_7_137 ?_
  refine s_istore_n (ls' := [(2, .int 1000000), (1, .int (-1)), (0, rv g 10 0)]) dX12_askWhat_5 rfl (by decide) rfl ?_
  refine s_iconst (v := 0) dX12_askWhat_6 rfl ?_
  refine s_istore_n (ls' := [(3, .int 0), (2, .int 1000000), (1, .int (-1)), (0, rv g 10 0)]) dX12_askWhat_7 rfl (by decide) rfl ?_
  refine s_sub (ls' := [(0, rv g 10 0), (1, .int (-1)), (2, .int 1000000), (3, .int 0)]) [3, 2, 1, 0] rfl ?_
  refine sX12_askWhat_l8 g _ (fun y7 h8 => ?_) FU (-1) 1000000 0 h
  refine s_iload_n 0 dX12_askWhat_79 rfl rfl ?_
  exact s_iret rfl dX12_askWhat_80
def fX12_behind (l1 : Int32) (l2 : Int32) (l3 : Int32) (h : Hp) : Option (Int32 × Hp) :=
  lt (wr h 10 0 0 0) fun h1 =>
  bnd (fX12_hand l1 h1) fun x3 h2 =>
  if x3 = 0 then (some ((-2), h2))
  else (bnd (fX12_isPlate l2 h2) fun x5 h4 =>
  if x5 = 0 then (some ((-2), h4))
  else (bnd (fX12_in l3 0 2 h4) fun x7 h6 =>
  if x7 = 0 then (some ((-2), h6))
  else (bnd (fX12_isForever h6) fun x9 h8 =>
  bnd (fX12_openFirst h8) fun _ h10 =>
  bnd (fX12_isKept l2 h10) fun x12 h11 =>
  if l3 = 0 then (if x12 = 0 then (some (0, h11))
  else (some (1, h11)))
  else (if x12 = 0 then (some ((-2), h11))
  else (bnd (fX12_behindRun l2 h11) fun x14 h13 =>
  ck (ib x14 46656) (
  ck (ib ((ra h13 59 0 x14) - (1 : Int32)) 46656) (
  lt (ra h13 60 0 ((ra h13 59 0 x14) - (1 : Int32))) fun x15 =>
  if l3 = 2 then (some (x15, h13))
  else (if x15 = (-1) then (some (1, h13))
  else (some (0, h13))))))))))
set_option maxHeartbeats 4000000 in
set_option maxRecDepth 100000 in
theorem cX12_behind_ok (g : GE) (l1 : Int32) (l2 : Int32) (l3 : Int32) (h : Hp) : Con cvi 1 g mX12_behind 7 [rv g 10 0, .int l1, .int l2, .int l3] h (fX12_behind l1 l2 l3 h) := by
  refine Con.of (by decide +kernel) (Nat.le_of_ble_eq_true rfl) ?_
  show Sim cvi 1 g mX12_behind 7 0 [(0, rv g 10 0), (1, .int l1), (2, .int l2), (3, .int l3)] [] h _
  unfold fX12_behind
  refine s_aload_n 0 dX12_behind_0 rfl rfl ?_
  refine s_iconst (v := 0) dX12_behind_1 rfl ?_
  refine s_puti (s0 := 0) dX12_behind_2 fl_X12_88 (fun h1 => ?_)
  refine s_aload_n 0 dX12_behind_5 rfl rfl ?_
  refine s_iload_n 1 dX12_behind_6 rfl rfl ?_
  refine s_callVi (s0 := 0) (As := [.int l1]) (rest := []) (cX12_hand_ok g l1 h1) vl_X12_241 rfl (Nat.le_of_ble_eq_true rfl) (Nat.le_of_ble_eq_true rfl) dX12_behind_7 rfl (fun x3 h2 => ?_)
  refine s_if_eq (tgt := 30) dX12_behind_10 (by decide) ?_ ?_
  ·
    refine s_bipush (v := (-2)) dX12_behind_30 rfl ?_
    exact s_iret rfl dX12_behind_32
  ·
    refine s_aload_n 0 dX12_behind_13 rfl rfl ?_
    refine s_iload_n 2 dX12_behind_14 rfl rfl ?_
    refine s_callVi (s0 := 0) (As := [.int l2]) (rest := []) (cX12_isPlate_ok g l2 h2) vl_X12_244 rfl (Nat.le_of_ble_eq_true rfl) (Nat.le_of_ble_eq_true rfl) dX12_behind_15 rfl (fun x5 h4 => ?_)
    refine s_if_eq (tgt := 30) dX12_behind_18 (by decide) ?_ ?_
    ·
      refine s_bipush (v := (-2)) dX12_behind_30 rfl ?_
      exact s_iret rfl dX12_behind_32
    ·
      refine s_iload_n 3 dX12_behind_21 rfl rfl ?_
      refine s_iconst (v := 0) dX12_behind_22 rfl ?_
      refine s_iconst (v := 2) dX12_behind_23 rfl ?_
      refine s_callSi (As := [.int l3, .int 0, .int 2]) (rest := []) (cX12_in_ok g l3 0 2 h4) sl_X12_100 rfl (Nat.le_of_ble_eq_true rfl) (Nat.le_of_ble_eq_true rfl) dX12_behind_24 rfl (fun x7 h6 => ?_)
      refine s_if_ne (tgt := 33) dX12_behind_27 (by decide) ?_ ?_
      ·
        refine s_bipush (v := (-2)) dX12_behind_30 rfl ?_
        exact s_iret rfl dX12_behind_32
      ·
        refine s_aload_n 0 dX12_behind_33 rfl rfl ?_
        refine s_callVi (s0 := 0) (As := []) (rest := []) (cX12_isForever_ok g h6) vl_X12_377 rfl (Nat.le_of_ble_eq_true rfl) (Nat.le_of_ble_eq_true rfl) dX12_behind_34 rfl (fun x9 h8 => ?_)
        refine s_pop dX12_behind_37 rfl ?_
        refine s_aload_n 0 dX12_behind_38 rfl rfl ?_
        refine s_callVv (s0 := 0) (As := []) (rest := []) (cX12_openFirst_ok g h8) vl_X12_343 rfl (Nat.le_of_ble_eq_true rfl) (Nat.le_of_ble_eq_true rfl) dX12_behind_39 rfl (fun h10 => ?_)
        refine s_aload_n 0 dX12_behind_42 rfl rfl ?_
        refine s_iload_n 2 dX12_behind_43 rfl rfl ?_
        refine s_callVi (s0 := 0) (As := [.int l2]) (rest := []) (cX12_isKept_ok g l2 h10) vl_X12_352 rfl (Nat.le_of_ble_eq_true rfl) (Nat.le_of_ble_eq_true rfl) dX12_behind_44 rfl (fun x12 h11 => ?_)
        refine s_istore (ls' := [(4, .int x12), (0, rv g 10 0), (1, .int l1), (2, .int l2), (3, .int l3)]) dX12_behind_47 (by decide) rfl ?_
        refine s_iload_n 4 dX12_behind_49 rfl rfl ?_
        refine s_if_ne (tgt := 64) dX12_behind_50 (by decide) ?_ ?_
        ·
          refine s_iload 0 dX12_behind_53 rfl ?_
          refine s_if_eq (tgt := 62) dX12_behind_55 (by decide) ?_ ?_
          ·
            refine s_iconst (v := 0) dX12_behind_62 rfl ?_
            exact s_iret rfl dX12_behind_63
          ·
            refine s_iconst (v := 1) dX12_behind_58 rfl ?_
            refine s_goto (tgt := 63) dX12_behind_59 (by decide) ?_
            exact s_iret rfl dX12_behind_63
        ·
          refine s_iload 0 dX12_behind_64 rfl ?_
          refine s_if_ne (tgt := 72) dX12_behind_66 (by decide) ?_ ?_
          ·
            refine s_bipush (v := (-2)) dX12_behind_69 rfl ?_
            exact s_iret rfl dX12_behind_71
          ·
            refine s_aload_n 1 dX12_behind_72 rfl rfl ?_
            refine s_getr (s0 := 0) dX12_behind_73 fl_X12_63 ?_
            refine s_aload_n 1 dX12_behind_76 rfl rfl ?_
            refine s_getr (s0 := 0) dX12_behind_77 fl_X12_60 ?_
            refine s_aload_n 1 dX12_behind_80 rfl rfl ?_
            refine s_iload_n 3 dX12_behind_81 rfl rfl ?_
            refine s_callVi (s0 := 0) (As := [.int l2]) (rest := [rv g 59 0, rv g 60 0]) (cX12_behindRun_ok g l2 h11) vl_X12_355 rfl (Nat.le_of_ble_eq_true rfl) (Nat.le_of_ble_eq_true rfl) dX12_behind_82 rfl (fun x14 h13 => ?_)
            refine s_iald (s0 := 0) ka_59 dX12_behind_85 ?_
            refine s_iconst (v := 1) dX12_behind_86 rfl ?_
            refine s_isub dX12_behind_87 ?_
            refine s_iald (s0 := 0) ka_60 dX12_behind_88 ?_
            refine s_leti (fun x15 => ?_)
            refine s_istore (ls' := [(5, .int x15), (4, .int x12), (0, rv g 10 0), (1, .int l1), (2, .int l2), (3, .int l3)]) dX12_behind_89 (by decide) rfl ?_
            refine s_iload_n 5 dX12_behind_91 rfl rfl ?_
            refine s_iconst (v := 2) dX12_behind_92 rfl ?_
            refine s_icmp_ne (tgt := 101) dX12_behind_93 (by decide) ?_ ?_
            ·
              refine s_iload 0 dX12_behind_96 rfl ?_
              refine s_goto (tgt := 112) dX12_behind_98 (by decide) ?_
              exact s_iret rfl dX12_behind_112
            ·
              refine s_iload 0 dX12_behind_101 rfl ?_
              refine s_iconst (v := (-1)) dX12_behind_103 rfl ?_
              refine s_icmp_ne (tgt := 111) dX12_behind_104 (by decide) ?_ ?_
              ·
                refine s_iconst (v := 1) dX12_behind_107 rfl ?_
                refine s_goto (tgt := 112) dX12_behind_108 (by decide) ?_
                exact s_iret rfl dX12_behind_112
              ·
                refine s_iconst (v := 0) dX12_behind_111 rfl ?_
                exact s_iret rfl dX12_behind_112
def fX12_waysFrom_l4 (l1 : Int32) (K : Int32 → Hp → Option (Int32 × Hp)) (rec : Int32 → Int32 → Hp → Option (Int32 × Hp)) (l2 l3 : Int32) (h : Hp) : Option (Int32 × Hp) :=
  if (rd h 10 0 22) ≤ l3 then (K l2 h)
  else (ck (ib l3 5) (
  bnd (fX12_way l1 (ra h 53 0 l3) h) fun x2 h1 =>
  lt (l2 + x2) fun x3 =>
  lt (l3 + 1) fun x4 =>
  rec x3 x4 h1))
def fX12_waysFrom (l1 : Int32) (h : Hp) : Option (Int32 × Hp) :=
  itr2 (fX12_waysFrom_l4 l1 (fun y5 h6 => some (y5, h6))) FU 0 0 h
set_option maxHeartbeats 4000000 in
set_option maxRecDepth 100000 in
theorem sX12_waysFrom_l4 (g : GE) (l1 : Int32) (K : Int32 → Hp → Option (Int32 × Hp)) (hK : ∀ (y2 : Int32) (h : Hp), Sim cvi 1 g mX12_waysFrom 3 32 [(2, .int y2)] [] h (K y2 h)) : ∀ (n : Nat) (l2 l3 : Int32) (h : Hp), Sim cvi 1 g mX12_waysFrom 3 4 [(0, rv g 10 0), (1, .int l1), (2, .int l2), (3, .int l3)] [] h (itr2 (fX12_waysFrom_l4 l1 K) n l2 l3 h) := by
  refine s_itr2 (fun l2 l3 h o => Sim cvi 1 g mX12_waysFrom 3 4 [(0, rv g 10 0), (1, .int l1), (2, .int l2), (3, .int l3)] [] h o) (fun _ _ _ => s_none) ?_
  intro rec hrec l2 l3 h
  unfold fX12_waysFrom_l4
  refine s_iload_n 3 dX12_waysFrom_4 rfl rfl ?_
  refine s_aload_n 0 dX12_waysFrom_5 rfl rfl ?_
  refine s_geti (s0 := 0) dX12_waysFrom_6 fl_X12_232 ?_
  refine s_icmp_ge (tgt := 32) dX12_waysFrom_9 (by decide) ?_ ?_
  ·
    refine s_sub [2] rfl ?_
    exact hK l2 h
  ·
    refine s_iload_n 2 dX12_waysFrom_12 rfl rfl ?_
    refine s_aload_n 0 dX12_waysFrom_13 rfl rfl ?_
    refine s_iload_n 1 dX12_waysFrom_14 rfl rfl ?_
    refine s_aload_n 0 dX12_waysFrom_15 rfl rfl ?_
    refine s_getr (s0 := 0) dX12_waysFrom_16 fl_X12_41 ?_
    refine s_iload_n 3 dX12_waysFrom_19 rfl rfl ?_
    refine s_iald (s0 := 0) ka_53 dX12_waysFrom_20 ?_
    refine s_callVi (s0 := 0) (As := [.int l1, .int (ra h 53 0 l3)]) (rest := [.int l2]) (cX12_way_ok g l1 (ra h 53 0 l3) h) vl_X12_283 rfl (Nat.le_of_ble_eq_true rfl) (Nat.le_of_ble_eq_true rfl) dX12_waysFrom_21 rfl (fun x2 h1 => ?_)
    refine s_iadd dX12_waysFrom_24 ?_
    refine s_leti (fun x3 => ?_)
    refine s_istore_n (ls' := [(2, .int x3), (0, rv g 10 0), (1, .int l1), (3, .int l3)]) dX12_waysFrom_25 rfl (by decide) rfl ?_
    refine s_iincl 3 (w := 1) (fun x4 => [(3, .int x4), (2, .int x3), (0, rv g 10 0), (1, .int l1)]) dX12_waysFrom_26 rfl rfl (by decide) (fun _ => rfl) (fun x4 => ?_)
    refine s_goto (tgt := 4) dX12_waysFrom_29 (by decide) ?_
    refine s_sub [2, 3, 1, 0] rfl ?_
    exact hrec x3 x4 h1
set_option maxHeartbeats 4000000 in
set_option maxRecDepth 100000 in
theorem cX12_waysFrom_ok (g : GE) (l1 : Int32) (h : Hp) : Con cvi 1 g mX12_waysFrom 3 [rv g 10 0, .int l1] h (fX12_waysFrom l1 h) := by
  refine Con.of (by decide +kernel) (Nat.le_of_ble_eq_true rfl) ?_
  show Sim cvi 1 g mX12_waysFrom 3 0 [(0, rv g 10 0), (1, .int l1)] [] h _
  unfold fX12_waysFrom
  refine s_iconst (v := 0) dX12_waysFrom_0 rfl ?_
  refine s_istore_n (ls' := [(2, .int 0), (0, rv g 10 0), (1, .int l1)]) dX12_waysFrom_1 rfl (by decide) rfl ?_
  refine s_iconst (v := 0) dX12_waysFrom_2 rfl ?_
  refine s_istore_n (ls' := [(3, .int 0), (2, .int 0), (0, rv g 10 0), (1, .int l1)]) dX12_waysFrom_3 rfl (by decide) rfl ?_
  refine s_sub (ls' := [(0, rv g 10 0), (1, .int l1), (2, .int 0), (3, .int 0)]) [2, 3, 1, 0] rfl ?_
  refine sX12_waysFrom_l4 g l1 _ (fun y5 h6 => ?_) FU 0 0 h
  refine s_iload_n 0 dX12_waysFrom_32 rfl rfl ?_
  exact s_iret rfl dX12_waysFrom_33
def fX12_centre_l4 (K : Int32 → Hp → Option (Int32 × Hp)) (rec : Int32 → Int32 → Hp → Option (Int32 × Hp)) (l1 l2 : Int32) (h : Hp) : Option (Int32 × Hp) :=
  if (10 : Int32) ≤ l2 then (K l1 h)
  else (bnd (fX12_waysFrom l2 h) fun x2 h1 =>
  bnd (fX12_waysFrom l1 h1) fun x4 h3 =>
  jn (κ := Int32 → Hp → Option (Int32 × Hp)) (fun z0_4 h6 => lt (l2 + 1) fun x7 =>
  rec z0_4 x7 h6) fun k28_4 =>
  if x4 ≤ x2 then (k28_4 l1 h3)
  else (k28_4 l2 h3))
def fX12_centre (h : Hp) : Option (Int32 × Hp) :=
  itr2 (fX12_centre_l4 (fun y8 h9 => some (y8, h9))) FU 0 1 h
set_option maxHeartbeats 4000000 in
set_option maxRecDepth 100000 in
theorem sX12_centre_l4 (g : GE) (K : Int32 → Hp → Option (Int32 × Hp)) (hK : ∀ (y1 : Int32) (h : Hp), Sim cvi 1 g mX12_centre 4 35 [(1, .int y1)] [] h (K y1 h)) : ∀ (n : Nat) (l1 l2 : Int32) (h : Hp), Sim cvi 1 g mX12_centre 4 4 [(0, rv g 10 0), (1, .int l1), (2, .int l2)] [] h (itr2 (fX12_centre_l4 K) n l1 l2 h) := by
  refine s_itr2 (fun l1 l2 h o => Sim cvi 1 g mX12_centre 4 4 [(0, rv g 10 0), (1, .int l1), (2, .int l2)] [] h o) (fun _ _ _ => s_none) ?_
  intro rec hrec l1 l2 h
  unfold fX12_centre_l4
  refine s_iload_n 2 dX12_centre_4 rfl rfl ?_
  refine s_bipush (v := 10) dX12_centre_5 rfl ?_
  refine s_icmp_ge (tgt := 35) dX12_centre_7 (by decide) ?_ ?_
  ·
    refine s_sub [1] rfl ?_
    exact hK l1 h
  ·
    refine s_aload_n 0 dX12_centre_10 rfl rfl ?_
    refine s_iload_n 2 dX12_centre_11 rfl rfl ?_
    refine s_callVi (s0 := 0) (As := [.int l2]) (rest := []) (cX12_waysFrom_ok g l2 h) vl_X12_509 rfl (Nat.le_of_ble_eq_true rfl) (Nat.le_of_ble_eq_true rfl) dX12_centre_12 rfl (fun x2 h1 => ?_)
    refine s_aload_n 0 dX12_centre_15 rfl rfl ?_
    refine s_iload_n 1 dX12_centre_16 rfl rfl ?_
    refine s_callVi (s0 := 0) (As := [.int l1]) (rest := [.int x2]) (cX12_waysFrom_ok g l1 h1) vl_X12_509 rfl (Nat.le_of_ble_eq_true rfl) (Nat.le_of_ble_eq_true rfl) dX12_centre_17 rfl (fun x4 h3 => ?_)
    refine s_jn (fun (k28_4 : Int32 → Hp → Option (Int32 × Hp)) => ∀ (z0_4 : Int32) (h6 : Hp), Sim cvi 1 g mX12_centre 4 28 [(0, rv g 10 0), (2, .int l2)] [.int z0_4] h6 (k28_4 z0_4 h6)) (fun z0_4 h6 => ?_) (fun k28_4 Hk28_4 => ?_)
    ·
      refine s_istore_n (ls' := [(1, .int z0_4), (0, rv g 10 0), (2, .int l2)]) dX12_centre_28 rfl (by decide) rfl ?_
      refine s_iincl 2 (w := 1) (fun x7 => [(2, .int x7), (1, .int z0_4), (0, rv g 10 0)]) dX12_centre_29 rfl rfl (by decide) (fun _ => rfl) (fun x7 => ?_)
      refine s_goto (tgt := 4) dX12_centre_32 (by decide) ?_
      refine s_sub [2, 1, 0] rfl ?_
      exact hrec z0_4 x7 h6
    refine s_icmp_ge (tgt := 27) dX12_centre_20 (by decide) ?_ ?_
    ·
      refine s_iload_n 1 dX12_centre_27 rfl rfl ?_
      refine s_sub [0, 2] rfl ?_
      exact Hk28_4 l1 h3
    ·
      refine s_iload_n 2 dX12_centre_23 rfl rfl ?_
      refine s_goto (tgt := 28) dX12_centre_24 (by decide) ?_
      refine s_sub [0, 2] rfl ?_
      exact Hk28_4 l2 h3
set_option maxHeartbeats 4000000 in
set_option maxRecDepth 100000 in
theorem cX12_centre_ok (g : GE) (h : Hp) : Con cvi 1 g mX12_centre 4 [rv g 10 0] h (fX12_centre h) := by
  refine Con.of (by decide +kernel) (Nat.le_of_ble_eq_true rfl) ?_
  show Sim cvi 1 g mX12_centre 4 0 [(0, rv g 10 0)] [] h _
  unfold fX12_centre
  refine s_iconst (v := 0) dX12_centre_0 rfl ?_
  refine s_istore_n (ls' := [(1, .int 0), (0, rv g 10 0)]) dX12_centre_1 rfl (by decide) rfl ?_
  refine s_iconst (v := 1) dX12_centre_2 rfl ?_
  refine s_istore_n (ls' := [(2, .int 1), (1, .int 0), (0, rv g 10 0)]) dX12_centre_3 rfl (by decide) rfl ?_
  refine s_sub (ls' := [(0, rv g 10 0), (1, .int 0), (2, .int 1)]) [2, 1, 0] rfl ?_
  refine sX12_centre_l4 g _ (fun y8 h9 => ?_) FU 0 1 h
  refine s_iload_n 0 dX12_centre_35 rfl rfl ?_
  exact s_iret rfl dX12_centre_36
def fX12_common_l4 (K : Int32 → Hp → Option (Int32 × Hp)) (rec : Int32 → Int32 → Hp → Option (Int32 × Hp)) (l2 l3 : Int32) (h : Hp) : Option (Int32 × Hp) :=
  if l3 = 0 then (K l2 h)
  else (ck (!decide (l3 = 0)) (
  lt (irm l2 l3) fun x1 =>
  rec l3 x1 h))
def fX12_common (l0 : Int32) (l1 : Int32) (h : Hp) : Option (Int32 × Hp) :=
  itr2 (fX12_common_l4 (fun y2 h3 => some (y2, h3))) FU l0 l1 h
set_option maxHeartbeats 4000000 in
set_option maxRecDepth 100000 in
theorem sX12_common_l4 (g : GE) (K : Int32 → Hp → Option (Int32 × Hp)) (hK : ∀ (y2 : Int32) (h : Hp), Sim cvi 1 g mX12_common 2 21 [(2, .int y2)] [] h (K y2 h)) : ∀ (n : Nat) (l2 l3 : Int32) (h : Hp), Sim cvi 1 g mX12_common 2 4 [(2, .int l2), (3, .int l3)] [] h (itr2 (fX12_common_l4 K) n l2 l3 h) := by
  refine s_itr2 (fun l2 l3 h o => Sim cvi 1 g mX12_common 2 4 [(2, .int l2), (3, .int l3)] [] h o) (fun _ _ _ => s_none) ?_
  intro rec hrec l2 l3 h
  unfold fX12_common_l4
  refine s_iload_n 1 dX12_common_4 rfl rfl ?_
  refine s_if_eq (tgt := 21) dX12_common_5 (by decide) ?_ ?_
  ·
    refine s_sub [0] rfl ?_
    exact hK l2 h
  ·
    refine s_iload_n 0 dX12_common_8 rfl rfl ?_
    refine s_iload_n 1 dX12_common_9 rfl rfl ?_
    refine s_irem dX12_common_10 ?_
    refine s_leti (fun x1 => ?_)
    refine s_istore (ls' := [(4, .int x1), (2, .int l2), (3, .int l3)]) dX12_common_11 (by decide) rfl ?_
    refine s_iload_n 2 dX12_common_13 rfl rfl ?_
    refine s_istore_n (ls' := [(2, .int l3), (4, .int x1), (3, .int l3)]) dX12_common_14 rfl (by decide) rfl ?_
    refine s_iload 1 dX12_common_15 rfl ?_
    refine s_istore_n (ls' := [(3, .int x1), (2, .int l3), (4, .int x1)]) dX12_common_17 rfl (by decide) rfl ?_
    refine s_goto (tgt := 4) dX12_common_18 (by decide) ?_
    refine s_sub [1, 0] rfl ?_
    exact hrec l3 x1 h
set_option maxHeartbeats 4000000 in
set_option maxRecDepth 100000 in
theorem cX12_common_ok (g : GE) (l0 : Int32) (l1 : Int32) (h : Hp) : Con cvi 1 g mX12_common 2 [.int l0, .int l1] h (fX12_common l0 l1 h) := by
  refine Con.of (by decide +kernel) (Nat.le_of_ble_eq_true rfl) ?_
  show Sim cvi 1 g mX12_common 2 0 [(0, .int l0), (1, .int l1)] [] h _
  unfold fX12_common
  refine s_iload_n 0 dX12_common_0 rfl rfl ?_
  refine s_istore_n (ls' := [(2, .int l0), (0, .int l0), (1, .int l1)]) dX12_common_1 rfl (by decide) rfl ?_
  refine s_iload_n 2 dX12_common_2 rfl rfl ?_
  refine s_istore_n (ls' := [(3, .int l1), (2, .int l0), (0, .int l0), (1, .int l1)]) dX12_common_3 rfl (by decide) rfl ?_
  refine s_sub (ls' := [(2, .int l0), (3, .int l1)]) [1, 0] rfl ?_
  refine sX12_common_l4 g _ (fun y2 h3 => ?_) FU l0 l1 h
  refine s_iload_n 0 dX12_common_21 rfl rfl ?_
  exact s_iret rfl dX12_common_22
