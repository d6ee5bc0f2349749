def fX12_ofLoad (l1 : Int32) (h : Hp) : Option (Int32 × Hp) :=
  if l1 = 2 then (if (rd h 10 0 22) = 0 then (some ((-1), h))
  else (bnd (fX12_fallingOf 0 h) fun x3 h2 =>
  ck (ib x3 5) (
  some (ra h2 55 0 x3, h2))))
  else if l1 = 3 then (bnd (fX12_span h) fun x6 h5 =>
  some (x6, h5))
  else if l1 = 4 then (bnd (fX12_couples 0 h) fun x9 h8 =>
  some (x9, h8))
  else if l1 = 5 then (bnd (fX12_aloneOf h) fun x12 h11 =>
  some (x12, h11))
  else if l1 = 6 then (bnd (fX12_couples 1 h) fun x15 h14 =>
  some (x15, h14))
  else (bnd (fX12_late h) fun x17 h16 =>
  some (x17, h16))
set_option maxHeartbeats 4000000 in
set_option maxRecDepth 100000 in
theorem cX12_ofLoad_ok (g : GE) (l1 : Int32) (h : Hp) : Con cvi 1 g mX12_ofLoad 8 [rv g 10 0, .int l1] h (fX12_ofLoad l1 h) := by
  refine Con.of (by decide +kernel) (Nat.le_of_ble_eq_true rfl) ?_
  show Sim cvi 1 g mX12_ofLoad 8 0 [(0, rv g 10 0), (1, .int l1)] [] h _
  unfold fX12_ofLoad
  refine s_iload_n 1 dX12_ofLoad_0 rfl rfl ?_
  refine s_tab 2 (tgt := 36) dX12_ofLoad_1 (by decide) (by decide) rfl (by decide) ?_ (fun e1 => ?_)
  ·
    refine s_aload_n 0 dX12_ofLoad_36 rfl rfl ?_
    refine s_geti (s0 := 0) dX12_ofLoad_37 fl_X12_232 ?_
    refine s_if_ne (tgt := 47) dX12_ofLoad_40 (by decide) ?_ ?_
    ·
      refine s_iconst (v := (-1)) dX12_ofLoad_43 rfl ?_
      refine s_goto (tgt := 57) dX12_ofLoad_44 (by decide) ?_
      exact s_iret rfl dX12_ofLoad_57
    ·
      refine s_aload_n 0 dX12_ofLoad_47 rfl rfl ?_
      refine s_getr (s0 := 0) dX12_ofLoad_48 fl_X12_47 ?_
      refine s_aload_n 0 dX12_ofLoad_51 rfl rfl ?_
      refine s_iconst (v := 0) dX12_ofLoad_52 rfl ?_
      refine s_callVi (s0 := 0) (As := [.int 0]) (rest := [rv g 55 0]) (cX12_fallingOf_ok g 0 h) vl_X12_512 rfl (Nat.le_of_ble_eq_true rfl) (Nat.le_of_ble_eq_true rfl) dX12_ofLoad_53 rfl (fun x3 h2 => ?_)
      refine s_iald (s0 := 0) ka_55 dX12_ofLoad_56 ?_
      exact s_iret rfl dX12_ofLoad_57
  refine s_tab 3 (tgt := 58) dX12_ofLoad_1 (by decide) (by decide) rfl (by decide) ?_ (fun e4 => ?_)
  ·
    refine s_aload_n 0 dX12_ofLoad_58 rfl rfl ?_
    refine s_callVi (s0 := 0) (As := []) (rest := []) (cX12_span_ok g h) vl_X12_515 rfl (Nat.le_of_ble_eq_true rfl) (Nat.le_of_ble_eq_true rfl) dX12_ofLoad_59 rfl (fun x6 h5 => ?_)
    exact s_iret rfl dX12_ofLoad_62
  refine s_tab 4 (tgt := 63) dX12_ofLoad_1 (by decide) (by decide) rfl (by decide) ?_ (fun e7 => ?_)
  ·
    refine s_aload_n 0 dX12_ofLoad_63 rfl rfl ?_
    refine s_iconst (v := 0) dX12_ofLoad_64 rfl ?_
    refine s_callVi (s0 := 0) (As := [.int 0]) (rest := []) (cX12_couples_ok g 0 h) vl_X12_518 rfl (Nat.le_of_ble_eq_true rfl) (Nat.le_of_ble_eq_true rfl) dX12_ofLoad_65 rfl (fun x9 h8 => ?_)
    exact s_iret rfl dX12_ofLoad_68
  refine s_tab 5 (tgt := 69) dX12_ofLoad_1 (by decide) (by decide) rfl (by decide) ?_ (fun e10 => ?_)
  ·
    refine s_aload_n 0 dX12_ofLoad_69 rfl rfl ?_
    refine s_callVi (s0 := 0) (As := []) (rest := []) (cX12_aloneOf_ok g h) vl_X12_521 rfl (Nat.le_of_ble_eq_true rfl) (Nat.le_of_ble_eq_true rfl) dX12_ofLoad_70 rfl (fun x12 h11 => ?_)
    exact s_iret rfl dX12_ofLoad_73
  refine s_tab 6 (tgt := 74) dX12_ofLoad_1 (by decide) (by decide) rfl (by decide) ?_ (fun e13 => ?_)
  ·
    refine s_aload_n 0 dX12_ofLoad_74 rfl rfl ?_
    refine s_iconst (v := 1) dX12_ofLoad_75 rfl ?_
    refine s_callVi (s0 := 0) (As := [.int 1]) (rest := []) (cX12_couples_ok g 1 h) vl_X12_518 rfl (Nat.le_of_ble_eq_true rfl) (Nat.le_of_ble_eq_true rfl) dX12_ofLoad_76 rfl (fun x15 h14 => ?_)
    exact s_iret rfl dX12_ofLoad_79
  have e1 := lv_neT e1 (show (2 : Int32).toInt = 2 from rfl)
  have e4 := lv_neT e4 (show (3 : Int32).toInt = 3 from rfl)
  have e7 := lv_neT e7 (show (4 : Int32).toInt = 4 from rfl)
  have e10 := lv_neT e10 (show (5 : Int32).toInt = 5 from rfl)
  have e13 := lv_neT e13 (show (6 : Int32).toInt = 6 from rfl)
  refine s_tabd (tgt := 80) dX12_ofLoad_1 (by omega) (by decide) ?_
  refine s_aload_n 0 dX12_ofLoad_80 rfl rfl ?_
  refine s_callVi (s0 := 0) (As := []) (rest := []) (cX12_late_ok g h) vl_X12_524 rfl (Nat.le_of_ble_eq_true rfl) (Nat.le_of_ble_eq_true rfl) dX12_ofLoad_81 rfl (fun x17 h16 => ?_)
  exact s_iret rfl dX12_ofLoad_84
def fX12_part (l0 : Int32) (l1 : Int32) (l2 : Int32) (h : Hp) : Option (Int32 × Hp) :=
  jn (κ := Int32 → Hp → Option (Int32 × Hp)) (fun z0_0 h2 => bnd (fX12_common l1 l0 h2) fun x4 h3 =>
  ck (!decide (x4 = 0)) (
  some (z0_0 / x4, h3))) fun k9_0 =>
  if l2 = 0 then (k9_0 l0 h)
  else (k9_0 l1 h)
set_option maxHeartbeats 4000000 in
set_option maxRecDepth 100000 in
theorem cX12_part_ok (g : GE) (l0 : Int32) (l1 : Int32) (l2 : Int32) (h : Hp) : Con cvi 1 g mX12_part 3 [.int l0, .int l1, .int l2] h (fX12_part l0 l1 l2 h) := by
  refine Con.of (by decide +kernel) (Nat.le_of_ble_eq_true rfl) ?_
  show Sim cvi 1 g mX12_part 3 0 [(0, .int l0), (1, .int l1), (2, .int l2)] [] h _
  unfold fX12_part
  refine s_iload_n 2 dX12_part_0 rfl rfl ?_
  refine s_jn (fun (k9_0 : Int32 → Hp → Option (Int32 × Hp)) => ∀ (z0_0 : Int32) (h2 : Hp), Sim cvi 1 g mX12_part 3 9 [(0, .int l0), (1, .int l1)] [.int z0_0] h2 (k9_0 z0_0 h2)) (fun z0_0 h2 => ?_) (fun k9_0 Hk9_0 => ?_)
  ·
    refine s_iload_n 1 dX12_part_9 rfl rfl ?_
    refine s_iload_n 0 dX12_part_10 rfl rfl ?_
    refine s_callSi (As := [.int l1, .int l0]) (rest := [.int z0_0]) (cX12_common_ok g l1 l0 h2) sl_X12_434 rfl (Nat.le_of_ble_eq_true rfl) (Nat.le_of_ble_eq_true rfl) dX12_part_11 rfl (fun x4 h3 => ?_)
    refine s_idiv dX12_part_14 ?_
    exact s_iret rfl dX12_part_15
  refine s_if_eq (tgt := 8) dX12_part_1 (by decide) ?_ ?_
  ·
    refine s_iload_n 0 dX12_part_8 rfl rfl ?_
    refine s_sub [0, 1] rfl ?_
    exact Hk9_0 l0 h
  ·
    refine s_iload_n 1 dX12_part_4 rfl rfl ?_
    refine s_goto (tgt := 9) dX12_part_5 (by decide) ?_
    refine s_sub [0, 1] rfl ?_
    exact Hk9_0 l1 h
def fX12_swapTwo_l23 (l1 : Int32) (K : Hp → Option (Int32 × Hp)) (rec : Int32 → Hp → Option (Int32 × Hp)) (l2 : Int32) (h : Hp) : Option (Int32 × Hp) :=
  if (rd h 10 0 22) ≤ l2 then (K h)
  else (bnd (fX12_asTold h) fun _ h4 =>
  bnd (fX12_of ((3 : Int32) + l2) h4) fun x6 h5 =>
  ck (ib l1 5) (lt (wa h5 53 0 l1 x6) fun h7 =>
  bnd (fX12_of ((3 : Int32) + l1) h7) fun x9 h8 =>
  ck (ib l2 5) (lt (wa h8 53 0 l2 x9) fun h10 =>
  bnd (fX12_isForever h10) fun x12 h11 =>
  if x12 = 0 then (lt (l2 + 1) fun x13 =>
  rec x13 h11)
  else (some (((10 : Int32) * l1) + l2, h11)))))
def fX12_swapTwo_l11 (K : Int32 → Int32 → Hp → Option (Int32 × Hp)) (rec : Int32 → Hp → Option (Int32 × Hp)) (l1 : Int32) (h : Hp) : Option (Int32 × Hp) :=
  if (rd h 10 0 22) ≤ l1 then (some ((-1), h))
  else (lt (l1 + (1 : Int32)) fun x3 =>
  itr1 (fX12_swapTwo_l23 l1 (fun h14 => lt (l1 + 1) fun x15 =>
  rec x15 h14)) FU x3 h)
def fX12_swapTwo (h : Hp) : Option (Int32 × Hp) :=
  bnd (fX12_isForever h) fun x2 h1 =>
  if x2 = 0 then (itr1 (fX12_swapTwo_l11 (fun y16 y17 h18 => some (((10 : Int32) * y16) + y17, h18))) FU 0 h1)
  else (some ((-1), h1))
set_option maxHeartbeats 4000000 in
set_option maxRecDepth 100000 in
theorem sX12_swapTwo_l23 (g : GE) (l1 : Int32) (K : Hp → Option (Int32 × Hp)) (hK : ∀ (h : Hp), Sim cvi 1 g mX12_swapTwo 7 81 [(0, rv g 10 0), (1, .int l1)] [] h (K  h)) : ∀ (n : Nat) (l2 : Int32) (h : Hp), Sim cvi 1 g mX12_swapTwo 7 23 [(0, rv g 10 0), (1, .int l1), (2, .int l2)] [] h (itr1 (fX12_swapTwo_l23 l1 K) n l2 h) := by
  refine s_itr1 (fun l2 h o => Sim cvi 1 g mX12_swapTwo 7 23 [(0, rv g 10 0), (1, .int l1), (2, .int l2)] [] h o) (fun _ _ => s_none) ?_
  intro rec hrec l2 h
  unfold fX12_swapTwo_l23
  refine s_iload_n 2 dX12_swapTwo_23 rfl rfl ?_
  refine s_aload_n 0 dX12_swapTwo_24 rfl rfl ?_
  refine s_geti (s0 := 0) dX12_swapTwo_25 fl_X12_232 ?_
  refine s_icmp_ge (tgt := 81) dX12_swapTwo_28 (by decide) ?_ ?_
  ·
    refine s_sub [0, 1] rfl ?_
    exact hK h
  ·
    refine s_aload_n 0 dX12_swapTwo_31 rfl rfl ?_
    refine s_callVv (s0 := 0) (As := []) (rest := []) (cX12_asTold_ok g h) vl_X12_238 rfl (Nat.le_of_ble_eq_true rfl) (Nat.le_of_ble_eq_true rfl) dX12_swapTwo_32 rfl (fun h4 => ?_)
    refine s_aload_n 0 dX12_swapTwo_35 rfl rfl ?_
    refine s_getr (s0 := 0) dX12_swapTwo_36 fl_X12_41 ?_
    refine s_iload_n 1 dX12_swapTwo_39 rfl rfl ?_
    refine s_aload_n 0 dX12_swapTwo_40 rfl rfl ?_
    refine s_iconst (v := 3) dX12_swapTwo_41 rfl ?_
    refine s_iload_n 2 dX12_swapTwo_42 rfl rfl ?_
    refine s_iadd dX12_swapTwo_43 ?_
    refine s_callVi (s0 := 0) (As := [.int ((3 : Int32) + l2)]) (rest := [.int l1, rv g 53 0]) (cX12_of_ok g ((3 : Int32) + l2) h4) vl_X12_222 rfl (Nat.le_of_ble_eq_true rfl) (Nat.le_of_ble_eq_true rfl) dX12_swapTwo_44 rfl (fun x6 h5 => ?_)
    refine s_iast (s0 := 0) ka_53 dX12_swapTwo_47 (fun h7 => ?_)
    refine s_aload_n 0 dX12_swapTwo_48 rfl rfl ?_
    refine s_getr (s0 := 0) dX12_swapTwo_49 fl_X12_41 ?_
    refine s_iload_n 2 dX12_swapTwo_52 rfl rfl ?_
    refine s_aload_n 0 dX12_swapTwo_53 rfl rfl ?_
    refine s_iconst (v := 3) dX12_swapTwo_54 rfl ?_
    refine s_iload_n 1 dX12_swapTwo_55 rfl rfl ?_
    refine s_iadd dX12_swapTwo_56 ?_
    refine s_callVi (s0 := 0) (As := [.int ((3 : Int32) + l1)]) (rest := [.int l2, rv g 53 0]) (cX12_of_ok g ((3 : Int32) + l1) h7) vl_X12_222 rfl (Nat.le_of_ble_eq_true rfl) (Nat.le_of_ble_eq_true rfl) dX12_swapTwo_57 rfl (fun x9 h8 => ?_)
    refine s_iast (s0 := 0) ka_53 dX12_swapTwo_60 (fun h10 => ?_)
    refine s_aload_n 0 dX12_swapTwo_61 rfl rfl ?_
    refine s_callVi (s0 := 0) (As := []) (rest := []) (cX12_isForever_ok g h10) vl_X12_377 rfl (Nat.le_of_ble_eq_true rfl) (Nat.le_of_ble_eq_true rfl) dX12_swapTwo_62 rfl (fun x12 h11 => ?_)
    refine s_if_eq (tgt := 75) dX12_swapTwo_65 (by decide) ?_ ?_
    ·
      refine s_iincl 2 (w := 1) (fun x13 => [(2, .int x13), (0, rv g 10 0), (1, .int l1)]) dX12_swapTwo_75 rfl rfl (by decide) (fun _ => rfl) (fun x13 => ?_)
      refine s_goto (tgt := 23) dX12_swapTwo_78 (by decide) ?_
      refine s_sub [1, 2, 0] rfl ?_
      exact hrec x13 h11
    ·
      refine s_bipush (v := 10) dX12_swapTwo_68 rfl ?_
      refine s_iload_n 1 dX12_swapTwo_70 rfl rfl ?_
      refine s_imul dX12_swapTwo_71 ?_
      refine s_iload_n 2 dX12_swapTwo_72 rfl rfl ?_
      refine s_iadd dX12_swapTwo_73 ?_
      exact s_iret rfl dX12_swapTwo_74
set_option maxHeartbeats 4000000 in
set_option maxRecDepth 100000 in
theorem sX12_swapTwo_l11 (g : GE) (K : Int32 → Int32 → Hp → Option (Int32 × Hp)) (hK : ∀ (y1 y2 : Int32) (h : Hp), Sim cvi 1 g mX12_swapTwo 7 68 [(1, .int y1), (2, .int y2)] [] h (K y1 y2 h)) : ∀ (n : Nat) (l1 : Int32) (h : Hp), Sim cvi 1 g mX12_swapTwo 7 11 [(0, rv g 10 0), (1, .int l1)] [] h (itr1 (fX12_swapTwo_l11 K) n l1 h) := by
  refine s_itr1 (fun l1 h o => Sim cvi 1 g mX12_swapTwo 7 11 [(0, rv g 10 0), (1, .int l1)] [] h o) (fun _ _ => s_none) ?_
  intro rec hrec l1 h
  unfold fX12_swapTwo_l11
  refine s_iload_n 1 dX12_swapTwo_11 rfl rfl ?_
  refine s_aload_n 0 dX12_swapTwo_12 rfl rfl ?_
  refine s_geti (s0 := 0) dX12_swapTwo_13 fl_X12_232 ?_
  refine s_icmp_ge (tgt := 87) dX12_swapTwo_16 (by decide) ?_ ?_
  ·
    refine s_iconst (v := (-1)) dX12_swapTwo_87 rfl ?_
    exact s_iret rfl dX12_swapTwo_88
  ·
    refine s_iload_n 1 dX12_swapTwo_19 rfl rfl ?_
    refine s_iconst (v := 1) dX12_swapTwo_20 rfl ?_
    refine s_iadd dX12_swapTwo_21 ?_
    refine s_leti (fun x3 => ?_)
    refine s_istore_n (ls' := [(2, .int x3), (0, rv g 10 0), (1, .int l1)]) dX12_swapTwo_22 rfl (by decide) rfl ?_
    refine s_sub (ls' := [(0, rv g 10 0), (1, .int l1), (2, .int x3)]) [1, 2, 0] rfl ?_
    refine sX12_swapTwo_l23 g l1 _ (fun h14 => ?_) FU x3 h
    refine s_iincl 1 (w := 1) (fun x15 => [(1, .int x15), (0, rv g 10 0)]) dX12_swapTwo_81 rfl rfl (by decide) (fun _ => rfl) (fun x15 => ?_)
    refine s_goto (tgt := 11) dX12_swapTwo_84 (by decide) ?_
    refine s_sub [1, 0] rfl ?_
    exact hrec x15 h14
set_option maxHeartbeats 4000000 in
set_option maxRecDepth 100000 in
theorem cX12_swapTwo_ok (g : GE) (h : Hp) : Con cvi 1 g mX12_swapTwo 7 [rv g 10 0] h (fX12_swapTwo h) := by
  refine Con.of (by decide +kernel) (Nat.le_of_ble_eq_true rfl) ?_
  show Sim cvi 1 g mX12_swapTwo 7 0 [(0, rv g 10 0)] [] h _
  unfold fX12_swapTwo
  refine s_aload_n 0 dX12_swapTwo_0 rfl rfl ?_
  refine s_callVi (s0 := 0) (As := []) (rest := []) (cX12_isForever_ok g h) vl_X12_377 rfl (Nat.le_of_ble_eq_true rfl) (Nat.le_of_ble_eq_true rfl) dX12_swapTwo_1 rfl (fun x2 h1 => ?_)
  refine s_if_eq (tgt := 9) dX12_swapTwo_4 (by decide) ?_ ?_
  ·
    refine s_iconst (v := 0) dX12_swapTwo_9 rfl ?_
    refine s_istore_n (ls' := [(1, .int 0), (0, rv g 10 0)]) dX12_swapTwo_10 rfl (by decide) rfl ?_
    refine s_sub (ls' := [(0, rv g 10 0), (1, .int 0)]) [1, 0] rfl ?_
    refine sX12_swapTwo_l11 g _ (fun y16 y17 h18 => ?_) FU 0 h1
    refine s_bipush (v := 10) dX12_swapTwo_68 rfl ?_
    refine s_iload_n 0 dX12_swapTwo_70 rfl rfl ?_
    refine s_imul dX12_swapTwo_71 ?_
    refine s_iload_n 1 dX12_swapTwo_72 rfl rfl ?_
    refine s_iadd dX12_swapTwo_73 ?_
    exact s_iret rfl dX12_swapTwo_74
  ·
    refine s_iconst (v := (-1)) dX12_swapTwo_7 rfl ?_
    exact s_iret rfl dX12_swapTwo_8
def fX12_load (l1 : Int32) (l2 : Int32) (h : Hp) : Option (Int32 × Hp) :=
  lt (wr h 10 0 0 0) fun h1 =>
  bnd (fX12_hand l1 h1) fun x3 h2 =>
  if x3 = 0 then (some ((-2), h2))
  else (if l2 < 20 then (bnd (fX12_in l2 2 7 h2) fun x5 h4 =>
  if x5 = 0 then (if l2 = 0 then (bnd (fX12_loadOf h4) fun x8 h7 =>
  jn (κ := Int32 → Hp → Option (Int32 × Hp)) (fun z0_8 h10 => bnd (fX12_part x8 60 z0_8 h10) fun x12 h11 =>
  some (x12, h11)) fun k144_8 =>
  if l2 = 1 then (k144_8 1 h7)
  else (k144_8 0 h7))
  else if l2 = 1 then (bnd (fX12_loadOf h4) fun x15 h14 =>
  jn (κ := Int32 → Hp → Option (Int32 × Hp)) (fun z0_15 h17 => bnd (fX12_part x15 60 z0_15 h17) fun x19 h18 =>
  some (x19, h18)) fun k144_15 =>
  if l2 = 1 then (k144_15 1 h14)
  else (k144_15 0 h14))
  else if l2 = 2 then (some ((-2), h4))
  else if l2 = 3 then (some ((-2), h4))
  else if l2 = 4 then (some ((-2), h4))
  else if l2 = 5 then (some ((-2), h4))
  else if l2 = 6 then (some ((-2), h4))
  else if l2 = 7 then (some ((-2), h4))
  else if l2 = 8 then (jn (κ := Hp → Option (Int32 × Hp)) (fun h28 => some (1, h28)) fun k164_26 =>
  if (rd h4 10 0 22) = 0 then (k164_26 h4)
  else (bnd (fX12_inRow h4) fun x30 h29 =>
  if x30 = 99 then (k164_26 h29)
  else (some (0, h29))))
  else if l2 = 9 then (bnd (fX12_inRow h4) fun x33 h32 =>
  some (x33, h32))
  else if l2 = 10 then (bnd (fX12_centre h4) fun x36 h35 =>
  some (x36, h35))
  else if l2 = 11 then (bnd (fX12_centre h4) fun x39 h38 =>
  bnd (fX12_waysFrom x39 h38) fun x41 h40 =>
  some (x41, h40))
  else if l2 = 12 then (bnd (fX12_swapTwo h4) fun x44 h43 =>
  some (x44, h43))
  else (some ((-2), h4)))
  else (bnd (fX12_ofLoad l2 h4) fun x46 h45 =>
  some (x46, h45)))
  else (if (rd h2 10 0 22) ≤ (l2 - (20 : Int32)) then (some ((-1), h2))
  else (bnd (fX12_fallingOf (l2 - (20 : Int32)) h2) fun x48 h47 =>
  some (x48, h47))))
set_option maxHeartbeats 4000000 in
set_option maxRecDepth 100000 in
theorem cX12_load_ok (g : GE) (l1 : Int32) (l2 : Int32) (h : Hp) : Con cvi 1 g mX12_load 9 [rv g 10 0, .int l1, .int l2] h (fX12_load l1 l2 h) := by
  refine Con.of (by decide +kernel) (Nat.le_of_ble_eq_true rfl) ?_
  show Sim cvi 1 g mX12_load 9 0 [(0, rv g 10 0), (1, .int l1), (2, .int l2)] [] h _
  unfold fX12_load
  refine s_aload_n 0 dX12_load_0 rfl rfl ?_
  refine s_iconst (v := 0) dX12_load_1 rfl ?_
  refine s_puti (s0 := 0) dX12_load_2 fl_X12_88 (fun h1 => ?_)
  refine s_aload_n 0 dX12_load_5 rfl rfl ?_
  refine s_iload_n 1 dX12_load_6 rfl rfl ?_
  refine s_callVi (s0 := 0) (As := [.int l1]) (rest := []) (cX12_hand_ok g l1 h1) vl_X12_241 rfl (Nat.le_of_ble_eq_true rfl) (Nat.le_of_ble_eq_true rfl) dX12_load_7 rfl (fun x3 h2 => ?_)
  refine s_if_ne (tgt := 16) dX12_load_10 (by decide) ?_ ?_
  ·
    refine s_bipush (v := (-2)) dX12_load_13 rfl ?_
    exact s_iret rfl dX12_load_15
  ·
    refine s_iload_n 2 dX12_load_16 rfl rfl ?_
    refine s_bipush (v := 20) dX12_load_17 rfl ?_
    refine s_icmp_lt (tgt := 46) dX12_load_19 (by decide) ?_ ?_
    ·
      refine s_iload_n 2 dX12_load_46 rfl rfl ?_
      refine s_iconst (v := 2) dX12_load_47 rfl ?_
      refine s_bipush (v := 7) dX12_load_48 rfl ?_
      refine s_callSi (As := [.int l2, .int 2, .int 7]) (rest := []) (cX12_in_ok g l2 2 7 h2) sl_X12_100 rfl (Nat.le_of_ble_eq_true rfl) (Nat.le_of_ble_eq_true rfl) dX12_load_50 rfl (fun x5 h4 => ?_)
      refine s_if_eq (tgt := 62) dX12_load_53 (by decide) ?_ ?_
      ·
        refine s_iload_n 2 dX12_load_62 rfl rfl ?_
        refine s_tab 0 (tgt := 128) dX12_load_63 (by decide) (by decide) rfl (by decide) ?_ (fun e6 => ?_)
        ·
          refine s_aload_n 0 dX12_load_128 rfl rfl ?_
          refine s_callVi (s0 := 0) (As := []) (rest := []) (cX12_loadOf_ok g h4) vl_X12_530 rfl (Nat.le_of_ble_eq_true rfl) (Nat.le_of_ble_eq_true rfl) dX12_load_129 rfl (fun x8 h7 => ?_)
          refine s_bipush (v := 60) dX12_load_132 rfl ?_
          refine s_iload_n 2 dX12_load_134 rfl rfl ?_
          refine s_iconst (v := 1) dX12_load_135 rfl ?_
          refine s_jn (fun (k144_8 : Int32 → Hp → Option (Int32 × Hp)) => ∀ (z0_8 : Int32) (h10 : Hp), Sim cvi 1 g mX12_load 9 144 [] [.int z0_8, .int 60, .int x8] h10 (k144_8 z0_8 h10)) (fun z0_8 h10 => ?_) (fun k144_8 Hk144_8 => ?_)
          ·
            refine s_callSi (As := [.int x8, .int 60, .int z0_8]) (rest := []) (cX12_part_ok g x8 60 z0_8 h10) sl_X12_440 rfl (Nat.le_of_ble_eq_true rfl) (Nat.le_of_ble_eq_true rfl) dX12_load_144 rfl (fun x12 h11 => ?_)
            exact s_iret rfl dX12_load_147
          refine s_icmp_ne (tgt := 143) dX12_load_136 (by decide) ?_ ?_
          ·
            refine s_iconst (v := 1) dX12_load_139 rfl ?_
            refine s_goto (tgt := 144) dX12_load_140 (by decide) ?_
            refine s_sub [] rfl ?_
            exact Hk144_8 1 h7
          ·
            refine s_iconst (v := 0) dX12_load_143 rfl ?_
            refine s_sub [] rfl ?_
            exact Hk144_8 0 h7
        refine s_tab 1 (tgt := 128) dX12_load_63 (by decide) (by decide) rfl (by decide) ?_ (fun e13 => ?_)
        ·
          refine s_aload_n 0 dX12_load_128 rfl rfl ?_
          refine s_callVi (s0 := 0) (As := []) (rest := []) (cX12_loadOf_ok g h4) vl_X12_530 rfl (Nat.le_of_ble_eq_true rfl) (Nat.le_of_ble_eq_true rfl) dX12_load_129 rfl (fun x15 h14 => ?_)
          refine s_bipush (v := 60) dX12_load_132 rfl ?_
          refine s_iload_n 2 dX12_load_134 rfl rfl ?_
          refine s_iconst (v := 1) dX12_load_135 rfl ?_
          refine s_jn (fun (k144_15 : Int32 → Hp → Option (Int32 × Hp)) => ∀ (z0_15 : Int32) (h17 : Hp), Sim cvi 1 g mX12_load 9 144 [] [.int z0_15, .int 60, .int x15] h17 (k144_15 z0_15 h17)) (fun z0_15 h17 => ?_) (fun k144_15 Hk144_15 => ?_)
          ·
            refine s_callSi (As := [.int x15, .int 60, .int z0_15]) (rest := []) (cX12_part_ok g x15 60 z0_15 h17) sl_X12_440 rfl (Nat.le_of_ble_eq_true rfl) (Nat.le_of_ble_eq_true rfl) dX12_load_144 rfl (fun x19 h18 => ?_)
            exact s_iret rfl dX12_load_147
          refine s_icmp_ne (tgt := 143) dX12_load_136 (by decide) ?_ ?_
          ·
            refine s_iconst (v := 1) dX12_load_139 rfl ?_
            refine s_goto (tgt := 144) dX12_load_140 (by decide) ?_
            refine s_sub [] rfl ?_
            exact Hk144_15 1 h14
          ·
            refine s_iconst (v := 0) dX12_load_143 rfl ?_
            refine s_sub [] rfl ?_
            exact Hk144_15 0 h14
        refine s_tab 2 (tgt := 194) dX12_load_63 (by decide) (by decide) rfl (by decide) ?_ (fun e20 => ?_)
        ·
          refine s_bipush (v := (-2)) dX12_load_194 rfl ?_
          exact s_iret rfl dX12_load_196
        refine s_tab 3 (tgt := 194) dX12_load_63 (by decide) (by decide) rfl (by decide) ?_ (fun e21 => ?_)
        ·
          refine s_bipush (v := (-2)) dX12_load_194 rfl ?_
          exact s_iret rfl dX12_load_196
        refine s_tab 4 (tgt := 194) dX12_load_63 (by decide) (by decide) rfl (by decide) ?_ (fun e22 => ?_)
        ·
          refine s_bipush (v := (-2)) dX12_load_194 rfl ?_
          exact s_iret rfl dX12_load_196
        refine s_tab 5 (tgt := 194) dX12_load_63 (by decide) (by decide) rfl (by decide) ?_ (fun e23 => ?_)
        ·
          refine s_bipush (v := (-2)) dX12_load_194 rfl ?_
          exact s_iret rfl dX12_load_196
        refine s_tab 6 (tgt := 194) dX12_load_63 (by decide) (by decide) rfl (by decide) ?_ (fun e24 => ?_)
        ·
          refine s_bipush (v := (-2)) dX12_load_194 rfl ?_
          exact s_iret rfl dX12_load_196
        refine s_tab 7 (tgt := 194) dX12_load_63 (by decide) (by decide) rfl (by decide) ?_ (fun e25 => ?_)
        ·
          refine s_bipush (v := (-2)) dX12_load_194 rfl ?_
          exact s_iret rfl dX12_load_196
        refine s_tab 8 (tgt := 148) dX12_load_63 (by decide) (by decide) rfl (by decide) ?_ (fun e26 => ?_)
        ·
          refine s_aload_n 0 dX12_load_148 rfl rfl ?_
          refine s_geti (s0 := 0) dX12_load_149 fl_X12_232 ?_
          refine s_jn (fun (k164_26 : Hp → Option (Int32 × Hp)) => ∀ (h28 : Hp), Sim cvi 1 g mX12_load 9 164 [] [] h28 (k164_26 h28)) (fun h28 => ?_) (fun k164_26 Hk164_26 => ?_)
          ·
            refine s_iconst (v := 1) dX12_load_164 rfl ?_
            refine s_goto (tgt := 169) dX12_load_165 (by decide) ?_
            exact s_iret rfl dX12_load_169
          refine s_if_eq (tgt := 164) dX12_load_152 (by decide) ?_ ?_
          ·
            refine s_sub [] rfl ?_
            exact Hk164_26 h4
          ·
            refine s_aload_n 0 dX12_load_155 rfl rfl ?_
            refine s_callVi (s0 := 0) (As := []) (rest := []) (cX12_inRow_ok g h4) vl_X12_533 rfl (Nat.le_of_ble_eq_true rfl) (Nat.le_of_ble_eq_true rfl) dX12_load_156 rfl (fun x30 h29 => ?_)
            refine s_bipush (v := 99) dX12_load_159 rfl ?_
            refine s_icmp_ne (tgt := 168) dX12_load_161 (by decide) ?_ ?_
            ·
              refine s_sub [] rfl ?_
              exact Hk164_26 h29
            ·
              refine s_iconst (v := 0) dX12_load_168 rfl ?_
              exact s_iret rfl dX12_load_169
        refine s_tab 9 (tgt := 170) dX12_load_63 (by decide) (by decide) rfl (by decide) ?_ (fun e31 => ?_)
        ·
          refine s_aload_n 0 dX12_load_170 rfl rfl ?_
          refine s_callVi (s0 := 0) (As := []) (rest := []) (cX12_inRow_ok g h4) vl_X12_533 rfl (Nat.le_of_ble_eq_true rfl) (Nat.le_of_ble_eq_true rfl) dX12_load_171 rfl (fun x33 h32 => ?_)
          exact s_iret rfl dX12_load_174
        refine s_tab 10 (tgt := 175) dX12_load_63 (by decide) (by decide) rfl (by decide) ?_ (fun e34 => ?_)
        ·
          refine s_aload_n 0 dX12_load_175 rfl rfl ?_
          refine s_callVi (s0 := 0) (As := []) (rest := []) (cX12_centre_ok g h4) vl_X12_536 rfl (Nat.le_of_ble_eq_true rfl) (Nat.le_of_ble_eq_true rfl) dX12_load_176 rfl (fun x36 h35 => ?_)
          exact s_iret rfl dX12_load_179
        refine s_tab 11 (tgt := 180) dX12_load_63 (by decide) (by decide) rfl (by decide) ?_ (fun e37 => ?_)
        ·
          refine s_aload_n 0 dX12_load_180 rfl rfl ?_
          refine s_aload_n 0 dX12_load_181 rfl rfl ?_
          refine s_callVi (s0 := 0) (As := []) (rest := [rv g 10 0]) (cX12_centre_ok g h4) vl_X12_536 rfl (Nat.le_of_ble_eq_true rfl) (Nat.le_of_ble_eq_true rfl) dX12_load_182 rfl (fun x39 h38 => ?_)
          refine s_callVi (s0 := 0) (As := [.int x39]) (rest := []) (cX12_waysFrom_ok g x39 h38) vl_X12_509 rfl (Nat.le_of_ble_eq_true rfl) (Nat.le_of_ble_eq_true rfl) dX12_load_185 rfl (fun x41 h40 => ?_)
          exact s_iret rfl dX12_load_188
        refine s_tab 12 (tgt := 189) dX12_load_63 (by decide) (by decide) rfl (by decide) ?_ (fun e42 => ?_)
        ·
          refine s_aload_n 0 dX12_load_189 rfl rfl ?_
          refine s_callVi (s0 := 0) (As := []) (rest := []) (cX12_swapTwo_ok g h4) vl_X12_539 rfl (Nat.le_of_ble_eq_true rfl) (Nat.le_of_ble_eq_true rfl) dX12_load_190 rfl (fun x44 h43 => ?_)
          exact s_iret rfl dX12_load_193
        have e6 := lv_neT e6 (show (0 : Int32).toInt = 0 from rfl)
        have e13 := lv_neT e13 (show (1 : Int32).toInt = 1 from rfl)
        have e20 := lv_neT e20 (show (2 : Int32).toInt = 2 from rfl)
        have e21 := lv_neT e21 (show (3 : Int32).toInt = 3 from rfl)
        have e22 := lv_neT e22 (show (4 : Int32).toInt = 4 from rfl)
        have e23 := lv_neT e23 (show (5 : Int32).toInt = 5 from rfl)
        have e24 := lv_neT e24 (show (6 : Int32).toInt = 6 from rfl)
        have e25 := lv_neT e25 (show (7 : Int32).toInt = 7 from rfl)
        have e26 := lv_neT e26 (show (8 : Int32).toInt = 8 from rfl)
        have e31 := lv_neT e31 (show (9 : Int32).toInt = 9 from rfl)
        have e34 := lv_neT e34 (show (10 : Int32).toInt = 10 from rfl)
        have e37 := lv_neT e37 (show (11 : Int32).toInt = 11 from rfl)
        have e42 := lv_neT e42 (show (12 : Int32).toInt = 12 from rfl)
        refine s_tabd (tgt := 194) dX12_load_63 (by omega) (by decide) ?_
        refine s_bipush (v := (-2)) dX12_load_194 rfl ?_
        exact s_iret rfl dX12_load_196
      ·
        refine s_aload_n 0 dX12_load_56 rfl rfl ?_
        refine s_iload_n 2 dX12_load_57 rfl rfl ?_
        refine s_callVi (s0 := 0) (As := [.int l2]) (rest := []) (cX12_ofLoad_ok g l2 h4) vl_X12_527 rfl (Nat.le_of_ble_eq_true rfl) (Nat.le_of_ble_eq_true rfl) dX12_load_58 rfl (fun x46 h45 => ?_)
        exact s_iret rfl dX12_load_61
    ·
      refine s_iload_n 2 dX12_load_22 rfl rfl ?_
      refine s_bipush (v := 20) dX12_load_23 rfl ?_
      refine s_isub dX12_load_25 ?_
      refine s_aload_n 0 dX12_load_26 rfl rfl ?_
      refine s_geti (s0 := 0) dX12_load_27 fl_X12_232 ?_
      refine s_icmp_ge (tgt := 44) dX12_load_30 (by decide) ?_ ?_
      ·
        refine s_iconst (v := (-1)) dX12_load_44 rfl ?_
        exact s_iret rfl dX12_load_45
      ·
        refine s_aload_n 0 dX12_load_33 rfl rfl ?_
        refine s_iload_n 2 dX12_load_34 rfl rfl ?_
        refine s_bipush (v := 20) dX12_load_35 rfl ?_
        refine s_isub dX12_load_37 ?_
        refine s_callVi (s0 := 0) (As := [.int (l2 - (20 : Int32))]) (rest := []) (cX12_fallingOf_ok g (l2 - (20 : Int32)) h2) vl_X12_512 rfl (Nat.le_of_ble_eq_true rfl) (Nat.le_of_ble_eq_true rfl) dX12_load_38 rfl (fun x48 h47 => ?_)
        refine s_goto (tgt := 45) dX12_load_41 (by decide) ?_
        exact s_iret rfl dX12_load_45
def fX12_log (l1 : Int32) (l2 : Int32) (h : Hp) : Option (Int32 × Hp) :=
  lt (wr h 10 0 0 0) fun h1 =>
  bnd (fX12_hasLog l1 h1) fun x3 h2 =>
  if x3 = 0 then (some ((-1), h2))
  else (lt (irm l2 10) fun x4 =>
  if (10 : Int32) ≤ l2 then (jn (κ := Hp → Option (Int32 × Hp)) (fun h6 => some ((-1), h6)) fun k79_4 =>
  if (40 : Int32) ≤ l2 then (k79_4 h2)
  else (bnd (fX12_facts h2) fun x8 h7 =>
  if x8 ≤ x4 then (k79_4 h7)
  else (bnd (fX12_factOf x4 ((l2 / 10) - (1 : Int32)) h7) fun x10 h9 =>
  some (x10, h9))))
  else (if l2 = 0 then (bnd (fX12_runs h2) fun x12 h11 =>
  some (x12, h11))
  else (if l2 = 1 then (bnd (fX12_facts h2) fun x14 h13 =>
  some (x14, h13))
  else (some ((-1), h2)))))
set_option maxHeartbeats 4000000 in
set_option maxRecDepth 100000 in
theorem cX12_log_ok (g : GE) (l1 : Int32) (l2 : Int32) (h : Hp) : Con cvi 1 g mX12_log 5 [rv g 10 0, .int l1, .int l2] h (fX12_log l1 l2 h) := by
  refine Con.of (by decide +kernel) (Nat.le_of_ble_eq_true rfl) ?_
  show Sim cvi 1 g mX12_log 5 0 [(0, rv g 10 0), (1, .int l1), (2, .int l2)] [] h _
  unfold fX12_log
  refine s_aload_n 0 dX12_log_0 rfl rfl ?_
  refine s_iconst (v := 0) dX12_log_1 rfl ?_
  refine s_puti (s0 := 0) dX12_log_2 fl_X12_88 (fun h1 => ?_)
  refine s_aload_n 0 dX12_log_5 rfl rfl ?_
  refine s_iload_n 1 dX12_log_6 rfl rfl ?_
  refine s_callVi (s0 := 0) (As := [.int l1]) (rest := []) (cX12_hasLog_ok g l1 h1) vl_X12_447 rfl (Nat.le_of_ble_eq_true rfl) (Nat.le_of_ble_eq_true rfl) dX12_log_7 rfl (fun x3 h2 => ?_)
  refine s_if_ne (tgt := 15) dX12_log_10 (by decide) ?_ ?_
  ·
    refine s_iconst (v := (-1)) dX12_log_13 rfl ?_
    exact s_iret rfl dX12_log_14
  ·
    refine s_iload_n 2 dX12_log_15 rfl rfl ?_
    refine s_bipush (v := 10) dX12_log_16 rfl ?_
    refine s_iremc dX12_log_18 (by decide) ?_
    refine s_leti (fun x4 => ?_)
    refine s_istore_n (ls' := [(3, .int x4), (0, rv g 10 0), (1, .int l1), (2, .int l2)]) dX12_log_19 rfl (by decide) rfl ?_
    refine s_iload_n 3 dX12_log_20 rfl rfl ?_
    refine s_bipush (v := 10) dX12_log_21 rfl ?_
    refine s_icmp_ge (tgt := 51) dX12_log_23 (by decide) ?_ ?_
    ·
      refine s_iload_n 3 dX12_log_51 rfl rfl ?_
      refine s_bipush (v := 40) dX12_log_52 rfl ?_
      refine s_jn (fun (k79_4 : Hp → Option (Int32 × Hp)) => ∀ (h6 : Hp), Sim cvi 1 g mX12_log 5 79 [] [] h6 (k79_4 h6)) (fun h6 => ?_) (fun k79_4 Hk79_4 => ?_)
      ·
        refine s_iconst (v := (-1)) dX12_log_79 rfl ?_
        exact s_iret rfl dX12_log_80
      refine s_icmp_ge (tgt := 79) dX12_log_54 (by decide) ?_ ?_
      ·
        refine s_sub [] rfl ?_
        exact Hk79_4 h2
      ·
        refine s_iload_n 0 dX12_log_57 rfl rfl ?_
        refine s_aload_n 1 dX12_log_58 rfl rfl ?_
        refine s_callVi (s0 := 0) (As := []) (rest := [.int x4]) (cX12_facts_ok g h2) vl_X12_453 rfl (Nat.le_of_ble_eq_true rfl) (Nat.le_of_ble_eq_true rfl) dX12_log_59 rfl (fun x8 h7 => ?_)
        refine s_icmp_ge (tgt := 79) dX12_log_62 (by decide) ?_ ?_
        ·
          refine s_sub [] rfl ?_
          exact Hk79_4 h7
        ·
          refine s_aload_n 1 dX12_log_65 rfl rfl ?_
          refine s_iload_n 0 dX12_log_66 rfl rfl ?_
          refine s_iload_n 3 dX12_log_67 rfl rfl ?_
          refine s_bipush (v := 10) dX12_log_68 rfl ?_
          refine s_idivc dX12_log_70 (by decide) ?_
          refine s_iconst (v := 1) dX12_log_71 rfl ?_
          refine s_isub dX12_log_72 ?_
          refine s_callVi (s0 := 0) (As := [.int x4, .int ((l2 / 10) - (1 : Int32))]) (rest := []) (cX12_factOf_ok g x4 ((l2 / 10) - (1 : Int32)) h7) vl_X12_456 rfl (Nat.le_of_ble_eq_true rfl) (Nat.le_of_ble_eq_true rfl) dX12_log_73 rfl (fun x10 h9 => ?_)
          refine s_goto (tgt := 80) dX12_log_76 (by decide) ?_
          exact s_iret rfl dX12_log_80
    ·
      refine s_iload_n 3 dX12_log_26 rfl rfl ?_
      refine s_if_ne (tgt := 37) dX12_log_27 (by decide) ?_ ?_
      ·
        refine s_aload_n 1 dX12_log_30 rfl rfl ?_
        refine s_callVi (s0 := 0) (As := []) (rest := []) (cX12_runs_ok g h2) vl_X12_450 rfl (Nat.le_of_ble_eq_true rfl) (Nat.le_of_ble_eq_true rfl) dX12_log_31 rfl (fun x12 h11 => ?_)
        refine s_goto (tgt := 50) dX12_log_34 (by decide) ?_
        exact s_iret rfl dX12_log_50
      ·
        refine s_iload_n 3 dX12_log_37 rfl rfl ?_
        refine s_iconst (v := 1) dX12_log_38 rfl ?_
        refine s_icmp_ne (tgt := 49) dX12_log_39 (by decide) ?_ ?_
        ·
          refine s_aload_n 1 dX12_log_42 rfl rfl ?_
          refine s_callVi (s0 := 0) (As := []) (rest := []) (cX12_facts_ok g h2) vl_X12_453 rfl (Nat.le_of_ble_eq_true rfl) (Nat.le_of_ble_eq_true rfl) dX12_log_43 rfl (fun x14 h13 => ?_)
          refine s_goto (tgt := 50) dX12_log_46 (by decide) ?_
          exact s_iret rfl dX12_log_50
        ·
          refine s_iconst (v := (-1)) dX12_log_49 rfl ?_
          exact s_iret rfl dX12_log_50
def fX12_movesOf_l4 (l1 : Int32) (K : Int32 → Hp → Option (Int32 × Hp)) (rec : Int32 → Int32 → Hp → Option (Int32 × Hp)) (l2 l3 : Int32) (h : Hp) : Option (Int32 × Hp) :=
  if (10 : Int32) ≤ l3 then (K l2 h)
  else (ck (ib l1 5) (lt (wa h 53 0 l1 l3) fun h1 =>
  bnd (fX12_isForever h1) fun x3 h2 =>
  jn (κ := Int32 → Hp → Option (Int32 × Hp)) (fun z0_3 h5 => lt (l2 ||| z0_3) fun x6 =>
  lt (l3 + 1) fun x7 =>
  rec x6 x7 h5) fun k32_3 =>
  if x3 = 0 then (k32_3 0 h2)
  else (k32_3 ((1 : Int32) <<< (l3 &&& 31)) h2)))
def fX12_movesOf (l1 : Int32) (h : Hp) : Option (Int32 × Hp) :=
  itr2 (fX12_movesOf_l4 l1 (fun y8 h9 => some (y8, h9))) FU 0 0 h
set_option maxHeartbeats 4000000 in
set_option maxRecDepth 100000 in
theorem sX12_movesOf_l4 (g : GE) (l1 : Int32) (K : Int32 → Hp → Option (Int32 × Hp)) (hK : ∀ (y2 : Int32) (h : Hp), Sim cvi 1 g mX12_movesOf 7 40 [(2, .int y2)] [] h (K y2 h)) : ∀ (n : Nat) (l2 l3 : Int32) (h : Hp), Sim cvi 1 g mX12_movesOf 7 4 [(0, rv g 10 0), (1, .int l1), (2, .int l2), (3, .int l3)] [] h (itr2 (fX12_movesOf_l4 l1 K) n l2 l3 h) := by
  refine s_itr2 (fun l2 l3 h o => Sim cvi 1 g mX12_movesOf 7 4 [(0, rv g 10 0), (1, .int l1), (2, .int l2), (3, .int l3)] [] h o) (fun _ _ _ => s_none) ?_
  intro rec hrec l2 l3 h
  unfold fX12_movesOf_l4
  refine s_iload_n 3 dX12_movesOf_4 rfl rfl ?_
  refine s_bipush (v := 10) dX12_movesOf_5 rfl ?_
  refine s_icmp_ge (tgt := 40) dX12_movesOf_7 (by decide) ?_ ?_
  ·
    refine s_sub [2] rfl ?_
    exact hK l2 h
  ·
    refine s_aload_n 0 dX12_movesOf_10 rfl rfl ?_
    refine s_getr (s0 := 0) dX12_movesOf_11 fl_X12_41 ?_
    refine s_iload_n 1 dX12_movesOf_14 rfl rfl ?_
    refine s_iload_n 3 dX12_movesOf_15 rfl rfl ?_
    refine s_iast (s0 := 0) ka_53 dX12_movesOf_16 (fun h1 => ?_)
    refine s_iload_n 2 dX12_movesOf_17 rfl rfl ?_
    refine s_aload_n 0 dX12_movesOf_18 rfl rfl ?_
    refine s_callVi (s0 := 0) (As := []) (rest := [.int l2]) (cX12_isForever_ok g h1) vl_X12_377 rfl (Nat.le_of_ble_eq_true rfl) (Nat.le_of_ble_eq_true rfl) dX12_movesOf_19 rfl (fun x3 h2 => ?_)
    refine s_jn (fun (k32_3 : Int32 → Hp → Option (Int32 × Hp)) => ∀ (z0_3 : Int32) (h5 : Hp), Sim cvi 1 g mX12_movesOf 7 32 [(0, rv g 10 0), (1, .int l1), (3, .int l3)] [.int z0_3, .int l2] h5 (k32_3 z0_3 h5)) (fun z0_3 h5 => ?_) (fun k32_3 Hk32_3 => ?_)
    ·
      refine s_ior dX12_movesOf_32 ?_
      refine s_leti (fun x6 => ?_)
      refine s_istore_n (ls' := [(2, .int x6), (0, rv g 10 0), (1, .int l1), (3, .int l3)]) dX12_movesOf_33 rfl (by decide) rfl ?_
      refine s_iincl 3 (w := 1) (fun x7 => [(3, .int x7), (2, .int x6), (0, rv g 10 0), (1, .int l1)]) dX12_movesOf_34 rfl rfl (by decide) (fun _ => rfl) (fun x7 => ?_)
      refine s_goto (tgt := 4) dX12_movesOf_37 (by decide) ?_
      refine s_sub [2, 3, 1, 0] rfl ?_
      exact hrec x6 x7 h5
    refine s_if_eq (tgt := 31) dX12_movesOf_22 (by decide) ?_ ?_
    ·
      refine s_iconst (v := 0) dX12_movesOf_31 rfl ?_
      refine s_sub [0, 1, 3] rfl ?_
      exact Hk32_3 0 h2
    ·
      refine s_iconst (v := 1) dX12_movesOf_25 rfl ?_
      refine s_iload_n 3 dX12_movesOf_26 rfl rfl ?_
      refine s_ishl dX12_movesOf_27 ?_
      refine s_goto (tgt := 32) dX12_movesOf_28 (by decide) ?_
      refine s_sub [0, 1, 3] rfl ?_
      exact Hk32_3 ((1 : Int32) <<< (l3 &&& 31)) h2
set_option maxHeartbeats 4000000 in
set_option maxRecDepth 100000 in
theorem cX12_movesOf_ok (g : GE) (l1 : Int32) (h : Hp) : Con cvi 1 g mX12_movesOf 7 [rv g 10 0, .int l1] h (fX12_movesOf l1 h) := by
  refine Con.of (by decide +kernel) (Nat.le_of_ble_eq_true rfl) ?_
  show Sim cvi 1 g mX12_movesOf 7 0 [(0, rv g 10 0), (1, .int l1)] [] h _
  unfold fX12_movesOf
  refine s_iconst (v := 0) dX12_movesOf_0 rfl ?_
  refine s_istore_n (ls' := [(2, .int 0), (0, rv g 10 0), (1, .int l1)]) dX12_movesOf_1 rfl (by decide) rfl ?_
  refine s_iconst (v := 0) dX12_movesOf_2 rfl ?_
  refine s_istore_n (ls' := [(3, .int 0), (2, .int 0), (0, rv g 10 0), (1, .int l1)]) dX12_movesOf_3 rfl (by decide) rfl ?_
  refine s_sub (ls' := [(0, rv g 10 0), (1, .int l1), (2, .int 0), (3, .int 0)]) [2, 3, 1, 0] rfl ?_
  refine sX12_movesOf_l4 g l1 _ (fun y8 h9 => ?_) FU 0 0 h
  refine s_iload_n 0 dX12_movesOf_40 rfl rfl ?_
  exact s_iret rfl dX12_movesOf_41
def fX12_needOf_l2 (l1 : Int32) (K : Hp → Option (Int32 × Hp)) (rec : Int32 → Hp → Option (Int32 × Hp)) (l2 : Int32) (h : Hp) : Option (Int32 × Hp) :=
  if (6 : Int32) < l2 then (K h)
  else (ck (ib l1 5) (lt (wa h 54 0 l1 l2) fun h1 =>
  bnd (fX12_of ((13 : Int32) + l1) h1) fun x3 h2 =>
  bnd (fX12_lesser x3 l2 h2) fun x5 h4 =>
  ck (ib l1 5) (lt (wa h4 55 0 l1 x5) fun h6 =>
  bnd (fX12_isForever h6) fun x8 h7 =>
  if x8 = 0 then (lt (l2 + 1) fun x9 =>
  rec x9 h7)
  else (some (l2, h7)))))
def fX12_needOf (l1 : Int32) (h : Hp) : Option (Int32 × Hp) :=
  itr1 (fX12_needOf_l2 l1 (fun h10 => some ((-1), h10))) FU 1 h
set_option maxHeartbeats 4000000 in
set_option maxRecDepth 100000 in
theorem sX12_needOf_l2 (g : GE) (l1 : Int32) (K : Hp → Option (Int32 × Hp)) (hK : ∀ (h : Hp), Sim cvi 1 g mX12_needOf 7 48 [] [] h (K  h)) : ∀ (n : Nat) (l2 : Int32) (h : Hp), Sim cvi 1 g mX12_needOf 7 2 [(0, rv g 10 0), (1, .int l1), (2, .int l2)] [] h (itr1 (fX12_needOf_l2 l1 K) n l2 h) := by
  refine s_itr1 (fun l2 h o => Sim cvi 1 g mX12_needOf 7 2 [(0, rv g 10 0), (1, .int l1), (2, .int l2)] [] h o) (fun _ _ => s_none) ?_
  intro rec hrec l2 h
  unfold fX12_needOf_l2
  refine s_iload_n 2 dX12_needOf_2 rfl rfl ?_
  refine s_bipush (v := 6) dX12_needOf_3 rfl ?_
  refine s_icmp_gt (tgt := 48) dX12_needOf_5 (by decide) ?_ ?_
  ·
    refine s_sub [] rfl ?_
    exact hK h
  ·
    refine s_aload_n 0 dX12_needOf_8 rfl rfl ?_
    refine s_getr (s0 := 0) dX12_needOf_9 fl_X12_44 ?_
    refine s_iload_n 1 dX12_needOf_12 rfl rfl ?_
    refine s_iload_n 2 dX12_needOf_13 rfl rfl ?_
    refine s_iast (s0 := 0) ka_54 dX12_needOf_14 (fun h1 => ?_)
    refine s_aload_n 0 dX12_needOf_15 rfl rfl ?_
    refine s_getr (s0 := 0) dX12_needOf_16 fl_X12_47 ?_
    refine s_iload_n 1 dX12_needOf_19 rfl rfl ?_
    refine s_aload_n 0 dX12_needOf_20 rfl rfl ?_
    refine s_bipush (v := 13) dX12_needOf_21 rfl ?_
    refine s_iload_n 1 dX12_needOf_23 rfl rfl ?_
    refine s_iadd dX12_needOf_24 ?_
    refine s_callVi (s0 := 0) (As := [.int ((13 : Int32) + l1)]) (rest := [.int l1, rv g 55 0]) (cX12_of_ok g ((13 : Int32) + l1) h1) vl_X12_222 rfl (Nat.le_of_ble_eq_true rfl) (Nat.le_of_ble_eq_true rfl) dX12_needOf_25 rfl (fun x3 h2 => ?_)
    refine s_iload_n 2 dX12_needOf_28 rfl rfl ?_
    refine s_callSi (As := [.int x3, .int l2]) (rest := [.int l1, rv g 55 0]) (cX12_lesser_ok g x3 l2 h2) sl_X12_162 rfl (Nat.le_of_ble_eq_true rfl) (Nat.le_of_ble_eq_true rfl) dX12_needOf_29 rfl (fun x5 h4 => ?_)
    refine s_iast (s0 := 0) ka_55 dX12_needOf_32 (fun h6 => ?_)
    refine s_aload_n 0 dX12_needOf_33 rfl rfl ?_
    refine s_callVi (s0 := 0) (As := []) (rest := []) (cX12_isForever_ok g h6) vl_X12_377 rfl (Nat.le_of_ble_eq_true rfl) (Nat.le_of_ble_eq_true rfl) dX12_needOf_34 rfl (fun x8 h7 => ?_)
    refine s_if_eq (tgt := 42) dX12_needOf_37 (by decide) ?_ ?_
    ·
      refine s_iincl 2 (w := 1) (fun x9 => [(2, .int x9), (0, rv g 10 0), (1, .int l1)]) dX12_needOf_42 rfl rfl (by decide) (fun _ => rfl) (fun x9 => ?_)
      refine s_goto (tgt := 2) dX12_needOf_45 (by decide) ?_
      refine s_sub [1, 2, 0] rfl ?_
      exact hrec x9 h7
    ·
      refine s_iload_n 2 dX12_needOf_40 rfl rfl ?_
      exact s_iret rfl dX12_needOf_41
set_option maxHeartbeats 4000000 in
set_option maxRecDepth 100000 in
theorem cX12_needOf_ok (g : GE) (l1 : Int32) (h : Hp) : Con cvi 1 g mX12_needOf 7 [rv g 10 0, .int l1] h (fX12_needOf l1 h) := by
  refine Con.of (by decide +kernel) (Nat.le_of_ble_eq_true rfl) ?_
  show Sim cvi 1 g mX12_needOf 7 0 [(0, rv g 10 0), (1, .int l1)] [] h _
  unfold fX12_needOf
  refine s_iconst (v := 1) dX12_needOf_0 rfl ?_
  refine s_istore_n (ls' := [(2, .int 1), (0, rv g 10 0), (1, .int l1)]) dX12_needOf_1 rfl (by decide) rfl ?_
  refine s_sub (ls' := [(0, rv g 10 0), (1, .int l1), (2, .int 1)]) [1, 2, 0] rfl ?_
  refine sX12_needOf_l2 g l1 _ (fun h10 => ?_) FU 1 h
  refine s_iconst (v := (-1)) dX12_needOf_48 rfl ?_
  exact s_iret rfl dX12_needOf_49
def fX12_reachedStands_l9 (l1 : Int32) (K : Int32 → Hp → Option (Int32 × Hp)) (rec : Int32 → Int32 → Hp → Option (Int32 × Hp)) (l2 l3 : Int32) (h : Hp) : Option (Int32 × Hp) :=
  if (rd h 10 0 46) ≤ l3 then (K l2 h)
  else (jn (κ := Int32 → Hp → Option (Int32 × Hp)) (fun z0_2 h4 => lt (l2 + z0_2) fun x5 =>
  lt (l3 + 1) fun x6 =>
  rec x5 x6 h4) fun k44_2 =>
  jn (κ := Hp → Option (Int32 × Hp)) (fun h8 => k44_2 1 h8) fun k39_6 =>
  if l1 = 0 then (k39_6 h)
  else (if (rd h 10 0 25) = 0 then (k39_6 h)
  else (ck (ib l3 46656) (
  if (ra h 60 0 l3) = (-1) then (k39_6 h)
  else (k44_2 0 h)))))
def fX12_reachedStands (l1 : Int32) (h : Hp) : Option (Int32 × Hp) :=
  bnd (fX12_isForever h) fun x2 h1 =>
  itr2 (fX12_reachedStands_l9 l1 (fun y9 h10 => some (y9, h10))) FU 0 0 h1
set_option maxHeartbeats 4000000 in
set_option maxRecDepth 100000 in
theorem sX12_reachedStands_l9 (g : GE) (l1 : Int32) (K : Int32 → Hp → Option (Int32 × Hp)) (hK : ∀ (y2 : Int32) (h : Hp), Sim cvi 1 g mX12_reachedStands 7 52 [(2, .int y2)] [] h (K y2 h)) : ∀ (n : Nat) (l2 l3 : Int32) (h : Hp), Sim cvi 1 g mX12_reachedStands 7 9 [(0, rv g 10 0), (1, .int l1), (2, .int l2), (3, .int l3)] [] h (itr2 (fX12_reachedStands_l9 l1 K) n l2 l3 h) := by
  refine s_itr2 (fun l2 l3 h o => Sim cvi 1 g mX12_reachedStands 7 9 [(0, rv g 10 0), (1, .int l1), (2, .int l2), (3, .int l3)] [] h o) (fun _ _ _ => s_none) ?_
  intro rec hrec l2 l3 h
  unfold fX12_reachedStands_l9
  refine s_iload_n 3 dX12_reachedStands_9 rfl rfl ?_
  refine s_aload_n 0 dX12_reachedStands_10 rfl rfl ?_
  refine s_geti (s0 := 0) dX12_reachedStands_11 fl_X12_340 ?_
  refine s_icmp_ge (tgt := 52) dX12_reachedStands_14 (by decide) ?_ ?_
  ·
    refine s_sub [2] rfl ?_
    exact hK l2 h
  ·
    refine s_iload_n 2 dX12_reachedStands_17 rfl rfl ?_
    refine s_iload_n 1 dX12_reachedStands_18 rfl rfl ?_
    refine s_jn (fun (k44_2 : Int32 → Hp → Option (Int32 × Hp)) => ∀ (z0_2 : Int32) (h4 : Hp), Sim cvi 1 g mX12_reachedStands 7 44 [(0, rv g 10 0), (1, .int l1), (3, .int l3)] [.int z0_2, .int l2] h4 (k44_2 z0_2 h4)) (fun z0_2 h4 => ?_) (fun k44_2 Hk44_2 => ?_)
    ·
      refine s_iadd dX12_reachedStands_44 ?_
      refine s_leti (fun x5 => ?_)
      refine s_istore_n (ls' := [(2, .int x5), (0, rv g 10 0), (1, .int l1), (3, .int l3)]) dX12_reachedStands_45 rfl (by decide) rfl ?_
      refine s_iincl 3 (w := 1) (fun x6 => [(3, .int x6), (2, .int x5), (0, rv g 10 0), (1, .int l1)]) dX12_reachedStands_46 rfl rfl (by decide) (fun _ => rfl) (fun x6 => ?_)
      refine s_goto (tgt := 9) dX12_reachedStands_49 (by decide) ?_
      refine s_sub [2, 3, 1, 0] rfl ?_
      exact hrec x5 x6 h4
    refine s_jn (fun (k39_6 : Hp → Option (Int32 × Hp)) => ∀ (h8 : Hp), Sim cvi 1 g mX12_reachedStands 7 39 [(0, rv g 10 0), (1, .int l1), (3, .int l3)] [.int l2] h8 (k39_6 h8)) (fun h8 => ?_) (fun k39_6 Hk39_6 => ?_)
    ·
      refine s_iconst (v := 1) dX12_reachedStands_39 rfl ?_
      refine s_goto (tgt := 44) dX12_reachedStands_40 (by decide) ?_
      exact Hk44_2 1 h8
    refine s_if_eq (tgt := 39) dX12_reachedStands_19 (by decide) ?_ ?_
    ·
      refine s_sub [0, 1, 3] rfl ?_
      exact Hk39_6 h
    ·
      refine s_aload_n 0 dX12_reachedStands_22 rfl rfl ?_
      refine s_geti (s0 := 0) dX12_reachedStands_23 fl_X12_235 ?_
      refine s_if_eq (tgt := 39) dX12_reachedStands_26 (by decide) ?_ ?_
      ·
        refine s_sub [0, 1, 3] rfl ?_
        exact Hk39_6 h
      ·
        refine s_aload_n 0 dX12_reachedStands_29 rfl rfl ?_
        refine s_getr (s0 := 0) dX12_reachedStands_30 fl_X12_63 ?_
        refine s_iload_n 3 dX12_reachedStands_33 rfl rfl ?_
        refine s_iald (s0 := 0) ka_60 dX12_reachedStands_34 ?_
        refine s_iconst (v := (-1)) dX12_reachedStands_35 rfl ?_
        refine s_icmp_ne (tgt := 43) dX12_reachedStands_36 (by decide) ?_ ?_
        ·
          refine s_sub [0, 1, 3] rfl ?_
          exact Hk39_6 h
        ·
          refine s_iconst (v := 0) dX12_reachedStands_43 rfl ?_
          refine s_sub [0, 1, 3] rfl ?_
          exact Hk44_2 0 h
set_option maxHeartbeats 4000000 in
set_option maxRecDepth 100000 in
theorem cX12_reachedStands_ok (g : GE) (l1 : Int32) (h : Hp) : Con cvi 1 g mX12_reachedStands 7 [rv g 10 0, .int l1] h (fX12_reachedStands l1 h) := by
  refine Con.of (by decide +kernel) (Nat.le_of_ble_eq_true rfl) ?_
  show Sim cvi 1 g mX12_reachedStands 7 0 [(0, rv g 10 0), (1, .int l1)] [] h _
  unfold fX12_reachedStands
  refine s_aload_n 0 dX12_reachedStands_0 rfl rfl ?_
  refine s_callVi (s0 := 0) (As := []) (rest := []) (cX12_isForever_ok g h) vl_X12_377 rfl (Nat.le_of_ble_eq_true rfl) (Nat.le_of_ble_eq_true rfl) dX12_reachedStands_1 rfl (fun x2 h1 => ?_)
  refine s_pop dX12_reachedStands_4 rfl ?_
  refine s_iconst (v := 0) dX12_reachedStands_5 rfl ?_
  refine s_istore_n (ls' := [(2, .int 0), (0, rv g 10 0), (1, .int l1)]) dX12_reachedStands_6 rfl (by decide) rfl ?_
  refine s_iconst (v := 0) dX12_reachedStands_7 rfl ?_
  refine s_istore_n (ls' := [(3, .int 0), (2, .int 0), (0, rv g 10 0), (1, .int l1)]) dX12_reachedStands_8 rfl (by decide) rfl ?_
  refine s_sub (ls' := [(0, rv g 10 0), (1, .int l1), (2, .int 0), (3, .int 0)]) [2, 3, 1, 0] rfl ?_
  refine sX12_reachedStands_l9 g l1 _ (fun y9 h10 => ?_) FU 0 0 h1
  refine s_iload_n 0 dX12_reachedStands_52 rfl rfl ?_
  exact s_iret rfl dX12_reachedStands_53
def fX12_spare_l4 (K : Int32 → Hp → Option (Int32 × Hp)) (rec : Int32 → Int32 → Hp → Option (Int32 × Hp)) (l1 l2 : Int32) (h : Hp) : Option (Int32 × Hp) :=
  if (rd h 10 0 22) ≤ l2 then (K l1 h)
  else (lt (wr h 10 0 25 ((((1 : Int32) <<< ((rd h 10 0 22) &&& 31)) - (1 : Int32)) &&& (((1 : Int32) <<< (l2 &&& 31)) ^^^ (-1 : Int32)))) fun h1 =>
  bnd (fX12_isForever h1) fun x3 h2 =>
  jn (κ := Int32 → Hp → Option (Int32 × Hp)) (fun z0_3 h5 => lt (l1 ||| z0_3) fun x6 =>
  lt (l2 + 1) fun x7 =>
  rec x6 x7 h5) fun k45_3 =>
  if x3 = 0 then (k45_3 0 h2)
  else (k45_3 ((1 : Int32) <<< (l2 &&& 31)) h2))
def fX12_spare (h : Hp) : Option (Int32 × Hp) :=
  itr2 (fX12_spare_l4 (fun y8 h9 => some (y8, h9))) FU 0 0 h
set_option maxHeartbeats 4000000 in
set_option maxRecDepth 100000 in
theorem sX12_spare_l4 (g : GE) (K : Int32 → Hp → Option (Int32 × Hp)) (hK : ∀ (y1 : Int32) (h : Hp), Sim cvi 1 g mX12_spare 7 53 [(1, .int y1)] [] h (K y1 h)) : ∀ (n : Nat) (l1 l2 : Int32) (h : Hp), Sim cvi 1 g mX12_spare 7 4 [(0, rv g 10 0), (1, .int l1), (2, .int l2)] [] h (itr2 (fX12_spare_l4 K) n l1 l2 h) := by
  refine s_itr2 (fun l1 l2 h o => Sim cvi 1 g mX12_spare 7 4 [(0, rv g 10 0), (1, .int l1), (2, .int l2)] [] h o) (fun _ _ _ => s_none) ?_
  intro rec hrec l1 l2 h
  unfold fX12_spare_l4
  refine s_iload_n 2 dX12_spare_4 rfl rfl ?_
  refine s_aload_n 0 dX12_spare_5 rfl rfl ?_
  refine s_geti (s0 := 0) dX12_spare_6 fl_X12_232 ?_
  refine s_icmp_ge (tgt := 53) dX12_spare_9 (by decide) ?_ ?_
  ·
    refine s_sub [1] rfl ?_
    exact hK l1 h
  ·
    refine s_aload_n 0 dX12_spare_12 rfl rfl ?_
    refine s_iconst (v := 1) dX12_spare_13 rfl ?_
    refine s_aload_n 0 dX12_spare_14 rfl rfl ?_
    refine s_geti (s0 := 0) dX12_spare_15 fl_X12_232 ?_
    refine s_ishl dX12_spare_18 ?_
    refine s_iconst (v := 1) dX12_spare_19 rfl ?_
    refine s_isub dX12_spare_20 ?_
    refine s_iconst (v := 1) dX12_spare_21 rfl ?_
    refine s_iload_n 2 dX12_spare_22 rfl rfl ?_
    refine s_ishl dX12_spare_23 ?_
    refine s_iconst (v := (-1)) dX12_spare_24 rfl ?_
    refine s_ixor dX12_spare_25 ?_
    refine s_iand dX12_spare_26 ?_
    refine s_puti (s0 := 0) dX12_spare_27 fl_X12_235 (fun h1 => ?_)
    refine s_iload_n 1 dX12_spare_30 rfl rfl ?_
    refine s_aload_n 0 dX12_spare_31 rfl rfl ?_
    refine s_callVi (s0 := 0) (As := []) (rest := [.int l1]) (cX12_isForever_ok g h1) vl_X12_377 rfl (Nat.le_of_ble_eq_true rfl) (Nat.le_of_ble_eq_true rfl) dX12_spare_32 rfl (fun x3 h2 => ?_)
    refine s_jn (fun (k45_3 : Int32 → Hp → Option (Int32 × Hp)) => ∀ (z0_3 : Int32) (h5 : Hp), Sim cvi 1 g mX12_spare 7 45 [(0, rv g 10 0), (2, .int l2)] [.int z0_3, .int l1] h5 (k45_3 z0_3 h5)) (fun z0_3 h5 => ?_) (fun k45_3 Hk45_3 => ?_)
    ·
      refine s_ior dX12_spare_45 ?_
      refine s_leti (fun x6 => ?_)
      refine s_istore_n (ls' := [(1, .int x6), (0, rv g 10 0), (2, .int l2)]) dX12_spare_46 rfl (by decide) rfl ?_
      refine s_iincl 2 (w := 1) (fun x7 => [(2, .int x7), (1, .int x6), (0, rv g 10 0)]) dX12_spare_47 rfl rfl (by decide) (fun _ => rfl) (fun x7 => ?_)
      refine s_goto (tgt := 4) dX12_spare_50 (by decide) ?_
      refine s_sub [2, 1, 0] rfl ?_
      exact hrec x6 x7 h5
    refine s_if_eq (tgt := 44) dX12_spare_35 (by decide) ?_ ?_
    ·
      refine s_iconst (v := 0) dX12_spare_44 rfl ?_
      refine s_sub [0, 2] rfl ?_
      exact Hk45_3 0 h2
    ·
      refine s_iconst (v := 1) dX12_spare_38 rfl ?_
      refine s_iload_n 2 dX12_spare_39 rfl rfl ?_
      refine s_ishl dX12_spare_40 ?_
      refine s_goto (tgt := 45) dX12_spare_41 (by decide) ?_
      refine s_sub [0, 2] rfl ?_
      exact Hk45_3 ((1 : Int32) <<< (l2 &&& 31)) h2
set_option maxHeartbeats 4000000 in
set_option maxRecDepth 100000 in
theorem cX12_spare_ok (g : GE) (h : Hp) : Con cvi 1 g mX12_spare 7 [rv g 10 0] h (fX12_spare h) := by
  refine Con.of (by decide +kernel) (Nat.le_of_ble_eq_true rfl) ?_
  show Sim cvi 1 g mX12_spare 7 0 [(0, rv g 10 0)] [] h _
  unfold fX12_spare
  refine s_iconst (v := 0) dX12_spare_0 rfl ?_
  refine s_istore_n (ls' := [(1, .int 0), (0, rv g 10 0)]) dX12_spare_1 rfl (by decide) rfl ?_
  refine s_iconst (v := 0) dX12_spare_2 rfl ?_
  refine s_istore_n (ls' := [(2, .int 0), (1, .int 0), (0, rv g 10 0)]) dX12_spare_3 rfl (by decide) rfl ?_
  refine s_sub (ls' := [(0, rv g 10 0), (1, .int 0), (2, .int 0)]) [2, 1, 0] rfl ?_
  refine sX12_spare_l4 g _ (fun y8 h9 => ?_) FU 0 0 h
  refine s_iload_n 0 dX12_spare_53 rfl rfl ?_
  exact s_iret rfl dX12_spare_54
def fX12_speeds_l2 (K : Hp → Option (Int32 × Hp)) (rec : Int32 → Hp → Option (Int32 × Hp)) (l1 : Int32) (h : Hp) : Option (Int32 × Hp) :=
  if (10 : Int32) ≤ l1 then (K h)
  else (lt (wr h 10 0 23 l1) fun h1 =>
  bnd (fX12_isForever h1) fun x3 h2 =>
  if x3 = 0 then (lt (l1 + 1) fun x4 =>
  rec x4 h2)
  else (some (l1, h2)))
def fX12_speeds (h : Hp) : Option (Int32 × Hp) :=
  itr1 (fX12_speeds_l2 (fun h5 => some ((-1), h5))) FU 1 h
set_option maxHeartbeats 4000000 in
set_option maxRecDepth 100000 in
theorem sX12_speeds_l2 (g : GE) (K : Hp → Option (Int32 × Hp)) (hK : ∀ (h : Hp), Sim cvi 1 g mX12_speeds 7 28 [] [] h (K  h)) : ∀ (n : Nat) (l1 : Int32) (h : Hp), Sim cvi 1 g mX12_speeds 7 2 [(0, rv g 10 0), (1, .int l1)] [] h (itr1 (fX12_speeds_l2 K) n l1 h) := by
  refine s_itr1 (fun l1 h o => Sim cvi 1 g mX12_speeds 7 2 [(0, rv g 10 0), (1, .int l1)] [] h o) (fun _ _ => s_none) ?_
  intro rec hrec l1 h
  unfold fX12_speeds_l2
  refine s_iload_n 1 dX12_speeds_2 rfl rfl ?_
  refine s_bipush (v := 10) dX12_speeds_3 rfl ?_
  refine s_icmp_ge (tgt := 28) dX12_speeds_5 (by decide) ?_ ?_
  ·
    refine s_sub [] rfl ?_
    exact hK h
  ·
    refine s_aload_n 0 dX12_speeds_8 rfl rfl ?_
    refine s_iload_n 1 dX12_speeds_9 rfl rfl ?_
    refine s_puti (s0 := 0) dX12_speeds_10 fl_X12_226 (fun h1 => ?_)
    refine s_aload_n 0 dX12_speeds_13 rfl rfl ?_
    refine s_callVi (s0 := 0) (As := []) (rest := []) (cX12_isForever_ok g h1) vl_X12_377 rfl (Nat.le_of_ble_eq_true rfl) (Nat.le_of_ble_eq_true rfl) dX12_speeds_14 rfl (fun x3 h2 => ?_)
    refine s_if_eq (tgt := 22) dX12_speeds_17 (by decide) ?_ ?_
    ·
      refine s_iincl 1 (w := 1) (fun x4 => [(1, .int x4), (0, rv g 10 0)]) dX12_speeds_22 rfl rfl (by decide) (fun _ => rfl) (fun x4 => ?_)
      refine s_goto (tgt := 2) dX12_speeds_25 (by decide) ?_
      refine s_sub [1, 0] rfl ?_
      exact hrec x4 h2
    ·
      refine s_iload_n 1 dX12_speeds_20 rfl rfl ?_
      exact s_iret rfl dX12_speeds_21
set_option maxHeartbeats 4000000 in
set_option maxRecDepth 100000 in
theorem cX12_speeds_ok (g : GE) (h : Hp) : Con cvi 1 g mX12_speeds 7 [rv g 10 0] h (fX12_speeds h) := by
  refine Con.of (by decide +kernel) (Nat.le_of_ble_eq_true rfl) ?_
  show Sim cvi 1 g mX12_speeds 7 0 [(0, rv g 10 0)] [] h _
  unfold fX12_speeds
  refine s_iconst (v := 1) dX12_speeds_0 rfl ?_
  refine s_istore_n (ls' := [(1, .int 1), (0, rv g 10 0)]) dX12_speeds_1 rfl (by decide) rfl ?_
  refine s_sub (ls' := [(0, rv g 10 0), (1, .int 1)]) [1, 0] rfl ?_
  refine sX12_speeds_l2 g _ (fun h5 => ?_) FU 1 h
  refine s_iconst (v := (-1)) dX12_speeds_28 rfl ?_
  exact s_iret rfl dX12_speeds_29
def fX12_starts_l4 (K : Int32 → Hp → Option (Int32 × Hp)) (rec : Int32 → Int32 → Hp → Option (Int32 × Hp)) (l1 l2 : Int32) (h : Hp) : Option (Int32 × Hp) :=
  if (10 : Int32) ≤ l2 then (K l1 h)
  else (lt (wr h 10 0 24 l2) fun h1 =>
  bnd (fX12_isForever h1) fun x3 h2 =>
  jn (κ := Int32 → Hp → Option (Int32 × Hp)) (fun z0_3 h5 => lt (l1 ||| z0_3) fun x6 =>
  lt (l2 + 1) fun x7 =>
  rec x6 x7 h5) fun k30_3 =>
  if x3 = 0 then (k30_3 0 h2)
  else (k30_3 ((1 : Int32) <<< (l2 &&& 31)) h2))
def fX12_starts (h : Hp) : Option (Int32 × Hp) :=
  itr2 (fX12_starts_l4 (fun y8 h9 => some (y8, h9))) FU 0 0 h
set_option maxHeartbeats 4000000 in
set_option maxRecDepth 100000 in
theorem sX12_starts_l4 (g : GE) (K : Int32 → Hp → Option (Int32 × Hp)) (hK : ∀ (y1 : Int32) (h : Hp), Sim cvi 1 g mX12_starts 7 38 [(1, .int y1)] [] h (K y1 h)) : ∀ (n : Nat) (l1 l2 : Int32) (h : Hp), Sim cvi 1 g mX12_starts 7 4 [(0, rv g 10 0), (1, .int l1), (2, .int l2)] [] h (itr2 (fX12_starts_l4 K) n l1 l2 h) := by
  refine s_itr2 (fun l1 l2 h o => Sim cvi 1 g mX12_starts 7 4 [(0, rv g 10 0), (1, .int l1), (2, .int l2)] [] h o) (fun _ _ _ => s_none) ?_
  intro rec hrec l1 l2 h
  unfold fX12_starts_l4
  refine s_iload_n 2 dX12_starts_4 rfl rfl ?_
  refine s_bipush (v := 10) dX12_starts_5 rfl ?_
  refine s_icmp_ge (tgt := 38) dX12_starts_7 (by decide) ?_ ?_
  ·
    refine s_sub [1] rfl ?_
    exact hK l1 h
  ·
    refine s_aload_n 0 dX12_starts_10 rfl rfl ?_
    refine s_iload_n 2 dX12_starts_11 rfl rfl ?_
    refine s_puti (s0 := 0) dX12_starts_12 fl_X12_229 (fun h1 => ?_)
    refine s_iload_n 1 dX12_starts_15 rfl rfl ?_
    refine s_aload_n 0 dX12_starts_16 rfl rfl ?_
    refine s_callVi (s0 := 0) (As := []) (rest := [.int l1]) (cX12_isForever_ok g h1) vl_X12_377 rfl (Nat.le_of_ble_eq_true rfl) (Nat.le_of_ble_eq_true rfl) dX12_starts_17 rfl (fun x3 h2 => ?_)
    refine s_jn (fun (k30_3 : Int32 → Hp → Option (Int32 × Hp)) => ∀ (z0_3 : Int32) (h5 : Hp), Sim cvi 1 g mX12_starts 7 30 [(0, rv g 10 0), (2, .int l2)] [.int z0_3, .int l1] h5 (k30_3 z0_3 h5)) (fun z0_3 h5 => ?_) (fun k30_3 Hk30_3 => ?_)
    ·
      refine s_ior dX12_starts_30 ?_
      refine s_leti (fun x6 => ?_)
      refine s_istore_n (ls' := [(1, .int x6), (0, rv g 10 0), (2, .int l2)]) dX12_starts_31 rfl (by decide) rfl ?_
      refine s_iincl 2 (w := 1) (fun x7 => [(2, .int x7), (1, .int x6), (0, rv g 10 0)]) dX12_starts_32 rfl rfl (by decide) (fun _ => rfl) (fun x7 => ?_)
      refine s_goto (tgt := 4) dX12_starts_35 (by decide) ?_
      refine s_sub [2, 1, 0] rfl ?_
      exact hrec x6 x7 h5
    refine s_if_eq (tgt := 29) dX12_starts_20 (by decide) ?_ ?_
    ·
      refine s_iconst (v := 0) dX12_starts_29 rfl ?_
      refine s_sub [0, 2] rfl ?_
      exact Hk30_3 0 h2
    ·
      refine s_iconst (v := 1) dX12_starts_23 rfl ?_
      refine s_iload_n 2 dX12_starts_24 rfl rfl ?_
      refine s_ishl dX12_starts_25 ?_
      refine s_goto (tgt := 30) dX12_starts_26 (by decide) ?_
      refine s_sub [0, 2] rfl ?_
      exact Hk30_3 ((1 : Int32) <<< (l2 &&& 31)) h2
set_option maxHeartbeats 4000000 in
set_option maxRecDepth 100000 in
theorem cX12_starts_ok (g : GE) (h : Hp) : Con cvi 1 g mX12_starts 7 [rv g 10 0] h (fX12_starts h) := by
  refine Con.of (by decide +kernel) (Nat.le_of_ble_eq_true rfl) ?_
  show Sim cvi 1 g mX12_starts 7 0 [(0, rv g 10 0)] [] h _
  unfold fX12_starts
  refine s_iconst (v := 0) dX12_starts_0 rfl ?_
  refine s_istore_n (ls' := [(1, .int 0), (0, rv g 10 0)]) dX12_starts_1 rfl (by decide) rfl ?_
  refine s_iconst (v := 0) dX12_starts_2 rfl ?_
  refine s_istore_n (ls' := [(2, .int 0), (1, .int 0), (0, rv g 10 0)]) dX12_starts_3 rfl (by decide) rfl ?_
  refine s_sub (ls' := [(0, rv g 10 0), (1, .int 0), (2, .int 0)]) [2, 1, 0] rfl ?_
  refine sX12_starts_l4 g _ (fun y8 h9 => ?_) FU 0 0 h
  refine s_iload_n 0 dX12_starts_38 rfl rfl ?_
  exact s_iret rfl dX12_starts_39
def fX12_need (l1 : Int32) (l2 : Int32) (h : Hp) : Option (Int32 × Hp) :=
  lt (wr h 10 0 0 0) fun h1 =>
  bnd (fX12_hand l1 h1) fun x3 h2 =>
  if x3 = 0 then (some ((-2), h2))
  else (if l2 < 10 then (if l2 = 0 then (bnd (fX12_speeds h2) fun x6 h5 =>
  some (x6, h5))
  else if l2 = 1 then (bnd (fX12_starts h2) fun x9 h8 =>
  some (x9, h8))
  else if l2 = 2 then (bnd (fX12_leave h2) fun x12 h11 =>
  bnd (fX12_ones x12 h11) fun x14 h13 =>
  some (x14, h13))
  else if l2 = 3 then (bnd (fX12_leave h2) fun x17 h16 =>
  some (x17, h16))
  else if l2 = 4 then (bnd (fX12_spare h2) fun x20 h19 =>
  some (x20, h19))
  else if l2 = 5 then (jn (κ := Int32 → Hp → Option (Int32 × Hp)) (fun z0_21 h23 => bnd (fX12_reachedStands z0_21 h23) fun x25 h24 =>
  some (x25, h24)) fun k152_21 =>
  if l2 = 6 then (k152_21 1 h2)
  else (k152_21 0 h2))
  else if l2 = 6 then (jn (κ := Int32 → Hp → Option (Int32 × Hp)) (fun z0_26 h28 => bnd (fX12_reachedStands z0_26 h28) fun x30 h29 =>
  some (x30, h29)) fun k152_26 =>
  if l2 = 6 then (k152_26 1 h2)
  else (k152_26 0 h2))
  else (some ((-2), h2)))
  else (jn (κ := Hp → Option (Int32 × Hp)) (fun h32 => some ((-2), h32)) fun k67_30 =>
  if (30 : Int32) ≤ l2 then (k67_30 h2)
  else (bnd (fX12_isPlate (irm l2 10) h2) fun x34 h33 =>
  if x34 = 0 then (k67_30 h33)
  else (if (20 : Int32) ≤ l2 then (bnd (fX12_movesOf (l2 - (20 : Int32)) h33) fun x36 h35 =>
  some (x36, h35))
  else (bnd (fX12_needOf (l2 - (10 : Int32)) h33) fun x38 h37 =>
  some (x38, h37))))))
set_option maxHeartbeats 4000000 in
set_option maxRecDepth 100000 in
theorem cX12_need_ok (g : GE) (l1 : Int32) (l2 : Int32) (h : Hp) : Con cvi 1 g mX12_need 8 [rv g 10 0, .int l1, .int l2] h (fX12_need l1 l2 h) := by
  refine Con.of (by decide +kernel) (Nat.le_of_ble_eq_true rfl) ?_
  show Sim cvi 1 g mX12_need 8 0 [(0, rv g 10 0), (1, .int l1), (2, .int l2)] [] h _
  unfold fX12_need
  refine s_aload_n 0 dX12_need_0 rfl rfl ?_
  refine s_iconst (v := 0) dX12_need_1 rfl ?_
  refine s_puti (s0 := 0) dX12_need_2 fl_X12_88 (fun h1 => ?_)
  refine s_aload_n 0 dX12_need_5 rfl rfl ?_
  refine s_iload_n 1 dX12_need_6 rfl rfl ?_
  refine s_callVi (s0 := 0) (As := [.int l1]) (rest := []) (cX12_hand_ok g l1 h1) vl_X12_241 rfl (Nat.le_of_ble_eq_true rfl) (Nat.le_of_ble_eq_true rfl) dX12_need_7 rfl (fun x3 h2 => ?_)
  refine s_if_ne (tgt := 16) dX12_need_10 (by decide) ?_ ?_
  ·
    refine s_bipush (v := (-2)) dX12_need_13 rfl ?_
    exact s_iret rfl dX12_need_15
  ·
    refine s_iload_n 2 dX12_need_16 rfl rfl ?_
    refine s_bipush (v := 10) dX12_need_17 rfl ?_
    refine s_icmp_lt (tgt := 70) dX12_need_19 (by decide) ?_ ?_
    ·
      refine s_iload_n 2 dX12_need_70 rfl rfl ?_
      refine s_tab 0 (tgt := 112) dX12_need_71 (by decide) (by decide) rfl (by decide) ?_ (fun e4 => ?_)
      ·
        refine s_aload_n 0 dX12_need_112 rfl rfl ?_
        refine s_callVi (s0 := 0) (As := []) (rest := []) (cX12_speeds_ok g h2) vl_X12_398 rfl (Nat.le_of_ble_eq_true rfl) (Nat.le_of_ble_eq_true rfl) dX12_need_113 rfl (fun x6 h5 => ?_)
        exact s_iret rfl dX12_need_116
      refine s_tab 1 (tgt := 117) dX12_need_71 (by decide) (by decide) rfl (by decide) ?_ (fun e7 => ?_)
      ·
        refine s_aload_n 0 dX12_need_117 rfl rfl ?_
        refine s_callVi (s0 := 0) (As := []) (rest := []) (cX12_starts_ok g h2) vl_X12_401 rfl (Nat.le_of_ble_eq_true rfl) (Nat.le_of_ble_eq_true rfl) dX12_need_118 rfl (fun x9 h8 => ?_)
        exact s_iret rfl dX12_need_121
      refine s_tab 2 (tgt := 122) dX12_need_71 (by decide) (by decide) rfl (by decide) ?_ (fun e10 => ?_)
      ·
        refine s_aload_n 0 dX12_need_122 rfl rfl ?_
        refine s_callVi (s0 := 0) (As := []) (rest := []) (cX12_leave_ok g h2) vl_X12_404 rfl (Nat.le_of_ble_eq_true rfl) (Nat.le_of_ble_eq_true rfl) dX12_need_123 rfl (fun x12 h11 => ?_)
        refine s_callSi (As := [.int x12]) (rest := []) (cX12_ones_ok g x12 h11) sl_X12_389 rfl (Nat.le_of_ble_eq_true rfl) (Nat.le_of_ble_eq_true rfl) dX12_need_126 rfl (fun x14 h13 => ?_)
        exact s_iret rfl dX12_need_129
      refine s_tab 3 (tgt := 130) dX12_need_71 (by decide) (by decide) rfl (by decide) ?_ (fun e15 => ?_)
      ·
        refine s_aload_n 0 dX12_need_130 rfl rfl ?_
        refine s_callVi (s0 := 0) (As := []) (rest := []) (cX12_leave_ok g h2) vl_X12_404 rfl (Nat.le_of_ble_eq_true rfl) (Nat.le_of_ble_eq_true rfl) dX12_need_131 rfl (fun x17 h16 => ?_)
        exact s_iret rfl dX12_need_134
      refine s_tab 4 (tgt := 135) dX12_need_71 (by decide) (by decide) rfl (by decide) ?_ (fun e18 => ?_)
      ·
        refine s_aload_n 0 dX12_need_135 rfl rfl ?_
        refine s_callVi (s0 := 0) (As := []) (rest := []) (cX12_spare_ok g h2) vl_X12_407 rfl (Nat.le_of_ble_eq_true rfl) (Nat.le_of_ble_eq_true rfl) dX12_need_136 rfl (fun x20 h19 => ?_)
        exact s_iret rfl dX12_need_139
      refine s_tab 5 (tgt := 140) dX12_need_71 (by decide) (by decide) rfl (by decide) ?_ (fun e21 => ?_)
      ·
        refine s_aload_n 0 dX12_need_140 rfl rfl ?_
        refine s_iload_n 2 dX12_need_141 rfl rfl ?_
        refine s_bipush (v := 6) dX12_need_142 rfl ?_
        refine s_jn (fun (k152_21 : Int32 → Hp → Option (Int32 × Hp)) => ∀ (z0_21 : Int32) (h23 : Hp), Sim cvi 1 g mX12_need 8 152 [] [.int z0_21, rv g 10 0] h23 (k152_21 z0_21 h23)) (fun z0_21 h23 => ?_) (fun k152_21 Hk152_21 => ?_)
        ·
          refine s_callVi (s0 := 0) (As := [.int z0_21]) (rest := []) (cX12_reachedStands_ok g z0_21 h23) vl_X12_410 rfl (Nat.le_of_ble_eq_true rfl) (Nat.le_of_ble_eq_true rfl) dX12_need_152 rfl (fun x25 h24 => ?_)
          exact s_iret rfl dX12_need_155
        refine s_icmp_ne (tgt := 151) dX12_need_144 (by decide) ?_ ?_
        ·
          refine s_iconst (v := 1) dX12_need_147 rfl ?_
          refine s_goto (tgt := 152) dX12_need_148 (by decide) ?_
          refine s_sub [] rfl ?_
          exact Hk152_21 1 h2
        ·
          refine s_iconst (v := 0) dX12_need_151 rfl ?_
          refine s_sub [] rfl ?_
          exact Hk152_21 0 h2
      refine s_tab 6 (tgt := 140) dX12_need_71 (by decide) (by decide) rfl (by decide) ?_ (fun e26 => ?_)
      ·
        refine s_aload_n 0 dX12_need_140 rfl rfl ?_
        refine s_iload_n 2 dX12_need_141 rfl rfl ?_
        refine s_bipush (v := 6) dX12_need_142 rfl ?_
        refine s_jn (fun (k152_26 : Int32 → Hp → Option (Int32 × Hp)) => ∀ (z0_26 : Int32) (h28 : Hp), Sim cvi 1 g mX12_need 8 152 [] [.int z0_26, rv g 10 0] h28 (k152_26 z0_26 h28)) (fun z0_26 h28 => ?_) (fun k152_26 Hk152_26 => ?_)
        ·
          refine s_callVi (s0 := 0) (As := [.int z0_26]) (rest := []) (cX12_reachedStands_ok g z0_26 h28) vl_X12_410 rfl (Nat.le_of_ble_eq_true rfl) (Nat.le_of_ble_eq_true rfl) dX12_need_152 rfl (fun x30 h29 => ?_)
          exact s_iret rfl dX12_need_155
        refine s_icmp_ne (tgt := 151) dX12_need_144 (by decide) ?_ ?_
        ·
          refine s_iconst (v := 1) dX12_need_147 rfl ?_
          refine s_goto (tgt := 152) dX12_need_148 (by decide) ?_
          refine s_sub [] rfl ?_
          exact Hk152_26 1 h2
        ·
          refine s_iconst (v := 0) dX12_need_151 rfl ?_
          refine s_sub [] rfl ?_
          exact Hk152_26 0 h2
      have e4 := lv_neT e4 (show (0 : Int32).toInt = 0 from rfl)
      have e7 := lv_neT e7 (show (1 : Int32).toInt = 1 from rfl)
      have e10 := lv_neT e10 (show (2 : Int32).toInt = 2 from rfl)
      have e15 := lv_neT e15 (show (3 : Int32).toInt = 3 from rfl)
      have e18 := lv_neT e18 (show (4 : Int32).toInt = 4 from rfl)
      have e21 := lv_neT e21 (show (5 : Int32).toInt = 5 from rfl)
      have e26 := lv_neT e26 (show (6 : Int32).toInt = 6 from rfl)
      refine s_tabd (tgt := 156) dX12_need_71 (by omega) (by decide) ?_
      refine s_bipush (v := (-2)) dX12_need_156 rfl ?_
      exact s_iret rfl dX12_need_158
    ·
      refine s_iload_n 2 dX12_need_22 rfl rfl ?_
      refine s_bipush (v := 30) dX12_need_23 rfl ?_
      refine s_jn (fun (k67_30 : Hp → Option (Int32 × Hp)) => ∀ (h32 : Hp), Sim cvi 1 g mX12_need 8 67 [] [] h32 (k67_30 h32)) (fun h32 => ?_) (fun k67_30 Hk67_30 => ?_)
      ·
        refine s_bipush (v := (-2)) dX12_need_67 rfl ?_
        exact s_iret rfl dX12_need_69
      refine s_icmp_ge (tgt := 67) dX12_need_25 (by decide) ?_ ?_
      ·
        refine s_sub [] rfl ?_
        exact Hk67_30 h2
      ·
        refine s_aload_n 0 dX12_need_28 rfl rfl ?_
        refine s_iload_n 2 dX12_need_29 rfl rfl ?_
        refine s_bipush (v := 10) dX12_need_30 rfl ?_
        refine s_iremc dX12_need_32 (by decide) ?_
        refine s_callVi (s0 := 0) (As := [.int (irm l2 10)]) (rest := []) (cX12_isPlate_ok g (irm l2 10) h2) vl_X12_244 rfl (Nat.le_of_ble_eq_true rfl) (Nat.le_of_ble_eq_true rfl) dX12_need_33 rfl (fun x34 h33 => ?_)
        refine s_if_eq (tgt := 67) dX12_need_36 (by decide) ?_ ?_
        ·
          refine s_sub [] rfl ?_
          exact Hk67_30 h33
        ·
          refine s_iload_n 2 dX12_need_39 rfl rfl ?_
          refine s_bipush (v := 20) dX12_need_40 rfl ?_
          refine s_icmp_ge (tgt := 56) dX12_need_42 (by decide) ?_ ?_
          ·
            refine s_aload_n 0 dX12_need_56 rfl rfl ?_
            refine s_iload_n 2 dX12_need_57 rfl rfl ?_
            refine s_bipush (v := 20) dX12_need_58 rfl ?_
            refine s_isub dX12_need_60 ?_
            refine s_callVi (s0 := 0) (As := [.int (l2 - (20 : Int32))]) (rest := []) (cX12_movesOf_ok g (l2 - (20 : Int32)) h33) vl_X12_395 rfl (Nat.le_of_ble_eq_true rfl) (Nat.le_of_ble_eq_true rfl) dX12_need_61 rfl (fun x36 h35 => ?_)
            refine s_goto (tgt := 69) dX12_need_64 (by decide) ?_
            exact s_iret rfl dX12_need_69
          ·
            refine s_aload_n 0 dX12_need_45 rfl rfl ?_
            refine s_iload_n 2 dX12_need_46 rfl rfl ?_
            refine s_bipush (v := 10) dX12_need_47 rfl ?_
            refine s_isub dX12_need_49 ?_
            refine s_callVi (s0 := 0) (As := [.int (l2 - (10 : Int32))]) (rest := []) (cX12_needOf_ok g (l2 - (10 : Int32)) h33) vl_X12_392 rfl (Nat.le_of_ble_eq_true rfl) (Nat.le_of_ble_eq_true rfl) dX12_need_50 rfl (fun x38 h37 => ?_)
            refine s_goto (tgt := 69) dX12_need_53 (by decide) ?_
            exact s_iret rfl dX12_need_69
def fX12_odds_l53 (l2 : Int32) (l3 : Int32) (l4 : Int32) (K : Int32 → Hp → Option (Int32 × Hp)) (rec : Int32 → Int32 → Int32 → Hp → Option (Int32 × Hp)) (l6 l7 l8 : Int32) (h : Hp) : Option (Int32 × Hp) :=
  if l4 < l8 then (K l6 h)
  else (ck (ib l2 5) (
  jn (κ := Int32 → Hp → Option (Int32 × Hp)) (fun z0_9 h11 => lt (l6 + z0_9) fun x12 =>
  ck (!decide ((l8 + (1 : Int32)) = 0)) (
  lt ((l7 * (l4 - l8)) / (l8 + (1 : Int32))) fun x13 =>
  lt (l8 + 1) fun x14 =>
  rec x12 x13 x14 h11)) fun k102_9 =>
  if (ra h 55 0 l2) ≤ (l4 + l8) then (k102_9 0 h)
  else (bnd (fX12_times l3 l8 h) fun x16 h15 =>
  bnd (fX12_times ((10 : Int32) - l3) (l4 - l8) h15) fun x18 h17 =>
  k102_9 ((l7 * x16) * x18) h17)))
def fX12_odds (l1 : Int32) (l2 : Int32) (l3 : Int32) (l4 : Int32) (l5 : Int32) (h : Hp) : Option (Int32 × Hp) :=
  lt (wr h 10 0 0 0) fun h1 =>
  bnd (fX12_in l3 0 10 h1) fun x3 h2 =>
  if x3 = 0 then (some ((-1), h2))
  else (bnd (fX12_in l4 0 6 h2) fun x5 h4 =>
  if x5 = 0 then (some ((-1), h4))
  else (bnd (fX12_hand l1 h4) fun x7 h6 =>
  if x7 = 0 then (some ((-1), h6))
  else (bnd (fX12_isPlate l2 h6) fun x9 h8 =>
  if x9 = 0 then (some ((-1), h8))
  else (itr3 (fX12_odds_l53 l2 l3 l4 (fun y19 h20 => bnd (fX12_times 10 l4 h20) fun x22 h21 =>
  bnd (fX12_part y19 x22 l5 h21) fun x24 h23 =>
  some (x24, h23))) FU 0 1 0 h8))))
set_option maxHeartbeats 4000000 in
set_option maxRecDepth 100000 in
theorem sX12_odds_l53 (g : GE) (l2 : Int32) (l3 : Int32) (l4 : Int32) (l5 : Int32) (K : Int32 → Hp → Option (Int32 × Hp)) (hK : ∀ (y6 : Int32) (h : Hp), Sim cvi 1 g mX12_odds 5 126 [(4, .int l4), (5, .int l5), (6, .int y6)] [] h (K y6 h)) : ∀ (n : Nat) (l6 l7 l8 : Int32) (h : Hp), Sim cvi 1 g mX12_odds 5 53 [(0, rv g 10 0), (2, .int l2), (3, .int l3), (4, .int l4), (5, .int l5), (6, .int l6), (7, .int l7), (8, .int l8)] [] h (itr3 (fX12_odds_l53 l2 l3 l4 K) n l6 l7 l8 h) := by
  refine s_itr3 (fun l6 l7 l8 h o => Sim cvi 1 g mX12_odds 5 53 [(0, rv g 10 0), (2, .int l2), (3, .int l3), (4, .int l4), (5, .int l5), (6, .int l6), (7, .int l7), (8, .int l8)] [] h o) (fun _ _ _ _ => s_none) ?_
  intro rec hrec l6 l7 l8 h
  unfold fX12_odds_l53
  refine s_iload 7 dX12_odds_53 rfl ?_
  refine s_iload 3 dX12_odds_55 rfl ?_
  refine s_icmp_gt (tgt := 126) dX12_odds_57 (by decide) ?_ ?_
  ·
    refine s_sub [3, 4, 5] rfl ?_
    exact hK l6 h
  ·
    refine s_iload 5 dX12_odds_60 rfl ?_
    refine s_aload_n 0 dX12_odds_62 rfl rfl ?_
    refine s_getr (s0 := 0) dX12_odds_63 fl_X12_47 ?_
    refine s_iload_n 1 dX12_odds_66 rfl rfl ?_
    refine s_iald (s0 := 0) ka_55 dX12_odds_67 ?_
    refine s_iload 3 dX12_odds_68 rfl ?_
    refine s_iload 7 dX12_odds_70 rfl ?_
    refine s_iadd dX12_odds_72 ?_
    refine s_jn (fun (k102_9 : Int32 → Hp → Option (Int32 × Hp)) => ∀ (z0_9 : Int32) (h11 : Hp), Sim cvi 1 g mX12_odds 5 102 [(0, rv g 10 0), (2, .int l2), (3, .int l3), (4, .int l4), (5, .int l5), (7, .int l7), (8, .int l8)] [.int z0_9, .int l6] h11 (k102_9 z0_9 h11)) (fun z0_9 h11 => ?_) (fun k102_9 Hk102_9 => ?_)
    ·
      refine s_iadd dX12_odds_102 ?_
      refine s_leti (fun x12 => ?_)
      refine s_istore (ls' := [(6, .int x12), (0, rv g 10 0), (2, .int l2), (3, .int l3), (4, .int l4), (5, .int l5), (7, .int l7), (8, .int l8)]) dX12_odds_103 (by decide) rfl ?_
      refine s_iload 6 dX12_odds_105 rfl ?_
      refine s_iload 4 dX12_odds_107 rfl ?_
      refine s_iload 7 dX12_odds_109 rfl ?_
      refine s_isub dX12_odds_111 ?_
      refine s_imul dX12_odds_112 ?_
      refine s_iload 7 dX12_odds_113 rfl ?_
      refine s_iconst (v := 1) dX12_odds_115 rfl ?_
      refine s_iadd dX12_odds_116 ?_
      refine s_idiv dX12_odds_117 ?_
      refine s_leti (fun x13 => ?_)
      refine s_istore (ls' := [(7, .int x13), (6, .int x12), (0, rv g 10 0), (2, .int l2), (3, .int l3), (4, .int l4), (5, .int l5), (8, .int l8)]) dX12_odds_118 (by decide) rfl ?_
      refine s_iincl 7 (w := 1) (fun x14 => [(8, .int x14), (7, .int x13), (6, .int x12), (0, rv g 10 0), (2, .int l2), (3, .int l3), (4, .int l4), (5, .int l5)]) dX12_odds_120 rfl rfl (by decide) (fun _ => rfl) (fun x14 => ?_)
      refine s_goto (tgt := 53) dX12_odds_123 (by decide) ?_
      refine s_sub [3, 4, 5, 6, 7, 2, 1, 0] rfl ?_
      exact hrec x12 x13 x14 h11
    refine s_icmp_le (tgt := 101) dX12_odds_73 (by decide) ?_ ?_
    ·
      refine s_iconst (v := 0) dX12_odds_101 rfl ?_
      refine s_sub [0, 1, 2, 3, 4, 6, 7] rfl ?_
      exact Hk102_9 0 h
    ·
      refine s_iload 6 dX12_odds_76 rfl ?_
      refine s_iload_n 2 dX12_odds_78 rfl rfl ?_
      refine s_iload 7 dX12_odds_79 rfl ?_
      refine s_callSi (As := [.int l3, .int l8]) (rest := [.int l7, .int l6]) (cX12_times_ok g l3 l8 h) sl_X12_437 rfl (Nat.le_of_ble_eq_true rfl) (Nat.le_of_ble_eq_true rfl) dX12_odds_81 rfl (fun x16 h15 => ?_)
      refine s_imul dX12_odds_84 ?_
      refine s_bipush (v := 10) dX12_odds_85 rfl ?_
      refine s_iload_n 2 dX12_odds_87 rfl rfl ?_
      refine s_isub dX12_odds_88 ?_
      refine s_iload 3 dX12_odds_89 rfl ?_
      refine s_iload 7 dX12_odds_91 rfl ?_
      refine s_isub dX12_odds_93 ?_
      refine s_callSi (As := [.int ((10 : Int32) - l3), .int (l4 - l8)]) (rest := [.int (l7 * x16), .int l6]) (cX12_times_ok g ((10 : Int32) - l3) (l4 - l8) h15) sl_X12_437 rfl (Nat.le_of_ble_eq_true rfl) (Nat.le_of_ble_eq_true rfl) dX12_odds_94 rfl (fun x18 h17 => ?_)
      refine s_imul dX12_odds_97 ?_
      refine s_goto (tgt := 102) dX12_odds_98 (by decide) ?_
      refine s_sub [0, 1, 2, 3, 4, 6, 7] rfl ?_
      exact Hk102_9 ((l7 * x16) * x18) h17
set_option maxHeartbeats 4000000 in
set_option maxRecDepth 100000 in
theorem cX12_odds_ok (g : GE) (l1 : Int32) (l2 : Int32) (l3 : Int32) (l4 : Int32) (l5 : Int32) (h : Hp) : Con cvi 1 g mX12_odds 5 [rv g 10 0, .int l1, .int l2, .int l3, .int l4, .int l5] h (fX12_odds l1 l2 l3 l4 l5 h) := by
  refine Con.of (by decide +kernel) (Nat.le_of_ble_eq_true rfl) ?_
  show Sim cvi 1 g mX12_odds 5 0 [(0, rv g 10 0), (1, .int l1), (2, .int l2), (3, .int l3), (4, .int l4), (5, .int l5)] [] h _
  unfold fX12_odds
  refine s_aload_n 0 dX12_odds_0 rfl rfl ?_
  refine s_iconst (v := 0) dX12_odds_1 rfl ?_
  refine s_puti (s0 := 0) dX12_odds_2 fl_X12_88 (fun h1 => ?_)
  refine s_iload_n 3 dX12_odds_5 rfl rfl ?_
  refine s_iconst (v := 0) dX12_odds_6 rfl ?_
  refine s_bipush (v := 10) dX12_odds_7 rfl ?_
  refine s_callSi (As := [.int l3, .int 0, .int 10]) (rest := []) (cX12_in_ok g l3 0 10 h1) sl_X12_100 rfl (Nat.le_of_ble_eq_true rfl) (Nat.le_of_ble_eq_true rfl) dX12_odds_9 rfl (fun x3 h2 => ?_)
  refine s_if_eq (tgt := 42) dX12_odds_12 (by decide) ?_ ?_
  ·
    refine s_iconst (v := (-1)) dX12_odds_42 rfl ?_
    exact s_iret rfl dX12_odds_43
  ·
    refine s_iload 4 dX12_odds_15 rfl ?_
    refine s_iconst (v := 0) dX12_odds_17 rfl ?_
    refine s_bipush (v := 6) dX12_odds_18 rfl ?_
    refine s_callSi (As := [.int l4, .int 0, .int 6]) (rest := []) (cX12_in_ok g l4 0 6 h2) sl_X12_100 rfl (Nat.le_of_ble_eq_true rfl) (Nat.le_of_ble_eq_true rfl) dX12_odds_20 rfl (fun x5 h4 => ?_)
    refine s_if_eq (tgt := 42) dX12_odds_23 (by decide) ?_ ?_
    ·
      refine s_iconst (v := (-1)) dX12_odds_42 rfl ?_
      exact s_iret rfl dX12_odds_43
    ·
      refine s_aload_n 0 dX12_odds_26 rfl rfl ?_
      refine s_iload_n 1 dX12_odds_27 rfl rfl ?_
      refine s_callVi (s0 := 0) (As := [.int l1]) (rest := []) (cX12_hand_ok g l1 h4) vl_X12_241 rfl (Nat.le_of_ble_eq_true rfl) (Nat.le_of_ble_eq_true rfl) dX12_odds_28 rfl (fun x7 h6 => ?_)
      refine s_if_eq (tgt := 42) dX12_odds_31 (by decide) ?_ ?_
      ·
        refine s_iconst (v := (-1)) dX12_odds_42 rfl ?_
        exact s_iret rfl dX12_odds_43
      ·
        refine s_aload_n 0 dX12_odds_34 rfl rfl ?_
        refine s_iload_n 2 dX12_odds_35 rfl rfl ?_
        refine s_callVi (s0 := 0) (As := [.int l2]) (rest := []) (cX12_isPlate_ok g l2 h6) vl_X12_244 rfl (Nat.le_of_ble_eq_true rfl) (Nat.le_of_ble_eq_true rfl) dX12_odds_36 rfl (fun x9 h8 => ?_)
        refine s_if_ne (tgt := 44) dX12_odds_39 (by decide) ?_ ?_
        ·
          refine s_iconst (v := (-1)) dX12_odds_42 rfl ?_
          exact s_iret rfl dX12_odds_43
        ·
          refine s_iconst (v := 0) dX12_odds_44 rfl ?_
          refine s_istore (ls' := [(6, .int 0), (0, rv g 10 0), (1, .int l1), (2, .int l2), (3, .int l3), (4, .int l4), (5, .int l5)]) dX12_odds_45 (by decide) rfl ?_
          refine s_iconst (v := 1) dX12_odds_47 rfl ?_
          refine s_istore (ls' := [(7, .int 1), (6, .int 0), (0, rv g 10 0), (1, .int l1), (2, .int l2), (3, .int l3), (4, .int l4), (5, .int l5)]) dX12_odds_48 (by decide) rfl ?_
          refine s_iconst (v := 0) dX12_odds_50 rfl ?_
          refine s_istore (ls' := [(8, .int 0), (7, .int 1), (6, .int 0), (0, rv g 10 0), (1, .int l1), (2, .int l2), (3, .int l3), (4, .int l4), (5, .int l5)]) dX12_odds_51 (by decide) rfl ?_
          refine s_sub (ls' := [(0, rv g 10 0), (2, .int l2), (3, .int l3), (4, .int l4), (5, .int l5), (6, .int 0), (7, .int 1), (8, .int 0)]) [3, 5, 6, 7, 8, 2, 1, 0] rfl ?_
          refine sX12_odds_l53 g l2 l3 l4 l5 _ (fun y19 h20 => ?_) FU 0 1 0 h8
          refine s_iload 2 dX12_odds_126 rfl ?_
          refine s_bipush (v := 10) dX12_odds_128 rfl ?_
          refine s_iload 0 dX12_odds_130 rfl ?_
          refine s_callSi (As := [.int 10, .int l4]) (rest := [.int y19]) (cX12_times_ok g 10 l4 h20) sl_X12_437 rfl (Nat.le_of_ble_eq_true rfl) (Nat.le_of_ble_eq_true rfl) dX12_odds_132 rfl (fun x22 h21 => ?_)
          refine s_iload 1 dX12_odds_135 rfl ?_
          refine s_callSi (As := [.int y19, .int x22, .int l5]) (rest := []) (cX12_part_ok g y19 x22 l5 h21) sl_X12_440 rfl (Nat.le_of_ble_eq_true rfl) (Nat.le_of_ble_eq_true rfl) dX12_odds_137 rfl (fun x24 h23 => ?_)
          exact s_iret rfl dX12_odds_140
