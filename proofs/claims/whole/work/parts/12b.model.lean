def fX12_beginShow_l54 (K : Hp → Option (Unit × Hp)) (rec : Int32 → Hp → Option (Unit × Hp)) (l1 : Int32) (h : Hp) : Option (Unit × Hp) :=
  if (5 : Int32) ≤ l1 then (K h)
  else (ck (ib l1 5) (
  ck (ib l1 5) (lt (wa h 63 0 l1 (ra h 55 0 l1)) fun h11 =>
  ck (ib l1 5) (lt (wa h11 56 0 l1 0) fun h12 =>
  lt (l1 + 1) fun x13 =>
  rec x13 h12))))
def fX12_beginShow (h : Hp) : Option (Unit × Hp) :=
  bnd (fX12_asTold h) fun _ h1 =>
  lt (wr h1 10 0 29 (rd h1 10 0 24)) fun h2 =>
  lt (wr h2 10 0 30 0) fun h3 =>
  lt (wr h3 10 0 31 0) fun h4 =>
  lt (wr h4 10 0 32 0) fun h5 =>
  lt (wr h5 10 0 33 0) fun h6 =>
  lt (wr h6 10 0 34 0) fun h7 =>
  lt (wr h7 10 0 35 0) fun h8 =>
  lt (wr h8 10 0 36 0) fun h9 =>
  lt (wr h9 10 0 37 0) fun h10 =>
  itr1 (fX12_beginShow_l54 (fun h14 => bnd (fX12_standNow h14) fun x16 h15 =>
  ck (ib 0 64) (lt (wa h15 57 0 0 x16) fun h17 =>
  some ((), h17)))) FU 0 h10
set_option maxHeartbeats 4000000 in
set_option maxRecDepth 100000 in
theorem sX12_beginShow_l54 (g : GE) (K : Hp → Option (Unit × Hp)) (hK : ∀ (h : Hp), Sim cvv 1 g mX12_beginShow 4 84 [(0, rv g 10 0)] [] h (K  h)) : ∀ (n : Nat) (l1 : Int32) (h : Hp), Sim cvv 1 g mX12_beginShow 4 54 [(0, rv g 10 0), (1, .int l1)] [] h (itr1 (fX12_beginShow_l54 K) n l1 h) := by
  refine s_itr1 (fun l1 h o => Sim cvv 1 g mX12_beginShow 4 54 [(0, rv g 10 0), (1, .int l1)] [] h o) (fun _ _ => s_none) ?_
  intro rec hrec l1 h
  unfold fX12_beginShow_l54
  refine s_iload_n 1 dX12_beginShow_54 rfl rfl ?_
  refine s_iconst (v := 5) dX12_beginShow_55 rfl ?_
  refine s_icmp_ge (tgt := 84) dX12_beginShow_56 (by decide) ?_ ?_
  ·
    refine s_sub [0] rfl ?_
    exact hK h
  ·
    refine s_aload_n 0 dX12_beginShow_59 rfl rfl ?_
    refine s_getr (s0 := 0) dX12_beginShow_60 fl_X12_72 ?_
    refine s_iload_n 1 dX12_beginShow_63 rfl rfl ?_
    refine s_aload_n 0 dX12_beginShow_64 rfl rfl ?_
    refine s_getr (s0 := 0) dX12_beginShow_65 fl_X12_47 ?_
    refine s_iload_n 1 dX12_beginShow_68 rfl rfl ?_
    refine s_iald (s0 := 0) ka_55 dX12_beginShow_69 ?_
    refine s_iast (s0 := 0) ka_63 dX12_beginShow_70 (fun h11 => ?_)
    refine s_aload_n 0 dX12_beginShow_71 rfl rfl ?_
    refine s_getr (s0 := 0) dX12_beginShow_72 fl_X12_50 ?_
    refine s_iload_n 1 dX12_beginShow_75 rfl rfl ?_
    refine s_iconst (v := 0) dX12_beginShow_76 rfl ?_
    refine s_iast (s0 := 0) ka_56 dX12_beginShow_77 (fun h12 => ?_)
    refine s_iincl 1 (w := 1) (fun x13 => [(1, .int x13), (0, rv g 10 0)]) dX12_beginShow_78 rfl rfl (by decide) (fun _ => rfl) (fun x13 => ?_)
    refine s_goto (tgt := 54) dX12_beginShow_81 (by decide) ?_
    refine s_sub [1, 0] rfl ?_
    exact hrec x13 h12
set_option maxHeartbeats 4000000 in
set_option maxRecDepth 100000 in
theorem cX12_beginShow_ok (g : GE) (h : Hp) : Con cvv 1 g mX12_beginShow 4 [rv g 10 0] h (fX12_beginShow h) := by
  refine Con.of (by decide +kernel) (Nat.le_of_ble_eq_true rfl) ?_
  show Sim cvv 1 g mX12_beginShow 4 0 [(0, rv g 10 0)] [] h _
  unfold fX12_beginShow
  refine s_aload_n 0 dX12_beginShow_0 rfl rfl ?_
  refine s_callVv (s0 := 0) (As := []) (rest := []) (cX12_asTold_ok g h) vl_X12_238 rfl (Nat.le_of_ble_eq_true rfl) (Nat.le_of_ble_eq_true rfl) dX12_beginShow_1 rfl (fun h1 => ?_)
  refine s_aload_n 0 dX12_beginShow_4 rfl rfl ?_
  refine s_aload_n 0 dX12_beginShow_5 rfl rfl ?_
  refine s_geti (s0 := 0) dX12_beginShow_6 fl_X12_229 ?_
  refine s_puti (s0 := 0) dX12_beginShow_9 fl_X12_247 (fun h2 => ?_)
  refine s_aload_n 0 dX12_beginShow_12 rfl rfl ?_
  refine s_iconst (v := 0) dX12_beginShow_13 rfl ?_
  refine s_puti (s0 := 0) dX12_beginShow_14 fl_X12_250 (fun h3 => ?_)
  refine s_aload_n 0 dX12_beginShow_17 rfl rfl ?_
  refine s_iconst (v := 0) dX12_beginShow_18 rfl ?_
  refine s_puti (s0 := 0) dX12_beginShow_19 fl_X12_253 (fun h4 => ?_)
  refine s_aload_n 0 dX12_beginShow_22 rfl rfl ?_
  refine s_iconst (v := 0) dX12_beginShow_23 rfl ?_
  refine s_puti (s0 := 0) dX12_beginShow_24 fl_X12_256 (fun h5 => ?_)
  refine s_aload_n 0 dX12_beginShow_27 rfl rfl ?_
  refine s_iconst (v := 0) dX12_beginShow_28 rfl ?_
  refine s_puti (s0 := 0) dX12_beginShow_29 fl_X12_259 (fun h6 => ?_)
  refine s_aload_n 0 dX12_beginShow_32 rfl rfl ?_
  refine s_iconst (v := 0) dX12_beginShow_33 rfl ?_
  refine s_puti (s0 := 0) dX12_beginShow_34 fl_X12_262 (fun h7 => ?_)
  refine s_aload_n 0 dX12_beginShow_37 rfl rfl ?_
  refine s_iconst (v := 0) dX12_beginShow_38 rfl ?_
  refine s_puti (s0 := 0) dX12_beginShow_39 fl_X12_265 (fun h8 => ?_)
  refine s_aload_n 0 dX12_beginShow_42 rfl rfl ?_
  refine s_iconst (v := 0) dX12_beginShow_43 rfl ?_
  refine s_puti (s0 := 0) dX12_beginShow_44 fl_X12_268 (fun h9 => ?_)
  refine s_aload_n 0 dX12_beginShow_47 rfl rfl ?_
  refine s_iconst (v := 0) dX12_beginShow_48 rfl ?_
  refine s_puti (s0 := 0) dX12_beginShow_49 fl_X12_271 (fun h10 => ?_)
  refine s_iconst (v := 0) dX12_beginShow_52 rfl ?_
  refine s_istore_n (ls' := [(1, .int 0), (0, rv g 10 0)]) dX12_beginShow_53 rfl (by decide) rfl ?_
  refine s_sub (ls' := [(0, rv g 10 0), (1, .int 0)]) [1, 0] rfl ?_
  refine sX12_beginShow_l54 g _ (fun h14 => ?_) FU 0 h10
  refine s_aload_n 0 dX12_beginShow_84 rfl rfl ?_
  refine s_getr (s0 := 0) dX12_beginShow_85 fl_X12_53 ?_
  refine s_iconst (v := 0) dX12_beginShow_88 rfl ?_
  refine s_aload_n 0 dX12_beginShow_89 rfl rfl ?_
  refine s_callVi (s0 := 0) (As := []) (rest := [.int 0, rv g 57 0]) (cX12_standNow_ok g h14) vl_X12_274 rfl (Nat.le_of_ble_eq_true rfl) (Nat.le_of_ble_eq_true rfl) dX12_beginShow_90 rfl (fun x16 h15 => ?_)
  refine s_iast (s0 := 0) ka_57 dX12_beginShow_93 (fun h17 => ?_)
  exact s_vret rfl dX12_beginShow_94
def fX12_is (l1 : Int32) (l2 : Int32) (h : Hp) : Option (Int32 × Hp) :=
  ck (ib l1 12) (
  bnd (fX12_in l2 0 ((ra h 47 0 l1) - (1 : Int32)) h) fun x2 h1 =>
  ck (zk x2) (some (x2, h1)))
set_option maxHeartbeats 4000000 in
set_option maxRecDepth 100000 in
theorem cX12_is_ok (g : GE) (l1 : Int32) (l2 : Int32) (h : Hp) : Con cvi 1 g mX12_is 3 [rv g 10 0, .int l1, .int l2] h (fX12_is l1 l2 h) := by
  refine Con.of (by decide +kernel) (Nat.le_of_ble_eq_true rfl) ?_
  show Sim cvi 1 g mX12_is 3 0 [(0, rv g 10 0), (1, .int l1), (2, .int l2)] [] h _
  unfold fX12_is
  refine s_iload_n 2 dX12_is_0 rfl rfl ?_
  refine s_iconst (v := 0) dX12_is_1 rfl ?_
  refine s_aload_n 0 dX12_is_2 rfl rfl ?_
  refine s_getr (s0 := 0) dX12_is_3 fl_X12_23 ?_
  refine s_iload_n 1 dX12_is_6 rfl rfl ?_
  refine s_iald (s0 := 0) ka_47 dX12_is_7 ?_
  refine s_iconst (v := 1) dX12_is_8 rfl ?_
  refine s_isub dX12_is_9 ?_
  refine s_callSi (As := [.int l2, .int 0, .int ((ra h 47 0 l1) - (1 : Int32))]) (rest := []) (cX12_in_ok g l2 0 ((ra h 47 0 l1) - (1 : Int32)) h) sl_X12_100 rfl (Nat.le_of_ble_eq_true rfl) (Nat.le_of_ble_eq_true rfl) dX12_is_10 rfl (fun x2 h1 => ?_)
  exact s_zret rfl dX12_is_13
def fX12_hand (l1 : Int32) (h : Hp) : Option (Int32 × Hp) :=
  bnd (fX12_is 0 l1 h) fun x2 h1 =>
  if x2 = 0 then (ck (zk 0) (some (0, h1)))
  else (lt (wr h1 10 0 21 l1) fun h3 =>
  bnd (fX12_asTold h3) fun _ h4 =>
  ck (zk 1) (some (1, h4)))
set_option maxHeartbeats 4000000 in
set_option maxRecDepth 100000 in
theorem cX12_hand_ok (g : GE) (l1 : Int32) (h : Hp) : Con cvi 1 g mX12_hand 4 [rv g 10 0, .int l1] h (fX12_hand l1 h) := by
  refine Con.of (by decide +kernel) (Nat.le_of_ble_eq_true rfl) ?_
  show Sim cvi 1 g mX12_hand 4 0 [(0, rv g 10 0), (1, .int l1)] [] h _
  unfold fX12_hand
  refine s_aload_n 0 dX12_hand_0 rfl rfl ?_
  refine s_iconst (v := 0) dX12_hand_1 rfl ?_
  refine s_iload_n 1 dX12_hand_2 rfl rfl ?_
  refine s_callVi (s0 := 0) (As := [.int 0, .int l1]) (rest := []) (cX12_is_ok g 0 l1 h) vl_X12_209 rfl (Nat.le_of_ble_eq_true rfl) (Nat.le_of_ble_eq_true rfl) dX12_hand_3 rfl (fun x2 h1 => ?_)
  refine s_if_ne (tgt := 11) dX12_hand_6 (by decide) ?_ ?_
  ·
    refine s_iconst (v := 0) dX12_hand_9 rfl ?_
    exact s_zret rfl dX12_hand_10
  ·
    refine s_aload_n 0 dX12_hand_11 rfl rfl ?_
    refine s_iload_n 1 dX12_hand_12 rfl rfl ?_
    refine s_puti (s0 := 0) dX12_hand_13 fl_X12_219 (fun h3 => ?_)
    refine s_aload_n 0 dX12_hand_16 rfl rfl ?_
    refine s_callVv (s0 := 0) (As := []) (rest := []) (cX12_asTold_ok g h3) vl_X12_238 rfl (Nat.le_of_ble_eq_true rfl) (Nat.le_of_ble_eq_true rfl) dX12_hand_17 rfl (fun h4 => ?_)
    refine s_iconst (v := 1) dX12_hand_20 rfl ?_
    exact s_zret rfl dX12_hand_21
def fX12_hasShow (l1 : Int32) (h : Hp) : Option (Int32 × Hp) :=
  lt (wr h 10 0 40 l1) fun h1 =>
  bnd (fX12_is 1 l1 h1) fun x3 h2 =>
  ck (zk x3) (some (x3, h2))
set_option maxHeartbeats 4000000 in
set_option maxRecDepth 100000 in
theorem cX12_hasShow_ok (g : GE) (l1 : Int32) (h : Hp) : Con cvi 1 g mX12_hasShow 4 [rv g 10 0, .int l1] h (fX12_hasShow l1 h) := by
  refine Con.of (by decide +kernel) (Nat.le_of_ble_eq_true rfl) ?_
  show Sim cvi 1 g mX12_hasShow 4 0 [(0, rv g 10 0), (1, .int l1)] [] h _
  unfold fX12_hasShow
  refine s_aload_n 0 dX12_hasShow_0 rfl rfl ?_
  refine s_iload_n 1 dX12_hasShow_1 rfl rfl ?_
  refine s_puti (s0 := 0) dX12_hasShow_2 fl_X12_298 (fun h1 => ?_)
  refine s_aload_n 0 dX12_hasShow_5 rfl rfl ?_
  refine s_iconst (v := 1) dX12_hasShow_6 rfl ?_
  refine s_iload_n 1 dX12_hasShow_7 rfl rfl ?_
  refine s_callVi (s0 := 0) (As := [.int 1, .int l1]) (rest := []) (cX12_is_ok g 1 l1 h1) vl_X12_209 rfl (Nat.le_of_ble_eq_true rfl) (Nat.le_of_ble_eq_true rfl) dX12_hasShow_8 rfl (fun x3 h2 => ?_)
  exact s_zret rfl dX12_hasShow_11
def fX12_layAll (l1 : Int32) (l2 : Int32) (h : Hp) : Option (Int32 × Hp) :=
  bnd (fX12_hasShow l2 h) fun x2 h1 =>
  if x2 = 0 then (ck (zk 0) (some (0, h1)))
  else (bnd (fX12_hand l1 h1) fun x4 h3 =>
  if x4 = 0 then (ck (zk 0) (some (0, h3)))
  else (bnd (fX12_beginShow h3) fun _ h5 =>
  ck (zk 1) (some (1, h5))))
set_option maxHeartbeats 4000000 in
set_option maxRecDepth 100000 in
theorem cX12_layAll_ok (g : GE) (l1 : Int32) (l2 : Int32) (h : Hp) : Con cvi 1 g mX12_layAll 5 [rv g 10 0, .int l1, .int l2] h (fX12_layAll l1 l2 h) := by
  refine Con.of (by decide +kernel) (Nat.le_of_ble_eq_true rfl) ?_
  show Sim cvi 1 g mX12_layAll 5 0 [(0, rv g 10 0), (1, .int l1), (2, .int l2)] [] h _
  unfold fX12_layAll
  refine s_aload_n 0 dX12_layAll_0 rfl rfl ?_
  refine s_iload_n 2 dX12_layAll_1 rfl rfl ?_
  refine s_callVi (s0 := 0) (As := [.int l2]) (rest := []) (cX12_hasShow_ok g l2 h) vl_X12_301 rfl (Nat.le_of_ble_eq_true rfl) (Nat.le_of_ble_eq_true rfl) dX12_layAll_2 rfl (fun x2 h1 => ?_)
  refine s_if_eq (tgt := 16) dX12_layAll_5 (by decide) ?_ ?_
  ·
    refine s_iconst (v := 0) dX12_layAll_16 rfl ?_
    exact s_zret rfl dX12_layAll_17
  ·
    refine s_aload_n 0 dX12_layAll_8 rfl rfl ?_
    refine s_iload_n 1 dX12_layAll_9 rfl rfl ?_
    refine s_callVi (s0 := 0) (As := [.int l1]) (rest := []) (cX12_hand_ok g l1 h1) vl_X12_241 rfl (Nat.le_of_ble_eq_true rfl) (Nat.le_of_ble_eq_true rfl) dX12_layAll_10 rfl (fun x4 h3 => ?_)
    refine s_if_ne (tgt := 18) dX12_layAll_13 (by decide) ?_ ?_
    ·
      refine s_iconst (v := 0) dX12_layAll_16 rfl ?_
      exact s_zret rfl dX12_layAll_17
    ·
      refine s_aload_n 0 dX12_layAll_18 rfl rfl ?_
      refine s_callVv (s0 := 0) (As := []) (rest := []) (cX12_beginShow_ok g h3) vl_X12_316 rfl (Nat.le_of_ble_eq_true rfl) (Nat.le_of_ble_eq_true rfl) dX12_layAll_19 rfl (fun h5 => ?_)
      refine s_iconst (v := 1) dX12_layAll_22 rfl ?_
      exact s_zret rfl dX12_layAll_23
def fX12_after_l35 (K : Int32 → Hp → Option (Int32 × Hp)) (rec : Int32 → Int32 → Int32 → Hp → Option (Int32 × Hp)) (l4 l5 l6 : Int32) (h : Hp) : Option (Int32 × Hp) :=
  if l5 = 0 then (K l4 h)
  else (bnd (fX12_deeds h) fun x7 h6 =>
  if x7 ≤ l6 then (K l4 h6)
  else (bnd (fX12_doesDeed l6 h6) fun x9 h8 =>
  jn (κ := Int32 → Hp → Option (Int32 × Hp)) (fun z0_9 h11 => lt (l6 + 1) fun x12 =>
  rec z0_9 x9 x12 h11) fun k77_9 =>
  jn (κ := Hp → Option (Int32 × Hp)) (fun h14 => k77_9 l4 h14) fun k75_12 =>
  if l4 = (-1) then (if (rd h8 10 0 31) ≤ 0 then (k75_12 h8)
  else (k77_9 l6 h8))
  else (k75_12 h8)))
def fX12_after_l91 (K : Int32 → Hp → Option (Int32 × Hp)) (rec : Int32 → Int32 → Hp → Option (Int32 × Hp)) (l6 l7 : Int32) (h : Hp) : Option (Int32 × Hp) :=
  if (rd h 10 0 22) ≤ l7 then (K l6 h)
  else (ck (ib l7 5) (
  jn (κ := Int32 → Hp → Option (Int32 × Hp)) (fun z0_16 h18 => jn (κ := Int32 → Hp → Option (Int32 × Hp)) (fun z0_18 h20 => lt (l7 + 1) fun x21 =>
  rec z0_18 x21 h20) fun k134_18 =>
  if (ra h 56 0 l7) ≤ z0_16 then (k134_18 l6 h18)
  else (k134_18 l7 h18)) fun k124_16 =>
  if l6 = (-1) then (k124_16 0 h)
  else (ck (ib l6 5) (
  k124_16 (ra h 56 0 l6) h))))
def fX12_after (l1 : Int32) (l2 : Int32) (l3 : Int32) (h : Hp) : Option (Int32 × Hp) :=
  lt (wr h 10 0 0 0) fun h1 =>
  bnd (fX12_layAll l1 l2 h1) fun x3 h2 =>
  if x3 = 0 then (some ((-2), h2))
  else (bnd (fX12_in l3 0 5 h2) fun x5 h4 =>
  if x5 = 0 then (some ((-2), h4))
  else (itr3 (fX12_after_l35 (fun y15 h16 => itr2 (fX12_after_l91 (fun y22 h23 => if l3 = 0 then (some (y15, h23))
  else if l3 = 1 then (some (rd h23 10 0 33, h23))
  else if l3 = 2 then (some (y22, h23))
  else if l3 = 3 then (some (rd h23 10 0 36, h23))
  else if l3 = 4 then (some (rd h23 10 0 34, h23))
  else (some (rd h23 10 0 37, h23)))) FU (-1) 0 h16)) FU (-1) 1 0 h4))
set_option maxHeartbeats 4000000 in
set_option maxRecDepth 100000 in
theorem sX12_after_l35 (g : GE) (l3 : Int32) (K : Int32 → Hp → Option (Int32 × Hp)) (hK : ∀ (y4 : Int32) (h : Hp), Sim cvi 1 g mX12_after 7 85 [(0, rv g 10 0), (3, .int l3), (4, .int y4)] [] h (K y4 h)) : ∀ (n : Nat) (l4 l5 l6 : Int32) (h : Hp), Sim cvi 1 g mX12_after 7 35 [(0, rv g 10 0), (3, .int l3), (4, .int l4), (5, .int l5), (6, .int l6)] [] h (itr3 (fX12_after_l35 K) n l4 l5 l6 h) := by
  refine s_itr3 (fun l4 l5 l6 h o => Sim cvi 1 g mX12_after 7 35 [(0, rv g 10 0), (3, .int l3), (4, .int l4), (5, .int l5), (6, .int l6)] [] h o) (fun _ _ _ _ => s_none) ?_
  intro rec hrec l4 l5 l6 h
  unfold fX12_after_l35
  refine s_iload 3 dX12_after_35 rfl ?_
  refine s_if_eq (tgt := 85) dX12_after_37 (by decide) ?_ ?_
  ·
    refine s_sub [0, 1, 2] rfl ?_
    exact hK l4 h
  ·
    refine s_iload 4 dX12_after_40 rfl ?_
    refine s_aload_n 0 dX12_after_42 rfl rfl ?_
    refine s_callVi (s0 := 0) (As := []) (rest := [.int l6]) (cX12_deeds_ok g h) vl_X12_304 rfl (Nat.le_of_ble_eq_true rfl) (Nat.le_of_ble_eq_true rfl) dX12_after_43 rfl (fun x7 h6 => ?_)
    refine s_icmp_ge (tgt := 85) dX12_after_46 (by decide) ?_ ?_
    ·
      refine s_sub [0, 1, 2] rfl ?_
      exact hK l4 h6
    ·
      refine s_aload_n 0 dX12_after_49 rfl rfl ?_
      refine s_iload 4 dX12_after_50 rfl ?_
      refine s_callVi (s0 := 0) (As := [.int l6]) (rest := []) (cX12_doesDeed_ok g l6 h6) vl_X12_313 rfl (Nat.le_of_ble_eq_true rfl) (Nat.le_of_ble_eq_true rfl) dX12_after_52 rfl (fun x9 h8 => ?_)
      refine s_istore (ls' := [(5, .int x9), (0, rv g 10 0), (3, .int l3), (4, .int l4), (6, .int l6)]) dX12_after_55 (by decide) rfl ?_
      refine s_iload 3 dX12_after_57 rfl ?_
      refine s_iconst (v := (-1)) dX12_after_59 rfl ?_
      refine s_jn (fun (k77_9 : Int32 → Hp → Option (Int32 × Hp)) => ∀ (z0_9 : Int32) (h11 : Hp), Sim cvi 1 g mX12_after 7 77 [(0, rv g 10 0), (3, .int l3), (5, .int x9), (6, .int l6)] [.int z0_9] h11 (k77_9 z0_9 h11)) (fun z0_9 h11 => ?_) (fun k77_9 Hk77_9 => ?_)
      ·
        refine s_istore (ls' := [(4, .int z0_9), (0, rv g 10 0), (3, .int l3), (5, .int x9), (6, .int l6)]) dX12_after_77 (by decide) rfl ?_
        refine s_iincl 4 (w := 1) (fun x12 => [(6, .int x12), (4, .int z0_9), (0, rv g 10 0), (3, .int l3), (5, .int x9)]) dX12_after_79 rfl rfl (by decide) (fun _ => rfl) (fun x12 => ?_)
        refine s_goto (tgt := 35) dX12_after_82 (by decide) ?_
        refine s_sub [2, 3, 1, 4, 0] rfl ?_
        exact hrec z0_9 x9 x12 h11
      refine s_jn (fun (k75_12 : Hp → Option (Int32 × Hp)) => ∀ (h14 : Hp), Sim cvi 1 g mX12_after 7 75 [(0, rv g 10 0), (3, .int l3), (4, .int l4), (5, .int x9), (6, .int l6)] [] h14 (k75_12 h14)) (fun h14 => ?_) (fun k75_12 Hk75_12 => ?_)
      ·
        refine s_iload 2 dX12_after_75 rfl ?_
        refine s_sub [0, 1, 3, 4] rfl ?_
        exact Hk77_9 l4 h14
      refine s_icmp_ne (tgt := 75) dX12_after_60 (by decide) ?_ ?_
      ·
        refine s_aload_n 1 dX12_after_63 rfl rfl ?_
        refine s_geti (s0 := 0) dX12_after_64 fl_X12_253 ?_
        refine s_if_le (tgt := 75) dX12_after_67 (by decide) ?_ ?_
        ·
          refine s_sub [1, 2, 3, 0, 4] rfl ?_
          exact Hk75_12 h8
        ·
          refine s_iload 4 dX12_after_70 rfl ?_
          refine s_goto (tgt := 77) dX12_after_72 (by decide) ?_
          refine s_sub [1, 2, 0, 4] rfl ?_
          exact Hk77_9 l6 h8
      ·
        refine s_sub [1, 2, 3, 0, 4] rfl ?_
        exact Hk75_12 h8
set_option maxHeartbeats 4000000 in
set_option maxRecDepth 100000 in
theorem sX12_after_l91 (g : GE) (l3 : Int32) (l4 : Int32) (K : Int32 → Hp → Option (Int32 × Hp)) (hK : ∀ (y6 : Int32) (h : Hp), Sim cvi 1 g mX12_after 7 142 [(0, rv g 10 0), (3, .int l3), (4, .int l4), (6, .int y6)] [] h (K y6 h)) : ∀ (n : Nat) (l6 l7 : Int32) (h : Hp), Sim cvi 1 g mX12_after 7 91 [(0, rv g 10 0), (3, .int l3), (4, .int l4), (6, .int l6), (7, .int l7)] [] h (itr2 (fX12_after_l91 K) n l6 l7 h) := by
  refine s_itr2 (fun l6 l7 h o => Sim cvi 1 g mX12_after 7 91 [(0, rv g 10 0), (3, .int l3), (4, .int l4), (6, .int l6), (7, .int l7)] [] h o) (fun _ _ _ => s_none) ?_
  intro rec hrec l6 l7 h
  unfold fX12_after_l91
  refine s_iload 4 dX12_after_91 rfl ?_
  refine s_aload_n 0 dX12_after_93 rfl rfl ?_
  refine s_geti (s0 := 0) dX12_after_94 fl_X12_232 ?_
  refine s_icmp_ge (tgt := 142) dX12_after_97 (by decide) ?_ ?_
  ·
    refine s_sub [0, 1, 2, 3] rfl ?_
    exact hK l6 h
  ·
    refine s_aload_n 0 dX12_after_100 rfl rfl ?_
    refine s_getr (s0 := 0) dX12_after_101 fl_X12_50 ?_
    refine s_iload 4 dX12_after_104 rfl ?_
    refine s_iald (s0 := 0) ka_56 dX12_after_106 ?_
    refine s_iload 3 dX12_after_107 rfl ?_
    refine s_iconst (v := (-1)) dX12_after_109 rfl ?_
    refine s_jn (fun (k124_16 : Int32 → Hp → Option (Int32 × Hp)) => ∀ (z0_16 : Int32) (h18 : Hp), Sim cvi 1 g mX12_after 7 124 [(0, rv g 10 0), (3, .int l3), (4, .int l4), (6, .int l6), (7, .int l7)] [.int z0_16, .int (ra h 56 0 l7)] h18 (k124_16 z0_16 h18)) (fun z0_16 h18 => ?_) (fun k124_16 Hk124_16 => ?_)
    ·
      refine s_jn (fun (k134_18 : Int32 → Hp → Option (Int32 × Hp)) => ∀ (z0_18 : Int32) (h20 : Hp), Sim cvi 1 g mX12_after 7 134 [(0, rv g 10 0), (3, .int l3), (4, .int l4), (7, .int l7)] [.int z0_18] h20 (k134_18 z0_18 h20)) (fun z0_18 h20 => ?_) (fun k134_18 Hk134_18 => ?_)
      ·
        refine s_istore (ls' := [(6, .int z0_18), (0, rv g 10 0), (3, .int l3), (4, .int l4), (7, .int l7)]) dX12_after_134 (by decide) rfl ?_
        refine s_iincl 4 (w := 1) (fun x21 => [(7, .int x21), (6, .int z0_18), (0, rv g 10 0), (3, .int l3), (4, .int l4)]) dX12_after_136 rfl rfl (by decide) (fun _ => rfl) (fun x21 => ?_)
        refine s_goto (tgt := 91) dX12_after_139 (by decide) ?_
        refine s_sub [2, 3, 4, 1, 0] rfl ?_
        exact hrec z0_18 x21 h20
      refine s_icmp_le (tgt := 132) dX12_after_124 (by decide) ?_ ?_
      ·
        refine s_iload 3 dX12_after_132 rfl ?_
        refine s_sub [0, 1, 2, 4] rfl ?_
        exact Hk134_18 l6 h18
      ·
        refine s_iload 4 dX12_after_127 rfl ?_
        refine s_goto (tgt := 134) dX12_after_129 (by decide) ?_
        refine s_sub [0, 1, 2, 4] rfl ?_
        exact Hk134_18 l7 h18
    refine s_icmp_ne (tgt := 117) dX12_after_110 (by decide) ?_ ?_
    ·
      refine s_iconst (v := 0) dX12_after_113 rfl ?_
      refine s_goto (tgt := 124) dX12_after_114 (by decide) ?_
      exact Hk124_16 0 h
    ·
      refine s_aload_n 0 dX12_after_117 rfl rfl ?_
      refine s_getr (s0 := 0) dX12_after_118 fl_X12_50 ?_
      refine s_iload 3 dX12_after_121 rfl ?_
      refine s_iald (s0 := 0) ka_56 dX12_after_123 ?_
      exact Hk124_16 (ra h 56 0 l6) h
set_option maxHeartbeats 4000000 in
set_option maxRecDepth 100000 in
theorem cX12_after_ok (g : GE) (l1 : Int32) (l2 : Int32) (l3 : Int32) (h : Hp) : Con cvi 1 g mX12_after 7 [rv g 10 0, .int l1, .int l2, .int l3] h (fX12_after l1 l2 l3 h) := by
  refine Con.of (by decide +kernel) (Nat.le_of_ble_eq_true rfl) ?_
  show Sim cvi 1 g mX12_after 7 0 [(0, rv g 10 0), (1, .int l1), (2, .int l2), (3, .int l3)] [] h _
  unfold fX12_after
  refine s_aload_n 0 dX12_after_0 rfl rfl ?_
  refine s_iconst (v := 0) dX12_after_1 rfl ?_
  refine s_puti (s0 := 0) dX12_after_2 fl_X12_88 (fun h1 => ?_)
  refine s_aload_n 0 dX12_after_5 rfl rfl ?_
  refine s_iload_n 1 dX12_after_6 rfl rfl ?_
  refine s_iload_n 2 dX12_after_7 rfl rfl ?_
  refine s_callVi (s0 := 0) (As := [.int l1, .int l2]) (rest := []) (cX12_layAll_ok g l1 l2 h1) vl_X12_319 rfl (Nat.le_of_ble_eq_true rfl) (Nat.le_of_ble_eq_true rfl) dX12_after_8 rfl (fun x3 h2 => ?_)
  refine s_if_eq (tgt := 23) dX12_after_11 (by decide) ?_ ?_
  ·
    refine s_bipush (v := (-2)) dX12_after_23 rfl ?_
    exact s_iret rfl dX12_after_25
  ·
    refine s_iload_n 3 dX12_after_14 rfl rfl ?_
    refine s_iconst (v := 0) dX12_after_15 rfl ?_
    refine s_iconst (v := 5) dX12_after_16 rfl ?_
    refine s_callSi (As := [.int l3, .int 0, .int 5]) (rest := []) (cX12_in_ok g l3 0 5 h2) sl_X12_100 rfl (Nat.le_of_ble_eq_true rfl) (Nat.le_of_ble_eq_true rfl) dX12_after_17 rfl (fun x5 h4 => ?_)
    refine s_if_ne (tgt := 26) dX12_after_20 (by decide) ?_ ?_
    ·
      refine s_bipush (v := (-2)) dX12_after_23 rfl ?_
      exact s_iret rfl dX12_after_25
    ·
      refine s_iconst (v := (-1)) dX12_after_26 rfl ?_
      refine s_istore (ls' := [(4, .int (-1)), (0, rv g 10 0), (1, .int l1), (2, .int l2), (3, .int l3)]) dX12_after_27 (by decide) rfl ?_
      refine s_iconst (v := 1) dX12_after_29 rfl ?_
      refine s_istore (ls' := [(5, .int 1), (4, .int (-1)), (0, rv g 10 0), (1, .int l1), (2, .int l2), (3, .int l3)]) dX12_after_30 (by decide) rfl ?_
      refine s_iconst (v := 0) dX12_after_32 rfl ?_
      refine s_istore (ls' := [(6, .int 0), (5, .int 1), (4, .int (-1)), (0, rv g 10 0), (1, .int l1), (2, .int l2), (3, .int l3)]) dX12_after_33 (by decide) rfl ?_
      refine s_sub (ls' := [(0, rv g 10 0), (3, .int l3), (4, .int (-1)), (5, .int 1), (6, .int 0)]) [3, 6, 2, 1, 0] rfl ?_
      refine sX12_after_l35 g l3 _ (fun y15 h16 => ?_) FU (-1) 1 0 h4
      refine s_iconst (v := (-1)) dX12_after_85 rfl ?_
      refine s_istore (ls' := [(6, .int (-1)), (0, rv g 10 0), (3, .int l3), (4, .int y15)]) dX12_after_86 (by decide) rfl ?_
      refine s_iconst (v := 0) dX12_after_88 rfl ?_
      refine s_istore (ls' := [(7, .int 0), (6, .int (-1)), (0, rv g 10 0), (3, .int l3), (4, .int y15)]) dX12_after_89 (by decide) rfl ?_
      refine s_sub (ls' := [(0, rv g 10 0), (3, .int l3), (4, .int y15), (6, .int (-1)), (7, .int 0)]) [2, 3, 4, 1, 0] rfl ?_
      refine sX12_after_l91 g l3 y15 _ (fun y22 h23 => ?_) FU (-1) 0 h16
      refine s_iload_n 1 dX12_after_142 rfl rfl ?_
      refine s_tab 0 (tgt := 176) dX12_after_143 (by decide) (by decide) rfl (by decide) ?_ (fun e24 => ?_)
      ·
        refine s_iload 2 dX12_after_176 rfl ?_
        exact s_iret rfl dX12_after_178
      refine s_tab 1 (tgt := 179) dX12_after_143 (by decide) (by decide) rfl (by decide) ?_ (fun e25 => ?_)
      ·
        refine s_aload_n 0 dX12_after_179 rfl rfl ?_
        refine s_geti (s0 := 0) dX12_after_180 fl_X12_259 ?_
        exact s_iret rfl dX12_after_183
      refine s_tab 2 (tgt := 184) dX12_after_143 (by decide) (by decide) rfl (by decide) ?_ (fun e26 => ?_)
      ·
        refine s_iload 3 dX12_after_184 rfl ?_
        exact s_iret rfl dX12_after_186
      refine s_tab 3 (tgt := 187) dX12_after_143 (by decide) (by decide) rfl (by decide) ?_ (fun e27 => ?_)
      ·
        refine s_aload_n 0 dX12_after_187 rfl rfl ?_
        refine s_geti (s0 := 0) dX12_after_188 fl_X12_268 ?_
        exact s_iret rfl dX12_after_191
      refine s_tab 4 (tgt := 192) dX12_after_143 (by decide) (by decide) rfl (by decide) ?_ (fun e28 => ?_)
      ·
        refine s_aload_n 0 dX12_after_192 rfl rfl ?_
        refine s_geti (s0 := 0) dX12_after_193 fl_X12_262 ?_
        exact s_iret rfl dX12_after_196
      have e24 := lv_neT e24 (show (0 : Int32).toInt = 0 from rfl)
      have e25 := lv_neT e25 (show (1 : Int32).toInt = 1 from rfl)
      have e26 := lv_neT e26 (show (2 : Int32).toInt = 2 from rfl)
      have e27 := lv_neT e27 (show (3 : Int32).toInt = 3 from rfl)
      have e28 := lv_neT e28 (show (4 : Int32).toInt = 4 from rfl)
      refine s_tabd (tgt := 197) dX12_after_143 (by omega) (by decide) ?_
      refine s_aload_n 0 dX12_after_197 rfl rfl ?_
      refine s_geti (s0 := 0) dX12_after_198 fl_X12_271 ?_
      exact s_iret rfl dX12_after_201
def fX12_copyRow_44_l3 (l1 : Int32) (l2 : Int32) (l3 : Int32) (K : Hp → Option (Unit × Hp)) (rec : Int32 → Hp → Option (Unit × Hp)) (l4 : Int32) (h : Hp) : Option (Unit × Hp) :=
  if l1 ≤ l4 then (K h)
  else (ck (ib ((l1 * l2) + l4) 4) (
  ck (ib ((l1 * l3) + l4) 4) (lt (wa h 44 0 ((l1 * l3) + l4) (ra h 44 0 ((l1 * l2) + l4))) fun h1 =>
  lt (l4 + 1) fun x2 =>
  rec x2 h1)))
def fX12_copyRow_44 (l1 : Int32) (l2 : Int32) (l3 : Int32) (h : Hp) : Option (Unit × Hp) :=
  itr1 (fX12_copyRow_44_l3 l1 l2 l3 (fun h3 => some ((), h3))) FU 0 h
set_option maxHeartbeats 4000000 in
set_option maxRecDepth 100000 in
theorem sX12_copyRow_44_l3 (g : GE) (l1 : Int32) (l2 : Int32) (l3 : Int32) (K : Hp → Option (Unit × Hp)) (hK : ∀ (h : Hp), Sim cvv 1 g mX12_copyRow 2 31 [] [] h (K  h)) : ∀ (n : Nat) (l4 : Int32) (h : Hp), Sim cvv 1 g mX12_copyRow 2 3 [(0, rv g 44 0), (1, .int l1), (2, .int l2), (3, .int l3), (4, .int l4)] [] h (itr1 (fX12_copyRow_44_l3 l1 l2 l3 K) n l4 h) := by
  refine s_itr1 (fun l4 h o => Sim cvv 1 g mX12_copyRow 2 3 [(0, rv g 44 0), (1, .int l1), (2, .int l2), (3, .int l3), (4, .int l4)] [] h o) (fun _ _ => s_none) ?_
  intro rec hrec l4 h
  unfold fX12_copyRow_44_l3
  refine s_iload 4 dX12_copyRow_3 rfl ?_
  refine s_iload_n 1 dX12_copyRow_5 rfl rfl ?_
  refine s_icmp_ge (tgt := 31) dX12_copyRow_6 (by decide) ?_ ?_
  ·
    refine s_sub [] rfl ?_
    exact hK h
  ·
    refine s_aload_n 0 dX12_copyRow_9 rfl rfl ?_
    refine s_iload_n 1 dX12_copyRow_10 rfl rfl ?_
    refine s_iload_n 3 dX12_copyRow_11 rfl rfl ?_
    refine s_imul dX12_copyRow_12 ?_
    refine s_iload 4 dX12_copyRow_13 rfl ?_
    refine s_iadd dX12_copyRow_15 ?_
    refine s_aload_n 0 dX12_copyRow_16 rfl rfl ?_
    refine s_iload_n 1 dX12_copyRow_17 rfl rfl ?_
    refine s_iload_n 2 dX12_copyRow_18 rfl rfl ?_
    refine s_imul dX12_copyRow_19 ?_
    refine s_iload 4 dX12_copyRow_20 rfl ?_
    refine s_iadd dX12_copyRow_22 ?_
    refine s_iald (s0 := 0) ka_44 dX12_copyRow_23 ?_
    refine s_iast (s0 := 0) ka_44 dX12_copyRow_24 (fun h1 => ?_)
    refine s_iincl 4 (w := 1) (fun x2 => [(4, .int x2), (0, rv g 44 0), (1, .int l1), (2, .int l2), (3, .int l3)]) dX12_copyRow_25 rfl rfl (by decide) (fun _ => rfl) (fun x2 => ?_)
    refine s_goto (tgt := 3) dX12_copyRow_28 (by decide) ?_
    refine s_sub [1, 2, 3, 4, 0] rfl ?_
    exact hrec x2 h1
set_option maxHeartbeats 4000000 in
set_option maxRecDepth 100000 in
theorem cX12_copyRow_44_ok (g : GE) (l1 : Int32) (l2 : Int32) (l3 : Int32) (h : Hp) : Con cvv 1 g mX12_copyRow 2 [rv g 44 0, .int l1, .int l2, .int l3] h (fX12_copyRow_44 l1 l2 l3 h) := by
  refine Con.of (by decide +kernel) (Nat.le_of_ble_eq_true rfl) ?_
  show Sim cvv 1 g mX12_copyRow 2 0 [(0, rv g 44 0), (1, .int l1), (2, .int l2), (3, .int l3)] [] h _
  unfold fX12_copyRow_44
  refine s_iconst (v := 0) dX12_copyRow_0 rfl ?_
  refine s_istore (ls' := [(4, .int 0), (0, rv g 44 0), (1, .int l1), (2, .int l2), (3, .int l3)]) dX12_copyRow_1 (by decide) rfl ?_
  refine s_sub (ls' := [(0, rv g 44 0), (1, .int l1), (2, .int l2), (3, .int l3), (4, .int 0)]) [1, 2, 3, 4, 0] rfl ?_
  refine sX12_copyRow_44_l3 g l1 l2 l3 _ (fun h3 => ?_) FU 0 h
  exact s_vret rfl dX12_copyRow_31
def fX12_copyRow_45_l3 (l1 : Int32) (l2 : Int32) (l3 : Int32) (K : Hp → Option (Unit × Hp)) (rec : Int32 → Hp → Option (Unit × Hp)) (l4 : Int32) (h : Hp) : Option (Unit × Hp) :=
  if l1 ≤ l4 then (K h)
  else (ck (ib ((l1 * l2) + l4) 4) (
  ck (ib ((l1 * l3) + l4) 4) (lt (wa h 45 0 ((l1 * l3) + l4) (ra h 45 0 ((l1 * l2) + l4))) fun h1 =>
  lt (l4 + 1) fun x2 =>
  rec x2 h1)))
def fX12_copyRow_45 (l1 : Int32) (l2 : Int32) (l3 : Int32) (h : Hp) : Option (Unit × Hp) :=
  itr1 (fX12_copyRow_45_l3 l1 l2 l3 (fun h3 => some ((), h3))) FU 0 h
set_option maxHeartbeats 4000000 in
set_option maxRecDepth 100000 in
theorem sX12_copyRow_45_l3 (g : GE) (l1 : Int32) (l2 : Int32) (l3 : Int32) (K : Hp → Option (Unit × Hp)) (hK : ∀ (h : Hp), Sim cvv 1 g mX12_copyRow 2 31 [] [] h (K  h)) : ∀ (n : Nat) (l4 : Int32) (h : Hp), Sim cvv 1 g mX12_copyRow 2 3 [(0, rv g 45 0), (1, .int l1), (2, .int l2), (3, .int l3), (4, .int l4)] [] h (itr1 (fX12_copyRow_45_l3 l1 l2 l3 K) n l4 h) := by
  refine s_itr1 (fun l4 h o => Sim cvv 1 g mX12_copyRow 2 3 [(0, rv g 45 0), (1, .int l1), (2, .int l2), (3, .int l3), (4, .int l4)] [] h o) (fun _ _ => s_none) ?_
  intro rec hrec l4 h
  unfold fX12_copyRow_45_l3
  refine s_iload 4 dX12_copyRow_3 rfl ?_
  refine s_iload_n 1 dX12_copyRow_5 rfl rfl ?_
  refine s_icmp_ge (tgt := 31) dX12_copyRow_6 (by decide) ?_ ?_
  ·
    refine s_sub [] rfl ?_
    exact hK h
  ·
    refine s_aload_n 0 dX12_copyRow_9 rfl rfl ?_
    refine s_iload_n 1 dX12_copyRow_10 rfl rfl ?_
    refine s_iload_n 3 dX12_copyRow_11 rfl rfl ?_
    refine s_imul dX12_copyRow_12 ?_
    refine s_iload 4 dX12_copyRow_13 rfl ?_
    refine s_iadd dX12_copyRow_15 ?_
    refine s_aload_n 0 dX12_copyRow_16 rfl rfl ?_
    refine s_iload_n 1 dX12_copyRow_17 rfl rfl ?_
    refine s_iload_n 2 dX12_copyRow_18 rfl rfl ?_
    refine s_imul dX12_copyRow_19 ?_
    refine s_iload 4 dX12_copyRow_20 rfl ?_
    refine s_iadd dX12_copyRow_22 ?_
    refine s_iald (s0 := 0) ka_45 dX12_copyRow_23 ?_
    refine s_iast (s0 := 0) ka_45 dX12_copyRow_24 (fun h1 => ?_)
    refine s_iincl 4 (w := 1) (fun x2 => [(4, .int x2), (0, rv g 45 0), (1, .int l1), (2, .int l2), (3, .int l3)]) dX12_copyRow_25 rfl rfl (by decide) (fun _ => rfl) (fun x2 => ?_)
    refine s_goto (tgt := 3) dX12_copyRow_28 (by decide) ?_
    refine s_sub [1, 2, 3, 4, 0] rfl ?_
    exact hrec x2 h1
set_option maxHeartbeats 4000000 in
set_option maxRecDepth 100000 in
theorem cX12_copyRow_45_ok (g : GE) (l1 : Int32) (l2 : Int32) (l3 : Int32) (h : Hp) : Con cvv 1 g mX12_copyRow 2 [rv g 45 0, .int l1, .int l2, .int l3] h (fX12_copyRow_45 l1 l2 l3 h) := by
  refine Con.of (by decide +kernel) (Nat.le_of_ble_eq_true rfl) ?_
  show Sim cvv 1 g mX12_copyRow 2 0 [(0, rv g 45 0), (1, .int l1), (2, .int l2), (3, .int l3)] [] h _
  unfold fX12_copyRow_45
  refine s_iconst (v := 0) dX12_copyRow_0 rfl ?_
  refine s_istore (ls' := [(4, .int 0), (0, rv g 45 0), (1, .int l1), (2, .int l2), (3, .int l3)]) dX12_copyRow_1 (by decide) rfl ?_
  refine s_sub (ls' := [(0, rv g 45 0), (1, .int l1), (2, .int l2), (3, .int l3), (4, .int 0)]) [1, 2, 3, 4, 0] rfl ?_
  refine sX12_copyRow_45_l3 g l1 l2 l3 _ (fun h3 => ?_) FU 0 h
  exact s_vret rfl dX12_copyRow_31
def fX12_copyRow_46_l3 (l1 : Int32) (l2 : Int32) (l3 : Int32) (K : Hp → Option (Unit × Hp)) (rec : Int32 → Hp → Option (Unit × Hp)) (l4 : Int32) (h : Hp) : Option (Unit × Hp) :=
  if l1 ≤ l4 then (K h)
  else (ck (ib ((l1 * l2) + l4) 4) (
  ck (ib ((l1 * l3) + l4) 4) (lt (wa h 46 0 ((l1 * l3) + l4) (ra h 46 0 ((l1 * l2) + l4))) fun h1 =>
  lt (l4 + 1) fun x2 =>
  rec x2 h1)))
def fX12_copyRow_46 (l1 : Int32) (l2 : Int32) (l3 : Int32) (h : Hp) : Option (Unit × Hp) :=
  itr1 (fX12_copyRow_46_l3 l1 l2 l3 (fun h3 => some ((), h3))) FU 0 h
set_option maxHeartbeats 4000000 in
set_option maxRecDepth 100000 in
theorem sX12_copyRow_46_l3 (g : GE) (l1 : Int32) (l2 : Int32) (l3 : Int32) (K : Hp → Option (Unit × Hp)) (hK : ∀ (h : Hp), Sim cvv 1 g mX12_copyRow 2 31 [] [] h (K  h)) : ∀ (n : Nat) (l4 : Int32) (h : Hp), Sim cvv 1 g mX12_copyRow 2 3 [(0, rv g 46 0), (1, .int l1), (2, .int l2), (3, .int l3), (4, .int l4)] [] h (itr1 (fX12_copyRow_46_l3 l1 l2 l3 K) n l4 h) := by
  refine s_itr1 (fun l4 h o => Sim cvv 1 g mX12_copyRow 2 3 [(0, rv g 46 0), (1, .int l1), (2, .int l2), (3, .int l3), (4, .int l4)] [] h o) (fun _ _ => s_none) ?_
  intro rec hrec l4 h
  unfold fX12_copyRow_46_l3
  refine s_iload 4 dX12_copyRow_3 rfl ?_
  refine s_iload_n 1 dX12_copyRow_5 rfl rfl ?_
  refine s_icmp_ge (tgt := 31) dX12_copyRow_6 (by decide) ?_ ?_
  ·
    refine s_sub [] rfl ?_
    exact hK h
  ·
    refine s_aload_n 0 dX12_copyRow_9 rfl rfl ?_
    refine s_iload_n 1 dX12_copyRow_10 rfl rfl ?_
    refine s_iload_n 3 dX12_copyRow_11 rfl rfl ?_
    refine s_imul dX12_copyRow_12 ?_
    refine s_iload 4 dX12_copyRow_13 rfl ?_
    refine s_iadd dX12_copyRow_15 ?_
    refine s_aload_n 0 dX12_copyRow_16 rfl rfl ?_
    refine s_iload_n 1 dX12_copyRow_17 rfl rfl ?_
    refine s_iload_n 2 dX12_copyRow_18 rfl rfl ?_
    refine s_imul dX12_copyRow_19 ?_
    refine s_iload 4 dX12_copyRow_20 rfl ?_
    refine s_iadd dX12_copyRow_22 ?_
    refine s_iald (s0 := 0) ka_46 dX12_copyRow_23 ?_
    refine s_iast (s0 := 0) ka_46 dX12_copyRow_24 (fun h1 => ?_)
    refine s_iincl 4 (w := 1) (fun x2 => [(4, .int x2), (0, rv g 46 0), (1, .int l1), (2, .int l2), (3, .int l3)]) dX12_copyRow_25 rfl rfl (by decide) (fun _ => rfl) (fun x2 => ?_)
    refine s_goto (tgt := 3) dX12_copyRow_28 (by decide) ?_
    refine s_sub [1, 2, 3, 4, 0] rfl ?_
    exact hrec x2 h1
set_option maxHeartbeats 4000000 in
set_option maxRecDepth 100000 in
theorem cX12_copyRow_46_ok (g : GE) (l1 : Int32) (l2 : Int32) (l3 : Int32) (h : Hp) : Con cvv 1 g mX12_copyRow 2 [rv g 46 0, .int l1, .int l2, .int l3] h (fX12_copyRow_46 l1 l2 l3 h) := by
  refine Con.of (by decide +kernel) (Nat.le_of_ble_eq_true rfl) ?_
  show Sim cvv 1 g mX12_copyRow 2 0 [(0, rv g 46 0), (1, .int l1), (2, .int l2), (3, .int l3)] [] h _
  unfold fX12_copyRow_46
  refine s_iconst (v := 0) dX12_copyRow_0 rfl ?_
  refine s_istore (ls' := [(4, .int 0), (0, rv g 46 0), (1, .int l1), (2, .int l2), (3, .int l3)]) dX12_copyRow_1 (by decide) rfl ?_
  refine s_sub (ls' := [(0, rv g 46 0), (1, .int l1), (2, .int l2), (3, .int l3), (4, .int 0)]) [1, 2, 3, 4, 0] rfl ?_
  refine sX12_copyRow_46_l3 g l1 l2 l3 _ (fun h3 => ?_) FU 0 h
  exact s_vret rfl dX12_copyRow_31
def fX12_copyRow_47_l3 (l1 : Int32) (l2 : Int32) (l3 : Int32) (K : Hp → Option (Unit × Hp)) (rec : Int32 → Hp → Option (Unit × Hp)) (l4 : Int32) (h : Hp) : Option (Unit × Hp) :=
  if l1 ≤ l4 then (K h)
  else (ck (ib ((l1 * l2) + l4) 12) (
  ck (ib ((l1 * l3) + l4) 12) (lt (wa h 47 0 ((l1 * l3) + l4) (ra h 47 0 ((l1 * l2) + l4))) fun h1 =>
  lt (l4 + 1) fun x2 =>
  rec x2 h1)))
def fX12_copyRow_47 (l1 : Int32) (l2 : Int32) (l3 : Int32) (h : Hp) : Option (Unit × Hp) :=
  itr1 (fX12_copyRow_47_l3 l1 l2 l3 (fun h3 => some ((), h3))) FU 0 h
set_option maxHeartbeats 4000000 in
set_option maxRecDepth 100000 in
theorem sX12_copyRow_47_l3 (g : GE) (l1 : Int32) (l2 : Int32) (l3 : Int32) (K : Hp → Option (Unit × Hp)) (hK : ∀ (h : Hp), Sim cvv 1 g mX12_copyRow 2 31 [] [] h (K  h)) : ∀ (n : Nat) (l4 : Int32) (h : Hp), Sim cvv 1 g mX12_copyRow 2 3 [(0, rv g 47 0), (1, .int l1), (2, .int l2), (3, .int l3), (4, .int l4)] [] h (itr1 (fX12_copyRow_47_l3 l1 l2 l3 K) n l4 h) := by
  refine s_itr1 (fun l4 h o => Sim cvv 1 g mX12_copyRow 2 3 [(0, rv g 47 0), (1, .int l1), (2, .int l2), (3, .int l3), (4, .int l4)] [] h o) (fun _ _ => s_none) ?_
  intro rec hrec l4 h
  unfold fX12_copyRow_47_l3
  refine s_iload 4 dX12_copyRow_3 rfl ?_
  refine s_iload_n 1 dX12_copyRow_5 rfl rfl ?_
  refine s_icmp_ge (tgt := 31) dX12_copyRow_6 (by decide) ?_ ?_
  ·
    refine s_sub [] rfl ?_
    exact hK h
  ·
    refine s_aload_n 0 dX12_copyRow_9 rfl rfl ?_
    refine s_iload_n 1 dX12_copyRow_10 rfl rfl ?_
    refine s_iload_n 3 dX12_copyRow_11 rfl rfl ?_
    refine s_imul dX12_copyRow_12 ?_
    refine s_iload 4 dX12_copyRow_13 rfl ?_
    refine s_iadd dX12_copyRow_15 ?_
    refine s_aload_n 0 dX12_copyRow_16 rfl rfl ?_
    refine s_iload_n 1 dX12_copyRow_17 rfl rfl ?_
    refine s_iload_n 2 dX12_copyRow_18 rfl rfl ?_
    refine s_imul dX12_copyRow_19 ?_
    refine s_iload 4 dX12_copyRow_20 rfl ?_
    refine s_iadd dX12_copyRow_22 ?_
    refine s_iald (s0 := 0) ka_47 dX12_copyRow_23 ?_
    refine s_iast (s0 := 0) ka_47 dX12_copyRow_24 (fun h1 => ?_)
    refine s_iincl 4 (w := 1) (fun x2 => [(4, .int x2), (0, rv g 47 0), (1, .int l1), (2, .int l2), (3, .int l3)]) dX12_copyRow_25 rfl rfl (by decide) (fun _ => rfl) (fun x2 => ?_)
    refine s_goto (tgt := 3) dX12_copyRow_28 (by decide) ?_
    refine s_sub [1, 2, 3, 4, 0] rfl ?_
    exact hrec x2 h1
set_option maxHeartbeats 4000000 in
set_option maxRecDepth 100000 in
theorem cX12_copyRow_47_ok (g : GE) (l1 : Int32) (l2 : Int32) (l3 : Int32) (h : Hp) : Con cvv 1 g mX12_copyRow 2 [rv g 47 0, .int l1, .int l2, .int l3] h (fX12_copyRow_47 l1 l2 l3 h) := by
  refine Con.of (by decide +kernel) (Nat.le_of_ble_eq_true rfl) ?_
  show Sim cvv 1 g mX12_copyRow 2 0 [(0, rv g 47 0), (1, .int l1), (2, .int l2), (3, .int l3)] [] h _
  unfold fX12_copyRow_47
  refine s_iconst (v := 0) dX12_copyRow_0 rfl ?_
  refine s_istore (ls' := [(4, .int 0), (0, rv g 47 0), (1, .int l1), (2, .int l2), (3, .int l3)]) dX12_copyRow_1 (by decide) rfl ?_
  refine s_sub (ls' := [(0, rv g 47 0), (1, .int l1), (2, .int l2), (3, .int l3), (4, .int 0)]) [1, 2, 3, 4, 0] rfl ?_
  refine sX12_copyRow_47_l3 g l1 l2 l3 _ (fun h3 => ?_) FU 0 h
  exact s_vret rfl dX12_copyRow_31
def fX12_copyRow_48_l3 (l1 : Int32) (l2 : Int32) (l3 : Int32) (K : Hp → Option (Unit × Hp)) (rec : Int32 → Hp → Option (Unit × Hp)) (l4 : Int32) (h : Hp) : Option (Unit × Hp) :=
  if l1 ≤ l4 then (K h)
  else (ck (ib ((l1 * l2) + l4) 144) (
  ck (ib ((l1 * l3) + l4) 144) (lt (wa h 48 0 ((l1 * l3) + l4) (ra h 48 0 ((l1 * l2) + l4))) fun h1 =>
  lt (l4 + 1) fun x2 =>
  rec x2 h1)))
def fX12_copyRow_48 (l1 : Int32) (l2 : Int32) (l3 : Int32) (h : Hp) : Option (Unit × Hp) :=
  itr1 (fX12_copyRow_48_l3 l1 l2 l3 (fun h3 => some ((), h3))) FU 0 h
set_option maxHeartbeats 4000000 in
set_option maxRecDepth 100000 in
theorem sX12_copyRow_48_l3 (g : GE) (l1 : Int32) (l2 : Int32) (l3 : Int32) (K : Hp → Option (Unit × Hp)) (hK : ∀ (h : Hp), Sim cvv 1 g mX12_copyRow 2 31 [] [] h (K  h)) : ∀ (n : Nat) (l4 : Int32) (h : Hp), Sim cvv 1 g mX12_copyRow 2 3 [(0, rv g 48 0), (1, .int l1), (2, .int l2), (3, .int l3), (4, .int l4)] [] h (itr1 (fX12_copyRow_48_l3 l1 l2 l3 K) n l4 h) := by
  refine s_itr1 (fun l4 h o => Sim cvv 1 g mX12_copyRow 2 3 [(0, rv g 48 0), (1, .int l1), (2, .int l2), (3, .int l3), (4, .int l4)] [] h o) (fun _ _ => s_none) ?_
  intro rec hrec l4 h
  unfold fX12_copyRow_48_l3
  refine s_iload 4 dX12_copyRow_3 rfl ?_
  refine s_iload_n 1 dX12_copyRow_5 rfl rfl ?_
  refine s_icmp_ge (tgt := 31) dX12_copyRow_6 (by decide) ?_ ?_
  ·
    refine s_sub [] rfl ?_
    exact hK h
  ·
    refine s_aload_n 0 dX12_copyRow_9 rfl rfl ?_
    refine s_iload_n 1 dX12_copyRow_10 rfl rfl ?_
    refine s_iload_n 3 dX12_copyRow_11 rfl rfl ?_
    refine s_imul dX12_copyRow_12 ?_
    refine s_iload 4 dX12_copyRow_13 rfl ?_
    refine s_iadd dX12_copyRow_15 ?_
    refine s_aload_n 0 dX12_copyRow_16 rfl rfl ?_
    refine s_iload_n 1 dX12_copyRow_17 rfl rfl ?_
    refine s_iload_n 2 dX12_copyRow_18 rfl rfl ?_
    refine s_imul dX12_copyRow_19 ?_
    refine s_iload 4 dX12_copyRow_20 rfl ?_
    refine s_iadd dX12_copyRow_22 ?_
    refine s_iald (s0 := 0) ka_48 dX12_copyRow_23 ?_
    refine s_iast (s0 := 0) ka_48 dX12_copyRow_24 (fun h1 => ?_)
    refine s_iincl 4 (w := 1) (fun x2 => [(4, .int x2), (0, rv g 48 0), (1, .int l1), (2, .int l2), (3, .int l3)]) dX12_copyRow_25 rfl rfl (by decide) (fun _ => rfl) (fun x2 => ?_)
    refine s_goto (tgt := 3) dX12_copyRow_28 (by decide) ?_
    refine s_sub [1, 2, 3, 4, 0] rfl ?_
    exact hrec x2 h1
set_option maxHeartbeats 4000000 in
set_option maxRecDepth 100000 in
theorem cX12_copyRow_48_ok (g : GE) (l1 : Int32) (l2 : Int32) (l3 : Int32) (h : Hp) : Con cvv 1 g mX12_copyRow 2 [rv g 48 0, .int l1, .int l2, .int l3] h (fX12_copyRow_48 l1 l2 l3 h) := by
  refine Con.of (by decide +kernel) (Nat.le_of_ble_eq_true rfl) ?_
  show Sim cvv 1 g mX12_copyRow 2 0 [(0, rv g 48 0), (1, .int l1), (2, .int l2), (3, .int l3)] [] h _
  unfold fX12_copyRow_48
  refine s_iconst (v := 0) dX12_copyRow_0 rfl ?_
  refine s_istore (ls' := [(4, .int 0), (0, rv g 48 0), (1, .int l1), (2, .int l2), (3, .int l3)]) dX12_copyRow_1 (by decide) rfl ?_
  refine s_sub (ls' := [(0, rv g 48 0), (1, .int l1), (2, .int l2), (3, .int l3), (4, .int 0)]) [1, 2, 3, 4, 0] rfl ?_
  refine sX12_copyRow_48_l3 g l1 l2 l3 _ (fun h3 => ?_) FU 0 h
  exact s_vret rfl dX12_copyRow_31
def fX12_copyRow_49_l3 (l1 : Int32) (l2 : Int32) (l3 : Int32) (K : Hp → Option (Unit × Hp)) (rec : Int32 → Hp → Option (Unit × Hp)) (l4 : Int32) (h : Hp) : Option (Unit × Hp) :=
  if l1 ≤ l4 then (K h)
  else (ck (ib ((l1 * l2) + l4) 648) (
  ck (ib ((l1 * l3) + l4) 648) (lt (wa h 49 0 ((l1 * l3) + l4) (ra h 49 0 ((l1 * l2) + l4))) fun h1 =>
  lt (l4 + 1) fun x2 =>
  rec x2 h1)))
def fX12_copyRow_49 (l1 : Int32) (l2 : Int32) (l3 : Int32) (h : Hp) : Option (Unit × Hp) :=
  itr1 (fX12_copyRow_49_l3 l1 l2 l3 (fun h3 => some ((), h3))) FU 0 h
set_option maxHeartbeats 4000000 in
set_option maxRecDepth 100000 in
theorem sX12_copyRow_49_l3 (g : GE) (l1 : Int32) (l2 : Int32) (l3 : Int32) (K : Hp → Option (Unit × Hp)) (hK : ∀ (h : Hp), Sim cvv 1 g mX12_copyRow 2 31 [] [] h (K  h)) : ∀ (n : Nat) (l4 : Int32) (h : Hp), Sim cvv 1 g mX12_copyRow 2 3 [(0, rv g 49 0), (1, .int l1), (2, .int l2), (3, .int l3), (4, .int l4)] [] h (itr1 (fX12_copyRow_49_l3 l1 l2 l3 K) n l4 h) := by
  refine s_itr1 (fun l4 h o => Sim cvv 1 g mX12_copyRow 2 3 [(0, rv g 49 0), (1, .int l1), (2, .int l2), (3, .int l3), (4, .int l4)] [] h o) (fun _ _ => s_none) ?_
  intro rec hrec l4 h
  unfold fX12_copyRow_49_l3
  refine s_iload 4 dX12_copyRow_3 rfl ?_
  refine s_iload_n 1 dX12_copyRow_5 rfl rfl ?_
  refine s_icmp_ge (tgt := 31) dX12_copyRow_6 (by decide) ?_ ?_
  ·
    refine s_sub [] rfl ?_
    exact hK h
  ·
    refine s_aload_n 0 dX12_copyRow_9 rfl rfl ?_
    refine s_iload_n 1 dX12_copyRow_10 rfl rfl ?_
    refine s_iload_n 3 dX12_copyRow_11 rfl rfl ?_
    refine s_imul dX12_copyRow_12 ?_
    refine s_iload 4 dX12_copyRow_13 rfl ?_
    refine s_iadd dX12_copyRow_15 ?_
    refine s_aload_n 0 dX12_copyRow_16 rfl rfl ?_
    refine s_iload_n 1 dX12_copyRow_17 rfl rfl ?_
    refine s_iload_n 2 dX12_copyRow_18 rfl rfl ?_
    refine s_imul dX12_copyRow_19 ?_
    refine s_iload 4 dX12_copyRow_20 rfl ?_
    refine s_iadd dX12_copyRow_22 ?_
    refine s_iald (s0 := 0) ka_49 dX12_copyRow_23 ?_
    refine s_iast (s0 := 0) ka_49 dX12_copyRow_24 (fun h1 => ?_)
    refine s_iincl 4 (w := 1) (fun x2 => [(4, .int x2), (0, rv g 49 0), (1, .int l1), (2, .int l2), (3, .int l3)]) dX12_copyRow_25 rfl rfl (by decide) (fun _ => rfl) (fun x2 => ?_)
    refine s_goto (tgt := 3) dX12_copyRow_28 (by decide) ?_
    refine s_sub [1, 2, 3, 4, 0] rfl ?_
    exact hrec x2 h1
set_option maxHeartbeats 4000000 in
set_option maxRecDepth 100000 in
theorem cX12_copyRow_49_ok (g : GE) (l1 : Int32) (l2 : Int32) (l3 : Int32) (h : Hp) : Con cvv 1 g mX12_copyRow 2 [rv g 49 0, .int l1, .int l2, .int l3] h (fX12_copyRow_49 l1 l2 l3 h) := by
  refine Con.of (by decide +kernel) (Nat.le_of_ble_eq_true rfl) ?_
  show Sim cvv 1 g mX12_copyRow 2 0 [(0, rv g 49 0), (1, .int l1), (2, .int l2), (3, .int l3)] [] h _
  unfold fX12_copyRow_49
  refine s_iconst (v := 0) dX12_copyRow_0 rfl ?_
  refine s_istore (ls' := [(4, .int 0), (0, rv g 49 0), (1, .int l1), (2, .int l2), (3, .int l3)]) dX12_copyRow_1 (by decide) rfl ?_
  refine s_sub (ls' := [(0, rv g 49 0), (1, .int l1), (2, .int l2), (3, .int l3), (4, .int 0)]) [1, 2, 3, 4, 0] rfl ?_
  refine sX12_copyRow_49_l3 g l1 l2 l3 _ (fun h3 => ?_) FU 0 h
  exact s_vret rfl dX12_copyRow_31
def fX12_copyRow_50_l3 (l1 : Int32) (l2 : Int32) (l3 : Int32) (K : Hp → Option (Unit × Hp)) (rec : Int32 → Hp → Option (Unit × Hp)) (l4 : Int32) (h : Hp) : Option (Unit × Hp) :=
  if l1 ≤ l4 then (K h)
  else (ck (ib ((l1 * l2) + l4) 208) (
  ck (ib ((l1 * l3) + l4) 208) (lt (wa h 50 0 ((l1 * l3) + l4) (ra h 50 0 ((l1 * l2) + l4))) fun h1 =>
  lt (l4 + 1) fun x2 =>
  rec x2 h1)))
def fX12_copyRow_50 (l1 : Int32) (l2 : Int32) (l3 : Int32) (h : Hp) : Option (Unit × Hp) :=
  itr1 (fX12_copyRow_50_l3 l1 l2 l3 (fun h3 => some ((), h3))) FU 0 h
set_option maxHeartbeats 4000000 in
set_option maxRecDepth 100000 in
theorem sX12_copyRow_50_l3 (g : GE) (l1 : Int32) (l2 : Int32) (l3 : Int32) (K : Hp → Option (Unit × Hp)) (hK : ∀ (h : Hp), Sim cvv 1 g mX12_copyRow 2 31 [] [] h (K  h)) : ∀ (n : Nat) (l4 : Int32) (h : Hp), Sim cvv 1 g mX12_copyRow 2 3 [(0, rv g 50 0), (1, .int l1), (2, .int l2), (3, .int l3), (4, .int l4)] [] h (itr1 (fX12_copyRow_50_l3 l1 l2 l3 K) n l4 h) := by
  refine s_itr1 (fun l4 h o => Sim cvv 1 g mX12_copyRow 2 3 [(0, rv g 50 0), (1, .int l1), (2, .int l2), (3, .int l3), (4, .int l4)] [] h o) (fun _ _ => s_none) ?_
  intro rec hrec l4 h
  unfold fX12_copyRow_50_l3
  refine s_iload 4 dX12_copyRow_3 rfl ?_
  refine s_iload_n 1 dX12_copyRow_5 rfl rfl ?_
  refine s_icmp_ge (tgt := 31) dX12_copyRow_6 (by decide) ?_ ?_
  ·
    refine s_sub [] rfl ?_
    exact hK h
  ·
    refine s_aload_n 0 dX12_copyRow_9 rfl rfl ?_
    refine s_iload_n 1 dX12_copyRow_10 rfl rfl ?_
    refine s_iload_n 3 dX12_copyRow_11 rfl rfl ?_
    refine s_imul dX12_copyRow_12 ?_
    refine s_iload 4 dX12_copyRow_13 rfl ?_
    refine s_iadd dX12_copyRow_15 ?_
    refine s_aload_n 0 dX12_copyRow_16 rfl rfl ?_
    refine s_iload_n 1 dX12_copyRow_17 rfl rfl ?_
    refine s_iload_n 2 dX12_copyRow_18 rfl rfl ?_
    refine s_imul dX12_copyRow_19 ?_
    refine s_iload 4 dX12_copyRow_20 rfl ?_
    refine s_iadd dX12_copyRow_22 ?_
    refine s_iald (s0 := 0) ka_50 dX12_copyRow_23 ?_
    refine s_iast (s0 := 0) ka_50 dX12_copyRow_24 (fun h1 => ?_)
    refine s_iincl 4 (w := 1) (fun x2 => [(4, .int x2), (0, rv g 50 0), (1, .int l1), (2, .int l2), (3, .int l3)]) dX12_copyRow_25 rfl rfl (by decide) (fun _ => rfl) (fun x2 => ?_)
    refine s_goto (tgt := 3) dX12_copyRow_28 (by decide) ?_
    refine s_sub [1, 2, 3, 4, 0] rfl ?_
    exact hrec x2 h1
set_option maxHeartbeats 4000000 in
set_option maxRecDepth 100000 in
theorem cX12_copyRow_50_ok (g : GE) (l1 : Int32) (l2 : Int32) (l3 : Int32) (h : Hp) : Con cvv 1 g mX12_copyRow 2 [rv g 50 0, .int l1, .int l2, .int l3] h (fX12_copyRow_50 l1 l2 l3 h) := by
  refine Con.of (by decide +kernel) (Nat.le_of_ble_eq_true rfl) ?_
  show Sim cvv 1 g mX12_copyRow 2 0 [(0, rv g 50 0), (1, .int l1), (2, .int l2), (3, .int l3)] [] h _
  unfold fX12_copyRow_50
  refine s_iconst (v := 0) dX12_copyRow_0 rfl ?_
  refine s_istore (ls' := [(4, .int 0), (0, rv g 50 0), (1, .int l1), (2, .int l2), (3, .int l3)]) dX12_copyRow_1 (by decide) rfl ?_
  refine s_sub (ls' := [(0, rv g 50 0), (1, .int l1), (2, .int l2), (3, .int l3), (4, .int 0)]) [1, 2, 3, 4, 0] rfl ?_
  refine sX12_copyRow_50_l3 g l1 l2 l3 _ (fun h3 => ?_) FU 0 h
  exact s_vret rfl dX12_copyRow_31
def fX12_copyAll_l2 (l1 : Int32) (l2 : Int32) (K : Hp → Option (Unit × Hp)) (rec : Int32 → Hp → Option (Unit × Hp)) (l3 : Int32) (h : Hp) : Option (Unit × Hp) :=
  if (600 : Int32) ≤ l3 then (K h)
  else (ck (ib (((600 : Int32) * l1) + l3) 2400) (
  ck (ib (((600 : Int32) * l2) + l3) 2400) (lt (wa h 43 0 (((600 : Int32) * l2) + l3) (vp_nar .byte (ra h 43 0 (((600 : Int32) * l1) + l3)))) fun h1 =>
  lt (l3 + 1) fun x2 =>
  rec x2 h1)))
def fX12_copyAll (l1 : Int32) (l2 : Int32) (h : Hp) : Option (Unit × Hp) :=
  itr1 (fX12_copyAll_l2 l1 l2 (fun h3 => bnd (fX12_copyRow_44 1 l1 l2 h3) fun _ h4 =>
  bnd (fX12_copyRow_45 1 l1 l2 h4) fun _ h5 =>
  bnd (fX12_copyRow_46 1 l1 l2 h5) fun _ h6 =>
  bnd (fX12_copyRow_47 3 l1 l2 h6) fun _ h7 =>
  bnd (fX12_copyRow_48 36 l1 l2 h7) fun _ h8 =>
  bnd (fX12_copyRow_49 162 l1 l2 h8) fun _ h9 =>
  bnd (fX12_copyRow_50 52 l1 l2 h9) fun _ h10 =>
  some ((), h10))) FU 0 h
set_option maxHeartbeats 4000000 in
set_option maxRecDepth 100000 in
theorem sX12_copyAll_l2 (g : GE) (l1 : Int32) (l2 : Int32) (K : Hp → Option (Unit × Hp)) (hK : ∀ (h : Hp), Sim cvv 1 g mX12_copyAll 3 39 [(0, rv g 10 0), (1, .int l1), (2, .int l2)] [] h (K  h)) : ∀ (n : Nat) (l3 : Int32) (h : Hp), Sim cvv 1 g mX12_copyAll 3 2 [(0, rv g 10 0), (1, .int l1), (2, .int l2), (3, .int l3)] [] h (itr1 (fX12_copyAll_l2 l1 l2 K) n l3 h) := by
  refine s_itr1 (fun l3 h o => Sim cvv 1 g mX12_copyAll 3 2 [(0, rv g 10 0), (1, .int l1), (2, .int l2), (3, .int l3)] [] h o) (fun _ _ => s_none) ?_
  intro rec hrec l3 h
  unfold fX12_copyAll_l2
  refine s_iload_n 3 dX12_copyAll_2 rfl rfl ?_
  refine s_sipush (v := 600) dX12_copyAll_3 rfl ?_
  refine s_icmp_ge (tgt := 39) dX12_copyAll_6 (by decide) ?_ ?_
  ·
    refine s_sub [0, 1, 2] rfl ?_
    exact hK h
  ·
    refine s_aload_n 0 dX12_copyAll_9 rfl rfl ?_
    refine s_getr (s0 := 0) dX12_copyAll_10 fl_X12_7 ?_
    refine s_sipush (v := 600) dX12_copyAll_13 rfl ?_
    refine s_iload_n 2 dX12_copyAll_16 rfl rfl ?_
    refine s_imul dX12_copyAll_17 ?_
    refine s_iload_n 3 dX12_copyAll_18 rfl rfl ?_
    refine s_iadd dX12_copyAll_19 ?_
    refine s_aload_n 0 dX12_copyAll_20 rfl rfl ?_
    refine s_getr (s0 := 0) dX12_copyAll_21 fl_X12_7 ?_
    refine s_sipush (v := 600) dX12_copyAll_24 rfl ?_
    refine s_iload_n 1 dX12_copyAll_27 rfl rfl ?_
    refine s_imul dX12_copyAll_28 ?_
    refine s_iload_n 3 dX12_copyAll_29 rfl rfl ?_
    refine s_iadd dX12_copyAll_30 ?_
    refine s_bald (s0 := 0) ka_43 dX12_copyAll_31 ?_
    refine s_bast (s0 := 0) ka_43 dX12_copyAll_32 (fun h1 => ?_)
    refine s_iincl 3 (w := 1) (fun x2 => [(3, .int x2), (0, rv g 10 0), (1, .int l1), (2, .int l2)]) dX12_copyAll_33 rfl rfl (by decide) (fun _ => rfl) (fun x2 => ?_)
    refine s_goto (tgt := 2) dX12_copyAll_36 (by decide) ?_
    refine s_sub [1, 2, 3, 0] rfl ?_
    exact hrec x2 h1
set_option maxHeartbeats 4000000 in
set_option maxRecDepth 100000 in
theorem cX12_copyAll_ok (g : GE) (l1 : Int32) (l2 : Int32) (h : Hp) : Con cvv 1 g mX12_copyAll 3 [rv g 10 0, .int l1, .int l2] h (fX12_copyAll l1 l2 h) := by
  refine Con.of (by decide +kernel) (Nat.le_of_ble_eq_true rfl) ?_
  show Sim cvv 1 g mX12_copyAll 3 0 [(0, rv g 10 0), (1, .int l1), (2, .int l2)] [] h _
  unfold fX12_copyAll
  refine s_iconst (v := 0) dX12_copyAll_0 rfl ?_
  refine s_istore_n (ls' := [(3, .int 0), (0, rv g 10 0), (1, .int l1), (2, .int l2)]) dX12_copyAll_1 rfl (by decide) rfl ?_
  refine s_sub (ls' := [(0, rv g 10 0), (1, .int l1), (2, .int l2), (3, .int 0)]) [1, 2, 3, 0] rfl ?_
  refine sX12_copyAll_l2 g l1 l2 _ (fun h3 => ?_) FU 0 h
  refine s_aload_n 0 dX12_copyAll_39 rfl rfl ?_
  refine s_getr (s0 := 0) dX12_copyAll_40 fl_X12_13 ?_
  refine s_iconst (v := 1) dX12_copyAll_43 rfl ?_
  refine s_iload_n 1 dX12_copyAll_44 rfl rfl ?_
  refine s_iload_n 2 dX12_copyAll_45 rfl rfl ?_
  refine s_callSv (As := [rv g 44 0, .int 1, .int l1, .int l2]) (rest := []) (cX12_copyRow_44_ok g 1 l1 l2 h3) sl_X12_96 rfl (Nat.le_of_ble_eq_true rfl) (Nat.le_of_ble_eq_true rfl) dX12_copyAll_46 rfl (fun h4 => ?_)
  refine s_aload_n 0 dX12_copyAll_49 rfl rfl ?_
  refine s_getr (s0 := 0) dX12_copyAll_50 fl_X12_17 ?_
  refine s_iconst (v := 1) dX12_copyAll_53 rfl ?_
  refine s_iload_n 1 dX12_copyAll_54 rfl rfl ?_
  refine s_iload_n 2 dX12_copyAll_55 rfl rfl ?_
  refine s_callSv (As := [rv g 45 0, .int 1, .int l1, .int l2]) (rest := []) (cX12_copyRow_45_ok g 1 l1 l2 h4) sl_X12_96 rfl (Nat.le_of_ble_eq_true rfl) (Nat.le_of_ble_eq_true rfl) dX12_copyAll_56 rfl (fun h5 => ?_)
  refine s_aload_n 0 dX12_copyAll_59 rfl rfl ?_
  refine s_getr (s0 := 0) dX12_copyAll_60 fl_X12_20 ?_
  refine s_iconst (v := 1) dX12_copyAll_63 rfl ?_
  refine s_iload_n 1 dX12_copyAll_64 rfl rfl ?_
  refine s_iload_n 2 dX12_copyAll_65 rfl rfl ?_
  refine s_callSv (As := [rv g 46 0, .int 1, .int l1, .int l2]) (rest := []) (cX12_copyRow_46_ok g 1 l1 l2 h5) sl_X12_96 rfl (Nat.le_of_ble_eq_true rfl) (Nat.le_of_ble_eq_true rfl) dX12_copyAll_66 rfl (fun h6 => ?_)
  refine s_aload_n 0 dX12_copyAll_69 rfl rfl ?_
  refine s_getr (s0 := 0) dX12_copyAll_70 fl_X12_23 ?_
  refine s_iconst (v := 3) dX12_copyAll_73 rfl ?_
  refine s_iload_n 1 dX12_copyAll_74 rfl rfl ?_
  refine s_iload_n 2 dX12_copyAll_75 rfl rfl ?_
  refine s_callSv (As := [rv g 47 0, .int 3, .int l1, .int l2]) (rest := []) (cX12_copyRow_47_ok g 3 l1 l2 h6) sl_X12_96 rfl (Nat.le_of_ble_eq_true rfl) (Nat.le_of_ble_eq_true rfl) dX12_copyAll_76 rfl (fun h7 => ?_)
  refine s_aload_n 0 dX12_copyAll_79 rfl rfl ?_
  refine s_getr (s0 := 0) dX12_copyAll_80 fl_X12_26 ?_
  refine s_bipush (v := 36) dX12_copyAll_83 rfl ?_
  refine s_iload_n 1 dX12_copyAll_85 rfl rfl ?_
  refine s_iload_n 2 dX12_copyAll_86 rfl rfl ?_
  refine s_callSv (As := [rv g 48 0, .int 36, .int l1, .int l2]) (rest := []) (cX12_copyRow_48_ok g 36 l1 l2 h7) sl_X12_96 rfl (Nat.le_of_ble_eq_true rfl) (Nat.le_of_ble_eq_true rfl) dX12_copyAll_87 rfl (fun h8 => ?_)
  refine s_aload_n 0 dX12_copyAll_90 rfl rfl ?_
  refine s_getr (s0 := 0) dX12_copyAll_91 fl_X12_29 ?_
  refine s_sipush (v := 162) dX12_copyAll_94 rfl ?_
  refine s_iload_n 1 dX12_copyAll_97 rfl rfl ?_
  refine s_iload_n 2 dX12_copyAll_98 rfl rfl ?_
  refine s_callSv (As := [rv g 49 0, .int 162, .int l1, .int l2]) (rest := []) (cX12_copyRow_49_ok g 162 l1 l2 h8) sl_X12_96 rfl (Nat.le_of_ble_eq_true rfl) (Nat.le_of_ble_eq_true rfl) dX12_copyAll_99 rfl (fun h9 => ?_)
  refine s_aload_n 0 dX12_copyAll_102 rfl rfl ?_
  refine s_getr (s0 := 0) dX12_copyAll_103 fl_X12_32 ?_
  refine s_bipush (v := 52) dX12_copyAll_106 rfl ?_
  refine s_iload_n 1 dX12_copyAll_108 rfl rfl ?_
  refine s_iload_n 2 dX12_copyAll_109 rfl rfl ?_
  refine s_callSv (As := [rv g 50 0, .int 52, .int l1, .int l2]) (rest := []) (cX12_copyRow_50_ok g 52 l1 l2 h9) sl_X12_96 rfl (Nat.le_of_ble_eq_true rfl) (Nat.le_of_ble_eq_true rfl) dX12_copyAll_110 rfl (fun h10 => ?_)
  exact s_vret rfl dX12_copyAll_113
def fX12_again (l1 : Int32) (h : Hp) : Option (Int32 × Hp) :=
  lt (wr h 10 0 0 0) fun h1 =>
  bnd (fX12_in l1 0 2 h1) fun x3 h2 =>
  if x3 = 0 then (ck (zk 0) (some (0, h2)))
  else (ck (ib l1 3) (
  if (ra h2 67 0 l1) = 0 then (ck (zk 0) (some (0, h2)))
  else (bnd (fX12_copyAll (l1 + (1 : Int32)) 0 h2) fun _ h4 =>
  ck (zk 1) (some (1, h4)))))
set_option maxHeartbeats 4000000 in
set_option maxRecDepth 100000 in
theorem cX12_again_ok (g : GE) (l1 : Int32) (h : Hp) : Con cvi 1 g mX12_again 4 [rv g 10 0, .int l1] h (fX12_again l1 h) := by
  refine Con.of (by decide +kernel) (Nat.le_of_ble_eq_true rfl) ?_
  show Sim cvi 1 g mX12_again 4 0 [(0, rv g 10 0), (1, .int l1)] [] h _
  unfold fX12_again
  refine s_aload_n 0 dX12_again_0 rfl rfl ?_
  refine s_iconst (v := 0) dX12_again_1 rfl ?_
  refine s_puti (s0 := 0) dX12_again_2 fl_X12_88 (fun h1 => ?_)
  refine s_iload_n 1 dX12_again_5 rfl rfl ?_
  refine s_iconst (v := 0) dX12_again_6 rfl ?_
  refine s_iconst (v := 2) dX12_again_7 rfl ?_
  refine s_callSi (As := [.int l1, .int 0, .int 2]) (rest := []) (cX12_in_ok g l1 0 2 h1) sl_X12_100 rfl (Nat.le_of_ble_eq_true rfl) (Nat.le_of_ble_eq_true rfl) dX12_again_8 rfl (fun x3 h2 => ?_)
  refine s_if_eq (tgt := 23) dX12_again_11 (by decide) ?_ ?_
  ·
    refine s_iconst (v := 0) dX12_again_23 rfl ?_
    exact s_zret rfl dX12_again_24
  ·
    refine s_aload_n 0 dX12_again_14 rfl rfl ?_
    refine s_getr (s0 := 0) dX12_again_15 fl_X12_84 ?_
    refine s_iload_n 1 dX12_again_18 rfl rfl ?_
    refine s_zald (s0 := 0) ka_67 dX12_again_19 ?_
    refine s_if_ne (tgt := 25) dX12_again_20 (by decide) ?_ ?_
    ·
      refine s_iconst (v := 0) dX12_again_23 rfl ?_
      exact s_zret rfl dX12_again_24
    ·
      refine s_aload_n 0 dX12_again_25 rfl rfl ?_
      refine s_iload_n 1 dX12_again_26 rfl rfl ?_
      refine s_iconst (v := 1) dX12_again_27 rfl ?_
      refine s_iadd dX12_again_28 ?_
      refine s_iconst (v := 0) dX12_again_29 rfl ?_
      refine s_callVv (s0 := 0) (As := [.int (l1 + (1 : Int32)), .int 0]) (rest := []) (cX12_copyAll_ok g (l1 + (1 : Int32)) 0 h2) vl_X12_542 rfl (Nat.le_of_ble_eq_true rfl) (Nat.le_of_ble_eq_true rfl) dX12_again_30 rfl (fun h4 => ?_)
      refine s_iconst (v := 1) dX12_again_33 rfl ?_
      exact s_zret rfl dX12_again_34
def fX12_fails (h : Hp) : Option (Int32 × Hp) :=
  lt (wr h 10 0 15 (rd h 10 0 11)) fun h1 =>
  ck (zk 0) (some (0, h1))
set_option maxHeartbeats 4000000 in
set_option maxRecDepth 100000 in
theorem cX12_fails_ok (g : GE) (h : Hp) : Con cvi 1 g mX12_fails 2 [rv g 10 0] h (fX12_fails h) := by
  refine Con.of (by decide +kernel) (Nat.le_of_ble_eq_true rfl) ?_
  show Sim cvi 1 g mX12_fails 2 0 [(0, rv g 10 0)] [] h _
  unfold fX12_fails
  refine s_aload_n 0 dX12_fails_0 rfl rfl ?_
  refine s_aload_n 0 dX12_fails_1 rfl rfl ?_
  refine s_geti (s0 := 0) dX12_fails_2 fl_X12_118 ?_
  refine s_puti (s0 := 0) dX12_fails_5 fl_X12_131 (fun h1 => ?_)
  refine s_iconst (v := 0) dX12_fails_8 rfl ?_
  exact s_zret rfl dX12_fails_9
def fX12_full (l1 : Int32) (l2 : Int32) (l3 : Int32) (h : Hp) : Option (Unit × Hp) :=
  ck (ib l1 81) (
  if (ra h 51 0 l1) = l2 then (bnd (fX12_addsFault 3 l3 h) fun _ h1 =>
  some ((), h1))
  else (some ((), h)))
set_option maxHeartbeats 4000000 in
set_option maxRecDepth 100000 in
theorem cX12_full_ok (g : GE) (l1 : Int32) (l2 : Int32) (l3 : Int32) (h : Hp) : Con cvv 1 g mX12_full 3 [rv g 10 0, .int l1, .int l2, .int l3] h (fX12_full l1 l2 l3 h) := by
  refine Con.of (by decide +kernel) (Nat.le_of_ble_eq_true rfl) ?_
  show Sim cvv 1 g mX12_full 3 0 [(0, rv g 10 0), (1, .int l1), (2, .int l2), (3, .int l3)] [] h _
  unfold fX12_full
  refine s_aload_n 0 dX12_full_0 rfl rfl ?_
  refine s_getr (s0 := 0) dX12_full_1 fl_X12_35 ?_
  refine s_iload_n 1 dX12_full_4 rfl rfl ?_
  refine s_iald (s0 := 0) ka_51 dX12_full_5 ?_
  refine s_iload_n 2 dX12_full_6 rfl rfl ?_
  refine s_icmp_ne (tgt := 16) dX12_full_7 (by decide) ?_ ?_
  ·
    refine s_aload_n 0 dX12_full_10 rfl rfl ?_
    refine s_iconst (v := 3) dX12_full_11 rfl ?_
    refine s_iload_n 3 dX12_full_12 rfl rfl ?_
    refine s_callVv (s0 := 0) (As := [.int 3, .int l3]) (rest := []) (cX12_addsFault_ok g 3 l3 h) vl_X12_144 rfl (Nat.le_of_ble_eq_true rfl) (Nat.le_of_ble_eq_true rfl) dX12_full_13 rfl (fun h1 => ?_)
    exact s_vret rfl dX12_full_16
  ·
    exact s_vret rfl dX12_full_16
def fX12_lesser (l0 : Int32) (l1 : Int32) (h : Hp) : Option (Int32 × Hp) :=
  if l1 ≤ l0 then (some (l1, h))
  else (some (l0, h))
set_option maxHeartbeats 4000000 in
set_option maxRecDepth 100000 in
theorem cX12_lesser_ok (g : GE) (l0 : Int32) (l1 : Int32) (h : Hp) : Con cvi 1 g mX12_lesser 2 [.int l0, .int l1] h (fX12_lesser l0 l1 h) := by
  refine Con.of (by decide +kernel) (Nat.le_of_ble_eq_true rfl) ?_
  show Sim cvi 1 g mX12_lesser 2 0 [(0, .int l0), (1, .int l1)] [] h _
  unfold fX12_lesser
  refine s_iload_n 0 dX12_lesser_0 rfl rfl ?_
  refine s_iload_n 1 dX12_lesser_1 rfl rfl ?_
  refine s_icmp_ge (tgt := 9) dX12_lesser_2 (by decide) ?_ ?_
  ·
    refine s_iload_n 1 dX12_lesser_9 rfl rfl ?_
    exact s_iret rfl dX12_lesser_10
  ·
    refine s_iload_n 0 dX12_lesser_5 rfl rfl ?_
    refine s_goto (tgt := 10) dX12_lesser_6 (by decide) ?_
    exact s_iret rfl dX12_lesser_10
def fX12_see (h : Hp) : Option (Int32 × Hp) :=
  if (rd h 10 0 10) ≤ (rd h 10 0 9) then (some ((-1), h))
  else (ck (ib (rd h 10 0 9) 2400) (
  some ((ra h 43 0 (rd h 10 0 9)) &&& (255 : Int32), h)))
set_option maxHeartbeats 4000000 in
set_option maxRecDepth 100000 in
theorem cX12_see_ok (g : GE) (h : Hp) : Con cvi 1 g mX12_see 2 [rv g 10 0] h (fX12_see h) := by
  refine Con.of (by decide +kernel) (Nat.le_of_ble_eq_true rfl) ?_
  show Sim cvi 1 g mX12_see 2 0 [(0, rv g 10 0)] [] h _
  unfold fX12_see
  refine s_aload_n 0 dX12_see_0 rfl rfl ?_
  refine s_geti (s0 := 0) dX12_see_1 fl_X12_108 ?_
  refine s_aload_n 0 dX12_see_4 rfl rfl ?_
  refine s_geti (s0 := 0) dX12_see_5 fl_X12_111 ?_
  refine s_icmp_ge (tgt := 27) dX12_see_8 (by decide) ?_ ?_
  ·
    refine s_iconst (v := (-1)) dX12_see_27 rfl ?_
    exact s_iret rfl dX12_see_28
  ·
    refine s_aload_n 0 dX12_see_11 rfl rfl ?_
    refine s_getr (s0 := 0) dX12_see_12 fl_X12_7 ?_
    refine s_aload_n 0 dX12_see_15 rfl rfl ?_
    refine s_geti (s0 := 0) dX12_see_16 fl_X12_108 ?_
    refine s_bald (s0 := 0) ka_43 dX12_see_19 ?_
    refine s_sipush (v := 255) dX12_see_20 rfl ?_
    refine s_iand dX12_see_23 ?_
    refine s_goto (tgt := 28) dX12_see_24 (by decide) ?_
    exact s_iret rfl dX12_see_28
def fX12_token_l0 (K : Hp → Option (Unit × Hp)) (rec : Hp → Option (Unit × Hp)) (h : Hp) : Option (Unit × Hp) :=
  bnd (fX12_see h) fun x2 h1 =>
  jn (κ := Hp → Option (Unit × Hp)) (fun h4 => lt (wr h4 10 0 9 ((rd h4 10 0 9) + (1 : Int32))) fun h5 =>
  rec h5) fun k18_2 =>
  if x2 = 10 then (k18_2 h1)
  else (bnd (fX12_see h1) fun x7 h6 =>
  if x7 = 32 then (k18_2 h6)
  else (K h6))
def fX12_token_l163 (K : Int32 → Hp → Option (Unit × Hp)) (rec : Int32 → Hp → Option (Unit × Hp)) (l2 : Int32) (h : Hp) : Option (Unit × Hp) :=
  bnd (fX12_see h) fun x23 h22 =>
  bnd (fX12_in x23 48 57 h22) fun x25 h24 =>
  if x25 = 0 then (K l2 h24)
  else (jn (κ := Int32 → Hp → Option (Unit × Hp)) (fun z0_25 h27 => lt (wr h27 10 0 13 z0_25) fun h28 =>
  lt (wr h28 10 0 9 ((rd h28 10 0 9) + (1 : Int32))) fun h29 =>
  lt (l2 + 1) fun x30 =>
  rec x30 h29) fun k205_25 =>
  if (2 : Int32) ≤ l2 then (k205_25 (rd h24 10 0 13) h24)
  else (bnd (fX12_see h24) fun x32 h31 =>
  k205_25 ((((10 : Int32) * (rd h24 10 0 13)) + x32) - (48 : Int32)) h31))
def fX12_token_l74 (K : Int32 → Hp → Option (Unit × Hp)) (rec : Int32 → Hp → Option (Unit × Hp)) (l2 : Int32) (h : Hp) : Option (Unit × Hp) :=
  bnd (fX12_see h) fun x39 h38 =>
  bnd (fX12_in x39 97 122 h38) fun x41 h40 =>
  if x41 = 0 then (K l2 h40)
  else (bnd (fX12_see h40) fun x43 h42 =>
  lt (wl h42 (((h40.2) <<< ((8 : Int32).toInt64 &&& 63)) ||| (x43.toInt64))) fun h44 =>
  lt (wr h44 10 0 9 ((rd h44 10 0 9) + (1 : Int32))) fun h45 =>
  lt (l2 + 1) fun x46 =>
  rec x46 h45)
def fX12_token (h : Hp) : Option (Unit × Hp) :=
  itr0 (fX12_token_l0 (fun h8 => lt (wr h8 10 0 11 (rd h8 10 0 9)) fun h9 =>
  bnd (fX12_see h9) fun x11 h10 =>
  lt (wl h10 0) fun h12 =>
  if (0 : Int32) ≤ x11 then (bnd (fX12_in x11 97 122 h12) fun x14 h13 =>
  if x14 = 0 then (bnd (fX12_in x11 48 57 h13) fun x16 h15 =>
  if x16 = 0 then (lt (wr h15 10 0 9 ((rd h15 10 0 9) + (1 : Int32))) fun h17 =>
  jn (κ := Int32 → Hp → Option (Unit × Hp)) (fun z0_17 h19 => lt (wr h19 10 0 12 z0_17) fun h20 =>
  some ((), h20)) fun k263_17 =>
  if x11 = 59 then (k263_17 4 h17)
  else (k263_17 1 h17))
  else (lt (wr h15 10 0 13 0) fun h21 =>
  itr1 (fX12_token_l163 (fun y33 h34 => jn (κ := Int32 → Hp → Option (Unit × Hp)) (fun z0_34 h36 => lt (wr h36 10 0 12 z0_34) fun h37 =>
  some ((), h37)) fun k235_34 =>
  if y33 ≤ 2 then (k235_34 3 h34)
  else (k235_34 1 h34))) FU 0 h21))
  else (itr1 (fX12_token_l74 (fun y47 h48 => jn (κ := Int64 → Hp → Option (Unit × Hp)) (fun z0_48 h50 => lt (wl h50 z0_48) fun h51 =>
  lt (wr h51 10 0 12 2) fun h52 =>
  some ((), h52)) fun k136_48 =>
  if y47 ≤ 8 then (k136_48 (h48.2) h48)
  else (k136_48 0 h48))) FU 0 h13))
  else (lt (wr h12 10 0 12 0) fun h53 =>
  some ((), h53)))) FU h
set_option maxHeartbeats 4000000 in
set_option maxRecDepth 100000 in
theorem sX12_token_l0 (g : GE) (K : Hp → Option (Unit × Hp)) (hK : ∀ (h : Hp), Sim cvv 1 g mX12_token 3 31 [(0, rv g 10 0)] [] h (K  h)) : ∀ (n : Nat) (h : Hp), Sim cvv 1 g mX12_token 3 0 [(0, rv g 10 0)] [] h (itr0 (fX12_token_l0 K) n  h) := by
  refine s_itr0 (fun h o => Sim cvv 1 g mX12_token 3 0 [(0, rv g 10 0)] [] h o) (fun _ => s_none) ?_
  intro rec hrec  h
  unfold fX12_token_l0
  refine s_aload_n 0 dX12_token_0 rfl rfl ?_
  refine s_callVi (s0 := 0) (As := []) (rest := []) (cX12_see_ok g h) vl_X12_114 rfl (Nat.le_of_ble_eq_true rfl) (Nat.le_of_ble_eq_true rfl) dX12_token_1 rfl (fun x2 h1 => ?_)
  refine s_bipush (v := 10) dX12_token_4 rfl ?_
  refine s_jn (fun (k18_2 : Hp → Option (Unit × Hp)) => ∀ (h4 : Hp), Sim cvv 1 g mX12_token 3 18 [(0, rv g 10 0)] [] h4 (k18_2 h4)) (fun h4 => ?_) (fun k18_2 Hk18_2 => ?_)
  ·
    refine s_aload_n 0 dX12_token_18 rfl rfl ?_
    refine s_dup dX12_token_19 rfl ?_
    refine s_geti (s0 := 0) dX12_token_20 fl_X12_108 ?_
    refine s_iconst (v := 1) dX12_token_23 rfl ?_
    refine s_iadd dX12_token_24 ?_
    refine s_puti (s0 := 0) dX12_token_25 fl_X12_108 (fun h5 => ?_)
    refine s_goto (tgt := 0) dX12_token_28 (by decide) ?_
    exact hrec h5
  refine s_icmp_eq (tgt := 18) dX12_token_6 (by decide) ?_ ?_
  ·
    exact Hk18_2 h1
  ·
    refine s_aload_n 0 dX12_token_9 rfl rfl ?_
    refine s_callVi (s0 := 0) (As := []) (rest := []) (cX12_see_ok g h1) vl_X12_114 rfl (Nat.le_of_ble_eq_true rfl) (Nat.le_of_ble_eq_true rfl) dX12_token_10 rfl (fun x7 h6 => ?_)
    refine s_bipush (v := 32) dX12_token_13 rfl ?_
    refine s_icmp_ne (tgt := 31) dX12_token_15 (by decide) ?_ ?_
    ·
      exact Hk18_2 h6
    ·
      exact hK h6
set_option maxHeartbeats 4000000 in
set_option maxRecDepth 100000 in
theorem sX12_token_l163 (g : GE) (K : Int32 → Hp → Option (Unit × Hp)) (hK : ∀ (y2 : Int32) (h : Hp), Sim cvv 1 g mX12_token 3 224 [(0, rv g 10 0), (2, .int y2)] [] h (K y2 h)) : ∀ (n : Nat) (l2 : Int32) (h : Hp), Sim cvv 1 g mX12_token 3 163 [(0, rv g 10 0), (2, .int l2)] [] h (itr1 (fX12_token_l163 K) n l2 h) := by
  refine s_itr1 (fun l2 h o => Sim cvv 1 g mX12_token 3 163 [(0, rv g 10 0), (2, .int l2)] [] h o) (fun _ _ => s_none) ?_
  intro rec hrec l2 h
  unfold fX12_token_l163
  refine s_aload_n 0 dX12_token_163 rfl rfl ?_
  refine s_callVi (s0 := 0) (As := []) (rest := []) (cX12_see_ok g h) vl_X12_114 rfl (Nat.le_of_ble_eq_true rfl) (Nat.le_of_ble_eq_true rfl) dX12_token_164 rfl (fun x23 h22 => ?_)
  refine s_bipush (v := 48) dX12_token_167 rfl ?_
  refine s_bipush (v := 57) dX12_token_169 rfl ?_
  refine s_callSi (As := [.int x23, .int 48, .int 57]) (rest := []) (cX12_in_ok g x23 48 57 h22) sl_X12_100 rfl (Nat.le_of_ble_eq_true rfl) (Nat.le_of_ble_eq_true rfl) dX12_token_171 rfl (fun x25 h24 => ?_)
  refine s_if_eq (tgt := 224) dX12_token_174 (by decide) ?_ ?_
  ·
    exact hK l2 h24
  ·
    refine s_aload_n 0 dX12_token_177 rfl rfl ?_
    refine s_iload_n 1 dX12_token_178 rfl rfl ?_
    refine s_iconst (v := 2) dX12_token_179 rfl ?_
    refine s_jn (fun (k205_25 : Int32 → Hp → Option (Unit × Hp)) => ∀ (z0_25 : Int32) (h27 : Hp), Sim cvv 1 g mX12_token 3 205 [(0, rv g 10 0), (2, .int l2)] [.int z0_25, rv g 10 0] h27 (k205_25 z0_25 h27)) (fun z0_25 h27 => ?_) (fun k205_25 Hk205_25 => ?_)
    ·
      refine s_puti (s0 := 0) dX12_token_205 fl_X12_128 (fun h28 => ?_)
      refine s_aload_n 0 dX12_token_208 rfl rfl ?_
      refine s_dup dX12_token_209 rfl ?_
      refine s_geti (s0 := 0) dX12_token_210 fl_X12_108 ?_
      refine s_iconst (v := 1) dX12_token_213 rfl ?_
      refine s_iadd dX12_token_214 ?_
      refine s_puti (s0 := 0) dX12_token_215 fl_X12_108 (fun h29 => ?_)
      refine s_iincl 1 (w := 1) (fun x30 => [(2, .int x30), (0, rv g 10 0)]) dX12_token_218 rfl rfl (by decide) (fun _ => rfl) (fun x30 => ?_)
      refine s_goto (tgt := 163) dX12_token_221 (by decide) ?_
      refine s_sub [1, 0] rfl ?_
      exact hrec x30 h29
    refine s_icmp_ge (tgt := 201) dX12_token_180 (by decide) ?_ ?_
    ·
      refine s_aload_n 0 dX12_token_201 rfl rfl ?_
      refine s_geti (s0 := 0) dX12_token_202 fl_X12_128 ?_
      exact Hk205_25 (rd h24 10 0 13) h24
    ·
      refine s_bipush (v := 10) dX12_token_183 rfl ?_
      refine s_aload_n 0 dX12_token_185 rfl rfl ?_
      refine s_geti (s0 := 0) dX12_token_186 fl_X12_128 ?_
      refine s_imul dX12_token_189 ?_
      refine s_aload_n 0 dX12_token_190 rfl rfl ?_
      refine s_callVi (s0 := 0) (As := []) (rest := [.int ((10 : Int32) * (rd h24 10 0 13)), rv g 10 0]) (cX12_see_ok g h24) vl_X12_114 rfl (Nat.le_of_ble_eq_true rfl) (Nat.le_of_ble_eq_true rfl) dX12_token_191 rfl (fun x32 h31 => ?_)
      refine s_iadd dX12_token_194 ?_
      refine s_bipush (v := 48) dX12_token_195 rfl ?_
      refine s_isub dX12_token_197 ?_
      refine s_goto (tgt := 205) dX12_token_198 (by decide) ?_
      exact Hk205_25 ((((10 : Int32) * (rd h24 10 0 13)) + x32) - (48 : Int32)) h31
set_option maxHeartbeats 4000000 in
set_option maxRecDepth 100000 in
theorem sX12_token_l74 (g : GE) (K : Int32 → Hp → Option (Unit × Hp)) (hK : ∀ (y2 : Int32) (h : Hp), Sim cvv 1 g mX12_token 3 121 [(0, rv g 10 0), (2, .int y2)] [] h (K y2 h)) : ∀ (n : Nat) (l2 : Int32) (h : Hp), Sim cvv 1 g mX12_token 3 74 [(0, rv g 10 0), (2, .int l2)] [] h (itr1 (fX12_token_l74 K) n l2 h) := by
  refine s_itr1 (fun l2 h o => Sim cvv 1 g mX12_token 3 74 [(0, rv g 10 0), (2, .int l2)] [] h o) (fun _ _ => s_none) ?_
  intro rec hrec l2 h
  unfold fX12_token_l74
  refine s_aload_n 0 dX12_token_74 rfl rfl ?_
  refine s_callVi (s0 := 0) (As := []) (rest := []) (cX12_see_ok g h) vl_X12_114 rfl (Nat.le_of_ble_eq_true rfl) (Nat.le_of_ble_eq_true rfl) dX12_token_75 rfl (fun x39 h38 => ?_)
  refine s_bipush (v := 97) dX12_token_78 rfl ?_
  refine s_bipush (v := 122) dX12_token_80 rfl ?_
  refine s_callSi (As := [.int x39, .int 97, .int 122]) (rest := []) (cX12_in_ok g x39 97 122 h38) sl_X12_100 rfl (Nat.le_of_ble_eq_true rfl) (Nat.le_of_ble_eq_true rfl) dX12_token_82 rfl (fun x41 h40 => ?_)
  refine s_if_eq (tgt := 121) dX12_token_85 (by decide) ?_ ?_
  ·
    exact hK l2 h40
  ·
    refine s_aload_n 0 dX12_token_88 rfl rfl ?_
    refine s_aload_n 0 dX12_token_89 rfl rfl ?_
    refine s_getl (s0 := 0) dX12_token_90 fl_X12_121 ?_
    refine s_bipush (v := 8) dX12_token_93 rfl ?_
    refine s_lshl dX12_token_95 ?_
    refine s_aload_n 0 dX12_token_96 rfl rfl ?_
    refine s_callVi (s0 := 0) (As := []) (rest := [.long ((h40.2) <<< ((8 : Int32).toInt64 &&& 63)), rv g 10 0]) (cX12_see_ok g h40) vl_X12_114 rfl (Nat.le_of_ble_eq_true rfl) (Nat.le_of_ble_eq_true rfl) dX12_token_97 rfl (fun x43 h42 => ?_)
    refine s_i2l dX12_token_100 ?_
    refine s_lor dX12_token_101 ?_
    refine s_putl (s0 := 0) one_long dX12_token_102 fl_X12_121 (fun h44 => ?_)
    refine s_aload_n 0 dX12_token_105 rfl rfl ?_
    refine s_dup dX12_token_106 rfl ?_
    refine s_geti (s0 := 0) dX12_token_107 fl_X12_108 ?_
    refine s_iconst (v := 1) dX12_token_110 rfl ?_
    refine s_iadd dX12_token_111 ?_
    refine s_puti (s0 := 0) dX12_token_112 fl_X12_108 (fun h45 => ?_)
    refine s_iincl 1 (w := 1) (fun x46 => [(2, .int x46), (0, rv g 10 0)]) dX12_token_115 rfl rfl (by decide) (fun _ => rfl) (fun x46 => ?_)
    refine s_goto (tgt := 74) dX12_token_118 (by decide) ?_
    refine s_sub [1, 0] rfl ?_
    exact hrec x46 h45
set_option maxHeartbeats 4000000 in
set_option maxRecDepth 100000 in
theorem cX12_token_ok (g : GE) (h : Hp) : Con cvv 1 g mX12_token 3 [rv g 10 0] h (fX12_token h) := by
  refine Con.of (by decide +kernel) (Nat.le_of_ble_eq_true rfl) ?_
  show Sim cvv 1 g mX12_token 3 0 [(0, rv g 10 0)] [] h _
  unfold fX12_token
  refine s_sub (ls' := [(0, rv g 10 0)]) [0] rfl ?_
  refine sX12_token_l0 g _ (fun h8 => ?_) FU h
  refine s_aload_n 0 dX12_token_31 rfl rfl ?_
  refine s_aload_n 0 dX12_token_32 rfl rfl ?_
  refine s_geti (s0 := 0) dX12_token_33 fl_X12_108 ?_
  refine s_puti (s0 := 0) dX12_token_36 fl_X12_118 (fun h9 => ?_)
  refine s_aload_n 0 dX12_token_39 rfl rfl ?_
  refine s_callVi (s0 := 0) (As := []) (rest := []) (cX12_see_ok g h9) vl_X12_114 rfl (Nat.le_of_ble_eq_true rfl) (Nat.le_of_ble_eq_true rfl) dX12_token_40 rfl (fun x11 h10 => ?_)
  refine s_istore_n (ls' := [(1, .int x11), (0, rv g 10 0)]) dX12_token_43 rfl (by decide) rfl ?_
  refine s_aload_n 1 dX12_token_44 rfl rfl ?_
  refine s_lconst (v := 0) dX12_token_45 rfl ?_
  refine s_putl (s0 := 0) one_long dX12_token_46 fl_X12_121 (fun h12 => ?_)
  refine s_iconst (v := 0) dX12_token_49 rfl ?_
  refine s_istore_n (ls' := [(2, .int 0), (1, .int x11), (0, rv g 10 0)]) dX12_token_50 rfl (by decide) rfl ?_
  refine s_iload_n 1 dX12_token_51 rfl rfl ?_
  refine s_if_ge (tgt := 63) dX12_token_52 (by decide) ?_ ?_
  ·
    refine s_iload_n 1 dX12_token_63 rfl rfl ?_
    refine s_bipush (v := 97) dX12_token_64 rfl ?_
    refine s_bipush (v := 122) dX12_token_66 rfl ?_
    refine s_callSi (As := [.int x11, .int 97, .int 122]) (rest := []) (cX12_in_ok g x11 97 122 h12) sl_X12_100 rfl (Nat.le_of_ble_eq_true rfl) (Nat.le_of_ble_eq_true rfl) dX12_token_68 rfl (fun x14 h13 => ?_)
    refine s_if_eq (tgt := 147) dX12_token_71 (by decide) ?_ ?_
    ·
      refine s_iload_n 1 dX12_token_147 rfl rfl ?_
      refine s_bipush (v := 48) dX12_token_148 rfl ?_
      refine s_bipush (v := 57) dX12_token_150 rfl ?_
      refine s_callSi (As := [.int x11, .int 48, .int 57]) (rest := []) (cX12_in_ok g x11 48 57 h13) sl_X12_100 rfl (Nat.le_of_ble_eq_true rfl) (Nat.le_of_ble_eq_true rfl) dX12_token_152 rfl (fun x16 h15 => ?_)
      refine s_if_eq (tgt := 241) dX12_token_155 (by decide) ?_ ?_
      ·
        refine s_aload_n 2 dX12_token_241 rfl rfl ?_
        refine s_dup dX12_token_242 rfl ?_
        refine s_geti (s0 := 0) dX12_token_243 fl_X12_108 ?_
        refine s_iconst (v := 1) dX12_token_246 rfl ?_
        refine s_iadd dX12_token_247 ?_
        refine s_puti (s0 := 0) dX12_token_248 fl_X12_108 (fun h17 => ?_)
        refine s_aload_n 2 dX12_token_251 rfl rfl ?_
        refine s_iload_n 1 dX12_token_252 rfl rfl ?_
        refine s_bipush (v := 59) dX12_token_253 rfl ?_
        refine s_jn (fun (k263_17 : Int32 → Hp → Option (Unit × Hp)) => ∀ (z0_17 : Int32) (h19 : Hp), Sim cvv 1 g mX12_token 3 263 [] [.int z0_17, rv g 10 0] h19 (k263_17 z0_17 h19)) (fun z0_17 h19 => ?_) (fun k263_17 Hk263_17 => ?_)
        ·
          refine s_puti (s0 := 0) dX12_token_263 fl_X12_125 (fun h20 => ?_)
          exact s_vret rfl dX12_token_266
        refine s_icmp_ne (tgt := 262) dX12_token_255 (by decide) ?_ ?_
        ·
          refine s_iconst (v := 4) dX12_token_258 rfl ?_
          refine s_goto (tgt := 263) dX12_token_259 (by decide) ?_
          refine s_sub [] rfl ?_
          exact Hk263_17 4 h17
        ·
          refine s_iconst (v := 1) dX12_token_262 rfl ?_
          refine s_sub [] rfl ?_
          exact Hk263_17 1 h17
      ·
        refine s_aload_n 2 dX12_token_158 rfl rfl ?_
        refine s_iconst (v := 0) dX12_token_159 rfl ?_
        refine s_puti (s0 := 0) dX12_token_160 fl_X12_128 (fun h21 => ?_)
        refine s_sub (ls' := [(0, rv g 10 0), (2, .int 0)]) [2, 0] rfl ?_
        refine sX12_token_l163 g _ (fun y33 h34 => ?_) FU 0 h21
        refine s_aload_n 0 dX12_token_224 rfl rfl ?_
        refine s_iload_n 1 dX12_token_225 rfl rfl ?_
        refine s_iconst (v := 2) dX12_token_226 rfl ?_
        refine s_jn (fun (k235_34 : Int32 → Hp → Option (Unit × Hp)) => ∀ (z0_34 : Int32) (h36 : Hp), Sim cvv 1 g mX12_token 3 235 [] [.int z0_34, rv g 10 0] h36 (k235_34 z0_34 h36)) (fun z0_34 h36 => ?_) (fun k235_34 Hk235_34 => ?_)
        ·
          refine s_puti (s0 := 0) dX12_token_235 fl_X12_125 (fun h37 => ?_)
          refine s_goto (tgt := 266) dX12_token_238 (by decide) ?_
          exact s_vret rfl dX12_token_266
        refine s_icmp_le (tgt := 234) dX12_token_227 (by decide) ?_ ?_
        ·
          refine s_iconst (v := 3) dX12_token_234 rfl ?_
          refine s_sub [] rfl ?_
          exact Hk235_34 3 h34
        ·
          refine s_iconst (v := 1) dX12_token_230 rfl ?_
          refine s_goto (tgt := 235) dX12_token_231 (by decide) ?_
          refine s_sub [] rfl ?_
          exact Hk235_34 1 h34
    ·
      refine s_sub (ls' := [(0, rv g 10 0), (2, .int 0)]) [2, 0] rfl ?_
      refine sX12_token_l74 g _ (fun y47 h48 => ?_) FU 0 h13
      refine s_aload_n 0 dX12_token_121 rfl rfl ?_
      refine s_iload_n 1 dX12_token_122 rfl rfl ?_
      refine s_bipush (v := 8) dX12_token_123 rfl ?_
      refine s_jn (fun (k136_48 : Int64 → Hp → Option (Unit × Hp)) => ∀ (z0_48 : Int64) (h50 : Hp), Sim cvv 1 g mX12_token 3 136 [(0, rv g 10 0)] [.long z0_48, rv g 10 0] h50 (k136_48 z0_48 h50)) (fun z0_48 h50 => ?_) (fun k136_48 Hk136_48 => ?_)
      ·
        refine s_putl (s0 := 0) one_long dX12_token_136 fl_X12_121 (fun h51 => ?_)
        refine s_aload_n 0 dX12_token_139 rfl rfl ?_
        refine s_iconst (v := 2) dX12_token_140 rfl ?_
        refine s_puti (s0 := 0) dX12_token_141 fl_X12_125 (fun h52 => ?_)
        refine s_goto (tgt := 266) dX12_token_144 (by decide) ?_
        exact s_vret rfl dX12_token_266
      refine s_icmp_le (tgt := 132) dX12_token_125 (by decide) ?_ ?_
      ·
        refine s_aload_n 0 dX12_token_132 rfl rfl ?_
        refine s_getl (s0 := 0) dX12_token_133 fl_X12_121 ?_
        refine s_sub [0] rfl ?_
        exact Hk136_48 (h48.2) h48
      ·
        refine s_lconst (v := 0) dX12_token_128 rfl ?_
        refine s_goto (tgt := 136) dX12_token_129 (by decide) ?_
        refine s_sub [0] rfl ?_
        exact Hk136_48 0 h48
  ·
    refine s_aload_n 2 dX12_token_55 rfl rfl ?_
    refine s_iconst (v := 0) dX12_token_56 rfl ?_
    refine s_puti (s0 := 0) dX12_token_57 fl_X12_125 (fun h53 => ?_)
    refine s_goto (tgt := 266) dX12_token_60 (by decide) ?_
    exact s_vret rfl dX12_token_266
def fX12_take (l1 : Int32) (l2 : Int32) (l3 : Int32) (h : Hp) : Option (Int32 × Hp) :=
  if (rd h 10 0 12) = 3 then (ck (ib l1 3) (lt (wa h 52 0 l1 (rd h 10 0 13)) fun h1 =>
  bnd (fX12_in (rd h1 10 0 13) l2 l3 h1) fun x3 h2 =>
  jn (κ := Hp → Option (Int32 × Hp)) (fun h5 => bnd (fX12_token h5) fun _ h6 =>
  ck (zk 1) (some (1, h6))) fun k49_3 =>
  if x3 = 0 then (bnd (fX12_addsFault 2 (rd h2 10 0 11) h2) fun _ h7 =>
  ck (zk 0) (lt (wr h7 10 0 20 0) fun h8 =>
  k49_3 h8))
  else (k49_3 h2)))
  else (bnd (fX12_fails h) fun x10 h9 =>
  ck (zk x10) (some (x10, h9)))
set_option maxHeartbeats 4000000 in
set_option maxRecDepth 100000 in
theorem cX12_take_ok (g : GE) (l1 : Int32) (l2 : Int32) (l3 : Int32) (h : Hp) : Con cvi 1 g mX12_take 4 [rv g 10 0, .int l1, .int l2, .int l3] h (fX12_take l1 l2 l3 h) := by
  refine Con.of (by decide +kernel) (Nat.le_of_ble_eq_true rfl) ?_
  show Sim cvi 1 g mX12_take 4 0 [(0, rv g 10 0), (1, .int l1), (2, .int l2), (3, .int l3)] [] h _
  unfold fX12_take
  refine s_aload_n 0 dX12_take_0 rfl rfl ?_
  refine s_geti (s0 := 0) dX12_take_1 fl_X12_125 ?_
  refine s_iconst (v := 3) dX12_take_4 rfl ?_
  refine s_icmp_eq (tgt := 13) dX12_take_5 (by decide) ?_ ?_
  ·
    refine s_aload_n 0 dX12_take_13 rfl rfl ?_
    refine s_getr (s0 := 0) dX12_take_14 fl_X12_38 ?_
    refine s_iload_n 1 dX12_take_17 rfl rfl ?_
    refine s_aload_n 0 dX12_take_18 rfl rfl ?_
    refine s_geti (s0 := 0) dX12_take_19 fl_X12_128 ?_
    refine s_iast (s0 := 0) ka_52 dX12_take_22 (fun h1 => ?_)
    refine s_aload_n 0 dX12_take_23 rfl rfl ?_
    refine s_geti (s0 := 0) dX12_take_24 fl_X12_128 ?_
    refine s_iload_n 2 dX12_take_27 rfl rfl ?_
    refine s_iload_n 3 dX12_take_28 rfl rfl ?_
    refine s_callSi (As := [.int (rd h1 10 0 13), .int l2, .int l3]) (rest := []) (cX12_in_ok g (rd h1 10 0 13) l2 l3 h1) sl_X12_100 rfl (Nat.le_of_ble_eq_true rfl) (Nat.le_of_ble_eq_true rfl) dX12_take_29 rfl (fun x3 h2 => ?_)
    refine s_jn (fun (k49_3 : Hp → Option (Int32 × Hp)) => ∀ (h5 : Hp), Sim cvi 1 g mX12_take 4 49 [(0, rv g 10 0)] [] h5 (k49_3 h5)) (fun h5 => ?_) (fun k49_3 Hk49_3 => ?_)
    ·
      refine s_aload_n 0 dX12_take_49 rfl rfl ?_
      refine s_callVv (s0 := 0) (As := []) (rest := []) (cX12_token_ok g h5) vl_X12_152 rfl (Nat.le_of_ble_eq_true rfl) (Nat.le_of_ble_eq_true rfl) dX12_take_50 rfl (fun h6 => ?_)
      refine s_iconst (v := 1) dX12_take_53 rfl ?_
      exact s_zret rfl dX12_take_54
    refine s_if_ne (tgt := 49) dX12_take_32 (by decide) ?_ ?_
    ·
      refine s_aload_n 0 dX12_take_35 rfl rfl ?_
      refine s_iconst (v := 2) dX12_take_36 rfl ?_
      refine s_aload_n 0 dX12_take_37 rfl rfl ?_
      refine s_geti (s0 := 0) dX12_take_38 fl_X12_118 ?_
      refine s_callVv (s0 := 0) (As := [.int 2, .int (rd h2 10 0 11)]) (rest := []) (cX12_addsFault_ok g 2 (rd h2 10 0 11) h2) vl_X12_144 rfl (Nat.le_of_ble_eq_true rfl) (Nat.le_of_ble_eq_true rfl) dX12_take_41 rfl (fun h7 => ?_)
      refine s_aload_n 0 dX12_take_44 rfl rfl ?_
      refine s_iconst (v := 0) dX12_take_45 rfl ?_
      refine s_putz (s0 := 0) dX12_take_46 fl_X12_148 (fun h8 => ?_)
      refine s_sub [0] rfl ?_
      exact Hk49_3 h8
    ·
      refine s_sub [0] rfl ?_
      exact Hk49_3 h2
  ·
    refine s_aload_n 0 dX12_take_8 rfl rfl ?_
    refine s_callVi (s0 := 0) (As := []) (rest := []) (cX12_fails_ok g h) vl_X12_140 rfl (Nat.le_of_ble_eq_true rfl) (Nat.le_of_ble_eq_true rfl) dX12_take_9 rfl (fun x10 h9 => ?_)
    exact s_zret rfl dX12_take_12
