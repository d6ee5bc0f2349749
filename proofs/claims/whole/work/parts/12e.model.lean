def fX12_count (l1 : Int32) (h : Hp) : Option (Int32 × Hp) :=
  lt (wr h 10 0 0 0) fun h1 =>
  bnd (fX12_in l1 0 2 h1) fun x3 h2 =>
  if x3 = 0 then (some ((-2), h2))
  else (ck (ib l1 12) (
  some (ra h2 47 0 l1, h2)))
set_option maxHeartbeats 4000000 in
set_option maxRecDepth 100000 in
theorem cX12_count_ok (g : GE) (l1 : Int32) (h : Hp) : Con cvi 1 g mX12_count 3 [rv g 10 0, .int l1] h (fX12_count l1 h) := by
  refine Con.of (by decide +kernel) (Nat.le_of_ble_eq_true rfl) ?_
  show Sim cvi 1 g mX12_count 3 0 [(0, rv g 10 0), (1, .int l1)] [] h _
  unfold fX12_count
  refine s_aload_n 0 dX12_count_0 rfl rfl ?_
  refine s_iconst (v := 0) dX12_count_1 rfl ?_
  refine s_puti (s0 := 0) dX12_count_2 fl_X12_88 (fun h1 => ?_)
  refine s_iload_n 1 dX12_count_5 rfl rfl ?_
  refine s_iconst (v := 0) dX12_count_6 rfl ?_
  refine s_iconst (v := 2) dX12_count_7 rfl ?_
  refine s_callSi (As := [.int l1, .int 0, .int 2]) (rest := []) (cX12_in_ok g l1 0 2 h1) sl_X12_100 rfl (Nat.le_of_ble_eq_true rfl) (Nat.le_of_ble_eq_true rfl) dX12_count_8 rfl (fun x3 h2 => ?_)
  refine s_if_eq (tgt := 23) dX12_count_11 (by decide) ?_ ?_
  ·
    refine s_bipush (v := (-2)) dX12_count_23 rfl ?_
    exact s_iret rfl dX12_count_25
  ·
    refine s_aload_n 0 dX12_count_14 rfl rfl ?_
    refine s_getr (s0 := 0) dX12_count_15 fl_X12_23 ?_
    refine s_iload_n 1 dX12_count_18 rfl rfl ?_
    refine s_iald (s0 := 0) ka_47 dX12_count_19 ?_
    refine s_goto (tgt := 25) dX12_count_20 (by decide) ?_
    exact s_iret rfl dX12_count_25
def fX12_couples_l15 (l1 : Int32) (l3 : Int32) (K : Int32 → Hp → Option (Int32 × Hp)) (rec : Int32 → Int32 → Hp → Option (Int32 × Hp)) (l2 l4 : Int32) (h : Hp) : Option (Int32 × Hp) :=
  if l3 ≤ l4 then (K l2 h)
  else (lt (wr h 10 0 25 (((1 : Int32) <<< (l3 &&& 31)) ||| ((1 : Int32) <<< (l4 &&& 31)))) fun h1 =>
  jn (κ := Int32 → Hp → Option (Int32 × Hp)) (fun z0_1 h3 => lt (l2 + z0_1) fun x4 =>
  lt (l4 + 1) fun x5 =>
  rec x4 x5 h3) fun k74_1 =>
  if l1 = 0 then (ck (ib l3 5) (
  ck (ib l4 5) (
  if (ra h1 53 0 l3) = (ra h1 53 0 l4) then (k74_1 1 h1)
  else (k74_1 0 h1))))
  else (bnd (fX12_isForever h1) fun x7 h6 =>
  if x7 = 0 then (k74_1 0 h6)
  else (k74_1 1 h6)))
def fX12_couples_l4 (l1 : Int32) (K : Int32 → Hp → Option (Int32 × Hp)) (rec : Int32 → Int32 → Hp → Option (Int32 × Hp)) (l2 l3 : Int32) (h : Hp) : Option (Int32 × Hp) :=
  if (rd h 10 0 22) ≤ l3 then (K l2 h)
  else (itr2 (fX12_couples_l15 l1 l3 (fun y8 h9 => lt (l3 + 1) fun x10 =>
  rec y8 x10 h9)) FU l2 0 h)
def fX12_couples (l1 : Int32) (h : Hp) : Option (Int32 × Hp) :=
  itr2 (fX12_couples_l4 l1 (fun y11 h12 => some (y11, h12))) FU 0 0 h
set_option maxHeartbeats 4000000 in
set_option maxRecDepth 100000 in
theorem sX12_couples_l15 (g : GE) (l1 : Int32) (l3 : Int32) (K : Int32 → Hp → Option (Int32 × Hp)) (hK : ∀ (y2 : Int32) (h : Hp), Sim cvi 1 g mX12_couples 7 82 [(0, rv g 10 0), (1, .int l1), (2, .int y2), (3, .int l3)] [] h (K y2 h)) : ∀ (n : Nat) (l2 l4 : Int32) (h : Hp), Sim cvi 1 g mX12_couples 7 15 [(0, rv g 10 0), (1, .int l1), (2, .int l2), (3, .int l3), (4, .int l4)] [] h (itr2 (fX12_couples_l15 l1 l3 K) n l2 l4 h) := by
  refine s_itr2 (fun l2 l4 h o => Sim cvi 1 g mX12_couples 7 15 [(0, rv g 10 0), (1, .int l1), (2, .int l2), (3, .int l3), (4, .int l4)] [] h o) (fun _ _ _ => s_none) ?_
  intro rec hrec l2 l4 h
  unfold fX12_couples_l15
  refine s_iload 4 dX12_couples_15 rfl ?_
  refine s_iload_n 3 dX12_couples_17 rfl rfl ?_
  refine s_icmp_ge (tgt := 82) dX12_couples_18 (by decide) ?_ ?_
  ·
    refine s_sub [0, 1, 2, 3] rfl ?_
    exact hK l2 h
  ·
    refine s_aload_n 0 dX12_couples_21 rfl rfl ?_
    refine s_iconst (v := 1) dX12_couples_22 rfl ?_
    refine s_iload_n 3 dX12_couples_23 rfl rfl ?_
    refine s_ishl dX12_couples_24 ?_
    refine s_iconst (v := 1) dX12_couples_25 rfl ?_
    refine s_iload 4 dX12_couples_26 rfl ?_
    refine s_ishl dX12_couples_28 ?_
    refine s_ior dX12_couples_29 ?_
    refine s_puti (s0 := 0) dX12_couples_30 fl_X12_235 (fun h1 => ?_)
    refine s_iload_n 2 dX12_couples_33 rfl rfl ?_
    refine s_iload_n 1 dX12_couples_34 rfl rfl ?_
    refine s_jn (fun (k74_1 : Int32 → Hp → Option (Int32 × Hp)) => ∀ (z0_1 : Int32) (h3 : Hp), Sim cvi 1 g mX12_couples 7 74 [(0, rv g 10 0), (1, .int l1), (3, .int l3), (4, .int l4)] [.int z0_1, .int l2] h3 (k74_1 z0_1 h3)) (fun z0_1 h3 => ?_) (fun k74_1 Hk74_1 => ?_)
    ·
      refine s_iadd dX12_couples_74 ?_
      refine s_leti (fun x4 => ?_)
      refine s_istore_n (ls' := [(2, .int x4), (0, rv g 10 0), (1, .int l1), (3, .int l3), (4, .int l4)]) dX12_couples_75 rfl (by decide) rfl ?_
      refine s_iincl 4 (w := 1) (fun x5 => [(4, .int x5), (2, .int x4), (0, rv g 10 0), (1, .int l1), (3, .int l3)]) dX12_couples_76 rfl rfl (by decide) (fun _ => rfl) (fun x5 => ?_)
      refine s_goto (tgt := 15) dX12_couples_79 (by decide) ?_
      refine s_sub [2, 3, 1, 4, 0] rfl ?_
      exact hrec x4 x5 h3
    refine s_if_eq (tgt := 53) dX12_couples_35 (by decide) ?_ ?_
    ·
      refine s_aload_n 0 dX12_couples_53 rfl rfl ?_
      refine s_getr (s0 := 0) dX12_couples_54 fl_X12_41 ?_
      refine s_iload_n 3 dX12_couples_57 rfl rfl ?_
      refine s_iald (s0 := 0) ka_53 dX12_couples_58 ?_
      refine s_aload_n 0 dX12_couples_59 rfl rfl ?_
      refine s_getr (s0 := 0) dX12_couples_60 fl_X12_41 ?_
      refine s_iload 4 dX12_couples_63 rfl ?_
      refine s_iald (s0 := 0) ka_53 dX12_couples_65 ?_
      refine s_icmp_ne (tgt := 73) dX12_couples_66 (by decide) ?_ ?_
      ·
        refine s_iconst (v := 1) dX12_couples_69 rfl ?_
        refine s_goto (tgt := 74) dX12_couples_70 (by decide) ?_
        refine s_sub [0, 1, 3, 4] rfl ?_
        exact Hk74_1 1 h1
      ·
        refine s_iconst (v := 0) dX12_couples_73 rfl ?_
        refine s_sub [0, 1, 3, 4] rfl ?_
        exact Hk74_1 0 h1
    ·
      refine s_aload_n 0 dX12_couples_38 rfl rfl ?_
      refine s_callVi (s0 := 0) (As := []) (rest := [.int l2]) (cX12_isForever_ok g h1) vl_X12_377 rfl (Nat.le_of_ble_eq_true rfl) (Nat.le_of_ble_eq_true rfl) dX12_couples_39 rfl (fun x7 h6 => ?_)
      refine s_if_eq (tgt := 49) dX12_couples_42 (by decide) ?_ ?_
      ·
        refine s_iconst (v := 0) dX12_couples_49 rfl ?_
        refine s_goto (tgt := 74) dX12_couples_50 (by decide) ?_
        refine s_sub [0, 1, 3, 4] rfl ?_
        exact Hk74_1 0 h6
      ·
        refine s_iconst (v := 1) dX12_couples_45 rfl ?_
        refine s_goto (tgt := 74) dX12_couples_46 (by decide) ?_
        refine s_sub [0, 1, 3, 4] rfl ?_
        exact Hk74_1 1 h6
set_option maxHeartbeats 4000000 in
set_option maxRecDepth 100000 in
theorem sX12_couples_l4 (g : GE) (l1 : Int32) (K : Int32 → Hp → Option (Int32 × Hp)) (hK : ∀ (y2 : Int32) (h : Hp), Sim cvi 1 g mX12_couples 7 88 [(2, .int y2)] [] h (K y2 h)) : ∀ (n : Nat) (l2 l3 : Int32) (h : Hp), Sim cvi 1 g mX12_couples 7 4 [(0, rv g 10 0), (1, .int l1), (2, .int l2), (3, .int l3)] [] h (itr2 (fX12_couples_l4 l1 K) n l2 l3 h) := by
  refine s_itr2 (fun l2 l3 h o => Sim cvi 1 g mX12_couples 7 4 [(0, rv g 10 0), (1, .int l1), (2, .int l2), (3, .int l3)] [] h o) (fun _ _ _ => s_none) ?_
  intro rec hrec l2 l3 h
  unfold fX12_couples_l4
  refine s_iload_n 3 dX12_couples_4 rfl rfl ?_
  refine s_aload_n 0 dX12_couples_5 rfl rfl ?_
  refine s_geti (s0 := 0) dX12_couples_6 fl_X12_232 ?_
  refine s_icmp_ge (tgt := 88) dX12_couples_9 (by decide) ?_ ?_
  ·
    refine s_sub [2] rfl ?_
    exact hK l2 h
  ·
    refine s_iconst (v := 0) dX12_couples_12 rfl ?_
    refine s_istore (ls' := [(4, .int 0), (0, rv g 10 0), (1, .int l1), (2, .int l2), (3, .int l3)]) dX12_couples_13 (by decide) rfl ?_
    refine s_sub (ls' := [(0, rv g 10 0), (1, .int l1), (2, .int l2), (3, .int l3), (4, .int 0)]) [1, 2, 3, 4, 0] rfl ?_
    refine sX12_couples_l15 g l1 l3 _ (fun y8 h9 => ?_) FU l2 0 h
    refine s_iincl 3 (w := 1) (fun x10 => [(3, .int x10), (0, rv g 10 0), (1, .int l1), (2, .int y8)]) dX12_couples_82 rfl rfl (by decide) (fun _ => rfl) (fun x10 => ?_)
    refine s_goto (tgt := 4) dX12_couples_85 (by decide) ?_
    refine s_sub [1, 2, 3, 0] rfl ?_
    exact hrec y8 x10 h9
set_option maxHeartbeats 4000000 in
set_option maxRecDepth 100000 in
theorem cX12_couples_ok (g : GE) (l1 : Int32) (h : Hp) : Con cvi 1 g mX12_couples 7 [rv g 10 0, .int l1] h (fX12_couples l1 h) := by
  refine Con.of (by decide +kernel) (Nat.le_of_ble_eq_true rfl) ?_
  show Sim cvi 1 g mX12_couples 7 0 [(0, rv g 10 0), (1, .int l1)] [] h _
  unfold fX12_couples
  refine s_iconst (v := 0) dX12_couples_0 rfl ?_
  refine s_istore_n (ls' := [(2, .int 0), (0, rv g 10 0), (1, .int l1)]) dX12_couples_1 rfl (by decide) rfl ?_
  refine s_iconst (v := 0) dX12_couples_2 rfl ?_
  refine s_istore_n (ls' := [(3, .int 0), (2, .int 0), (0, rv g 10 0), (1, .int l1)]) dX12_couples_3 rfl (by decide) rfl ?_
  refine s_sub (ls' := [(0, rv g 10 0), (1, .int l1), (2, .int 0), (3, .int 0)]) [2, 3, 1, 0] rfl ?_
  refine sX12_couples_l4 g l1 _ (fun y11 h12 => ?_) FU 0 0 h
  refine s_iload_n 0 dX12_couples_88 rfl rfl ?_
  exact s_iret rfl dX12_couples_89
def fX12_deed (l1 : Int32) (l2 : Int32) (l3 : Int32) (h : Hp) : Option (Int32 × Hp) :=
  lt (wr h 10 0 0 0) fun h1 =>
  bnd (fX12_hasShow l1 h1) fun x3 h2 =>
  if x3 = 0 then (some ((-2), h2))
  else (if l2 = (-1) then (if l3 = 0 then (bnd (fX12_deeds h2) fun x5 h4 =>
  some (x5, h4))
  else (some ((-2), h2)))
  else (bnd (fX12_deeds h2) fun x7 h6 =>
  bnd (fX12_in l2 0 (x7 - (1 : Int32)) h6) fun x9 h8 =>
  jn (κ := Hp → Option (Int32 × Hp)) (fun h11 => some ((-2), h11)) fun k67_9 =>
  if x9 = 0 then (k67_9 h8)
  else (bnd (fX12_in l3 0 1 h8) fun x13 h12 =>
  if x13 = 0 then (k67_9 h12)
  else (bnd (fX12_deedOf l2 l3 h12) fun x15 h14 =>
  some (x15, h14)))))
set_option maxHeartbeats 4000000 in
set_option maxRecDepth 100000 in
theorem cX12_deed_ok (g : GE) (l1 : Int32) (l2 : Int32) (l3 : Int32) (h : Hp) : Con cvi 1 g mX12_deed 5 [rv g 10 0, .int l1, .int l2, .int l3] h (fX12_deed l1 l2 l3 h) := by
  refine Con.of (by decide +kernel) (Nat.le_of_ble_eq_true rfl) ?_
  show Sim cvi 1 g mX12_deed 5 0 [(0, rv g 10 0), (1, .int l1), (2, .int l2), (3, .int l3)] [] h _
  unfold fX12_deed
  refine s_aload_n 0 dX12_deed_0 rfl rfl ?_
  refine s_iconst (v := 0) dX12_deed_1 rfl ?_
  refine s_puti (s0 := 0) dX12_deed_2 fl_X12_88 (fun h1 => ?_)
  refine s_aload_n 0 dX12_deed_5 rfl rfl ?_
  refine s_iload_n 1 dX12_deed_6 rfl rfl ?_
  refine s_callVi (s0 := 0) (As := [.int l1]) (rest := []) (cX12_hasShow_ok g l1 h1) vl_X12_301 rfl (Nat.le_of_ble_eq_true rfl) (Nat.le_of_ble_eq_true rfl) dX12_deed_7 rfl (fun x3 h2 => ?_)
  refine s_if_ne (tgt := 16) dX12_deed_10 (by decide) ?_ ?_
  ·
    refine s_bipush (v := (-2)) dX12_deed_13 rfl ?_
    exact s_iret rfl dX12_deed_15
  ·
    refine s_iload_n 2 dX12_deed_16 rfl rfl ?_
    refine s_iconst (v := (-1)) dX12_deed_17 rfl ?_
    refine s_icmp_ne (tgt := 35) dX12_deed_18 (by decide) ?_ ?_
    ·
      refine s_iload_n 3 dX12_deed_21 rfl rfl ?_
      refine s_if_ne (tgt := 32) dX12_deed_22 (by decide) ?_ ?_
      ·
        refine s_aload_n 0 dX12_deed_25 rfl rfl ?_
        refine s_callVi (s0 := 0) (As := []) (rest := []) (cX12_deeds_ok g h2) vl_X12_304 rfl (Nat.le_of_ble_eq_true rfl) (Nat.le_of_ble_eq_true rfl) dX12_deed_26 rfl (fun x5 h4 => ?_)
        refine s_goto (tgt := 34) dX12_deed_29 (by decide) ?_
        exact s_iret rfl dX12_deed_34
      ·
        refine s_bipush (v := (-2)) dX12_deed_32 rfl ?_
        exact s_iret rfl dX12_deed_34
    ·
      refine s_iload_n 2 dX12_deed_35 rfl rfl ?_
      refine s_iconst (v := 0) dX12_deed_36 rfl ?_
      refine s_aload_n 0 dX12_deed_37 rfl rfl ?_
      refine s_callVi (s0 := 0) (As := []) (rest := [.int 0, .int l2]) (cX12_deeds_ok g h2) vl_X12_304 rfl (Nat.le_of_ble_eq_true rfl) (Nat.le_of_ble_eq_true rfl) dX12_deed_38 rfl (fun x7 h6 => ?_)
      refine s_iconst (v := 1) dX12_deed_41 rfl ?_
      refine s_isub dX12_deed_42 ?_
      refine s_callSi (As := [.int l2, .int 0, .int (x7 - (1 : Int32))]) (rest := []) (cX12_in_ok g l2 0 (x7 - (1 : Int32)) h6) sl_X12_100 rfl (Nat.le_of_ble_eq_true rfl) (Nat.le_of_ble_eq_true rfl) dX12_deed_43 rfl (fun x9 h8 => ?_)
      refine s_jn (fun (k67_9 : Hp → Option (Int32 × Hp)) => ∀ (h11 : Hp), Sim cvi 1 g mX12_deed 5 67 [] [] h11 (k67_9 h11)) (fun h11 => ?_) (fun k67_9 Hk67_9 => ?_)
      ·
        refine s_bipush (v := (-2)) dX12_deed_67 rfl ?_
        exact s_iret rfl dX12_deed_69
      refine s_if_eq (tgt := 67) dX12_deed_46 (by decide) ?_ ?_
      ·
        refine s_sub [] rfl ?_
        exact Hk67_9 h8
      ·
        refine s_iload_n 3 dX12_deed_49 rfl rfl ?_
        refine s_iconst (v := 0) dX12_deed_50 rfl ?_
        refine s_iconst (v := 1) dX12_deed_51 rfl ?_
        refine s_callSi (As := [.int l3, .int 0, .int 1]) (rest := []) (cX12_in_ok g l3 0 1 h8) sl_X12_100 rfl (Nat.le_of_ble_eq_true rfl) (Nat.le_of_ble_eq_true rfl) dX12_deed_52 rfl (fun x13 h12 => ?_)
        refine s_if_eq (tgt := 67) dX12_deed_55 (by decide) ?_ ?_
        ·
          refine s_sub [] rfl ?_
          exact Hk67_9 h12
        ·
          refine s_aload_n 0 dX12_deed_58 rfl rfl ?_
          refine s_iload_n 2 dX12_deed_59 rfl rfl ?_
          refine s_iload_n 3 dX12_deed_60 rfl rfl ?_
          refine s_callVi (s0 := 0) (As := [.int l2, .int l3]) (rest := []) (cX12_deedOf_ok g l2 l3 h12) vl_X12_307 rfl (Nat.le_of_ble_eq_true rfl) (Nat.le_of_ble_eq_true rfl) dX12_deed_61 rfl (fun x15 h14 => ?_)
          refine s_goto (tgt := 69) dX12_deed_64 (by decide) ?_
          exact s_iret rfl dX12_deed_69
def fX12_sixes_l4 (l0 : Int32) (K : Int32 → Hp → Option (Int32 × Hp)) (rec : Int32 → Int32 → Hp → Option (Int32 × Hp)) (l1 l2 : Int32) (h : Hp) : Option (Int32 × Hp) :=
  if l0 ≤ l2 then (K l1 h)
  else (lt (l1 * (6 : Int32)) fun x1 =>
  lt (l2 + 1) fun x2 =>
  rec x1 x2 h)
def fX12_sixes (l0 : Int32) (h : Hp) : Option (Int32 × Hp) :=
  itr2 (fX12_sixes_l4 l0 (fun y3 h4 => some (y3, h4))) FU 1 0 h
set_option maxHeartbeats 4000000 in
set_option maxRecDepth 100000 in
theorem sX12_sixes_l4 (g : GE) (l0 : Int32) (K : Int32 → Hp → Option (Int32 × Hp)) (hK : ∀ (y1 : Int32) (h : Hp), Sim cvi 1 g mX12_sixes 2 20 [(1, .int y1)] [] h (K y1 h)) : ∀ (n : Nat) (l1 l2 : Int32) (h : Hp), Sim cvi 1 g mX12_sixes 2 4 [(0, .int l0), (1, .int l1), (2, .int l2)] [] h (itr2 (fX12_sixes_l4 l0 K) n l1 l2 h) := by
  refine s_itr2 (fun l1 l2 h o => Sim cvi 1 g mX12_sixes 2 4 [(0, .int l0), (1, .int l1), (2, .int l2)] [] h o) (fun _ _ _ => s_none) ?_
  intro rec hrec l1 l2 h
  unfold fX12_sixes_l4
  refine s_iload_n 2 dX12_sixes_4 rfl rfl ?_
  refine s_iload_n 0 dX12_sixes_5 rfl rfl ?_
  refine s_icmp_ge (tgt := 20) dX12_sixes_6 (by decide) ?_ ?_
  ·
    refine s_sub [1] rfl ?_
    exact hK l1 h
  ·
    refine s_iload_n 1 dX12_sixes_9 rfl rfl ?_
    refine s_bipush (v := 6) dX12_sixes_10 rfl ?_
    refine s_imul dX12_sixes_12 ?_
    refine s_leti (fun x1 => ?_)
    refine s_istore_n (ls' := [(1, .int x1), (0, .int l0), (2, .int l2)]) dX12_sixes_13 rfl (by decide) rfl ?_
    refine s_iincl 2 (w := 1) (fun x2 => [(2, .int x2), (1, .int x1), (0, .int l0)]) dX12_sixes_14 rfl rfl (by decide) (fun _ => rfl) (fun x2 => ?_)
    refine s_goto (tgt := 4) dX12_sixes_17 (by decide) ?_
    refine s_sub [2, 1, 0] rfl ?_
    exact hrec x1 x2 h
set_option maxHeartbeats 4000000 in
set_option maxRecDepth 100000 in
theorem cX12_sixes_ok (g : GE) (l0 : Int32) (h : Hp) : Con cvi 1 g mX12_sixes 2 [.int l0] h (fX12_sixes l0 h) := by
  refine Con.of (by decide +kernel) (Nat.le_of_ble_eq_true rfl) ?_
  show Sim cvi 1 g mX12_sixes 2 0 [(0, .int l0)] [] h _
  unfold fX12_sixes
  refine s_iconst (v := 1) dX12_sixes_0 rfl ?_
  refine s_istore_n (ls' := [(1, .int 1), (0, .int l0)]) dX12_sixes_1 rfl (by decide) rfl ?_
  refine s_iconst (v := 0) dX12_sixes_2 rfl ?_
  refine s_istore_n (ls' := [(2, .int 0), (1, .int 1), (0, .int l0)]) dX12_sixes_3 rfl (by decide) rfl ?_
  refine s_sub (ls' := [(0, .int l0), (1, .int 1), (2, .int 0)]) [2, 1, 0] rfl ?_
  refine sX12_sixes_l4 g l0 _ (fun y3 h4 => ?_) FU 1 0 h
  refine s_iload_n 0 dX12_sixes_20 rfl rfl ?_
  exact s_iret rfl dX12_sixes_21
def fX12_digit (l1 : Int32) (l2 : Int32) (l3 : Int32) (h : Hp) : Option (Int32 × Hp) :=
  bnd (fX12_sixes ((l3 - (1 : Int32)) - l2) h) fun x2 h1 =>
  ck (!decide (x2 = 0)) (
  some (irm (l1 / x2) 6, h1))
set_option maxHeartbeats 4000000 in
set_option maxRecDepth 100000 in
theorem cX12_digit_ok (g : GE) (l1 : Int32) (l2 : Int32) (l3 : Int32) (h : Hp) : Con cvi 1 g mX12_digit 3 [rv g 10 0, .int l1, .int l2, .int l3] h (fX12_digit l1 l2 l3 h) := by
  refine Con.of (by decide +kernel) (Nat.le_of_ble_eq_true rfl) ?_
  show Sim cvi 1 g mX12_digit 3 0 [(0, rv g 10 0), (1, .int l1), (2, .int l2), (3, .int l3)] [] h _
  unfold fX12_digit
  refine s_iload_n 1 dX12_digit_0 rfl rfl ?_
  refine s_iload_n 3 dX12_digit_1 rfl rfl ?_
  refine s_iconst (v := 1) dX12_digit_2 rfl ?_
  refine s_isub dX12_digit_3 ?_
  refine s_iload_n 2 dX12_digit_4 rfl rfl ?_
  refine s_isub dX12_digit_5 ?_
  refine s_callSi (As := [.int ((l3 - (1 : Int32)) - l2)]) (rest := [.int l1]) (cX12_sixes_ok g ((l3 - (1 : Int32)) - l2) h) sl_X12_414 rfl (Nat.le_of_ble_eq_true rfl) (Nat.le_of_ble_eq_true rfl) dX12_digit_6 rfl (fun x2 h1 => ?_)
  refine s_idiv dX12_digit_9 ?_
  refine s_bipush (v := 6) dX12_digit_10 rfl ?_
  refine s_iremc dX12_digit_12 (by decide) ?_
  exact s_iret rfl dX12_digit_13
def fX12_draw (l1 : Int32) (h : Hp) : Option (Int32 × Hp) :=
  lt (wr h 10 0 60 (((rd h 10 0 60) * (1103515245 : Int32)) + (12345 : Int32))) fun h1 =>
  ck (!decide (l1 = 0)) (
  some (irm (((rd h1 10 0 60).toUInt32 >>> ((16 : Int32).toUInt32 &&& Int32.toUInt32 31)).toInt32) l1, h1))
set_option maxHeartbeats 4000000 in
set_option maxRecDepth 100000 in
theorem cX12_draw_ok (g : GE) (l1 : Int32) (h : Hp) : Con cvi 1 g mX12_draw 2 [rv g 10 0, .int l1] h (fX12_draw l1 h) := by
  refine Con.of (by decide +kernel) (Nat.le_of_ble_eq_true rfl) ?_
  show Sim cvi 1 g mX12_draw 2 0 [(0, rv g 10 0), (1, .int l1)] [] h _
  unfold fX12_draw
  refine s_aload_n 0 dX12_draw_0 rfl rfl ?_
  refine s_aload_n 0 dX12_draw_1 rfl rfl ?_
  refine s_geti (s0 := 0) dX12_draw_2 fl_X12_499 ?_
  refine s_ldcw dX12_draw_5 w_8_65 ?_
  refine s_imul dX12_draw_8 ?_
  refine s_sipush (v := 12345) dX12_draw_9 rfl ?_
  refine s_iadd dX12_draw_12 ?_
  refine s_puti (s0 := 0) dX12_draw_13 fl_X12_499 (fun h1 => ?_)
  refine s_aload_n 0 dX12_draw_16 rfl rfl ?_
  refine s_geti (s0 := 0) dX12_draw_17 fl_X12_499 ?_
  refine s_bipush (v := 16) dX12_draw_20 rfl ?_
  refine s_iushr dX12_draw_22 ?_
  refine s_iload_n 1 dX12_draw_23 rfl rfl ?_
  refine s_irem dX12_draw_24 ?_
  exact s_iret rfl dX12_draw_25
def fX12_drawDeed (h : Hp) : Option (Unit × Hp) :=
  bnd (fX12_draw 10 h) fun x2 h1 =>
  if x2 ≤ 7 then (if (rd h1 10 0 22) ≤ 0 then (some ((), h1))
  else (jn (κ := Int32 → Hp → Option (Unit × Hp)) (fun z0_2 h4 => bnd (fX12_draw (rd h4 10 0 22) h4) fun x6 h5 =>
  bnd (fX12_does z0_2 x6 h5) fun x8 h7 =>
  some ((), h7)) fun k60_2 =>
  if (5 : Int32) ≤ x2 then (if x2 = 5 then (k60_2 2 h1)
  else (if x2 = 6 then (k60_2 3 h1)
  else (k60_2 4 h1)))
  else (k60_2 1 h1)))
  else (bnd (fX12_does 0 (-1) h1) fun x10 h9 =>
  some ((), h9))
set_option maxHeartbeats 4000000 in
set_option maxRecDepth 100000 in
theorem cX12_drawDeed_ok (g : GE) (h : Hp) : Con cvv 1 g mX12_drawDeed 6 [rv g 10 0] h (fX12_drawDeed h) := by
  refine Con.of (by decide +kernel) (Nat.le_of_ble_eq_true rfl) ?_
  show Sim cvv 1 g mX12_drawDeed 6 0 [(0, rv g 10 0)] [] h _
  unfold fX12_drawDeed
  refine s_aload_n 0 dX12_drawDeed_0 rfl rfl ?_
  refine s_bipush (v := 10) dX12_drawDeed_1 rfl ?_
  refine s_callVi (s0 := 0) (As := [.int 10]) (rest := []) (cX12_draw_ok g 10 h) vl_X12_503 rfl (Nat.le_of_ble_eq_true rfl) (Nat.le_of_ble_eq_true rfl) dX12_drawDeed_3 rfl (fun x2 h1 => ?_)
  refine s_istore_n (ls' := [(1, .int x2), (0, rv g 10 0)]) dX12_drawDeed_6 rfl (by decide) rfl ?_
  refine s_iload_n 0 dX12_drawDeed_7 rfl rfl ?_
  refine s_bipush (v := 7) dX12_drawDeed_8 rfl ?_
  refine s_icmp_le (tgt := 23) dX12_drawDeed_10 (by decide) ?_ ?_
  ·
    refine s_aload_n 1 dX12_drawDeed_23 rfl rfl ?_
    refine s_geti (s0 := 0) dX12_drawDeed_24 fl_X12_232 ?_
    refine s_if_le (tgt := 72) dX12_drawDeed_27 (by decide) ?_ ?_
    ·
      exact s_vret rfl dX12_drawDeed_72
    ·
      refine s_aload_n 1 dX12_drawDeed_30 rfl rfl ?_
      refine s_iload_n 0 dX12_drawDeed_31 rfl rfl ?_
      refine s_iconst (v := 5) dX12_drawDeed_32 rfl ?_
      refine s_jn (fun (k60_2 : Int32 → Hp → Option (Unit × Hp)) => ∀ (z0_2 : Int32) (h4 : Hp), Sim cvv 1 g mX12_drawDeed 6 60 [(0, rv g 10 0)] [.int z0_2, rv g 10 0] h4 (k60_2 z0_2 h4)) (fun z0_2 h4 => ?_) (fun k60_2 Hk60_2 => ?_)
      ·
        refine s_aload_n 0 dX12_drawDeed_60 rfl rfl ?_
        refine s_aload_n 0 dX12_drawDeed_61 rfl rfl ?_
        refine s_geti (s0 := 0) dX12_drawDeed_62 fl_X12_232 ?_
        refine s_callVi (s0 := 0) (As := [.int (rd h4 10 0 22)]) (rest := [.int z0_2, rv g 10 0]) (cX12_draw_ok g (rd h4 10 0 22) h4) vl_X12_503 rfl (Nat.le_of_ble_eq_true rfl) (Nat.le_of_ble_eq_true rfl) dX12_drawDeed_65 rfl (fun x6 h5 => ?_)
        refine s_callVi (s0 := 0) (As := [.int z0_2, .int x6]) (rest := []) (cX12_does_ok g z0_2 x6 h5) vl_X12_310 rfl (Nat.le_of_ble_eq_true rfl) (Nat.le_of_ble_eq_true rfl) dX12_drawDeed_68 rfl (fun x8 h7 => ?_)
        refine s_pop dX12_drawDeed_71 rfl ?_
        exact s_vret rfl dX12_drawDeed_72
      refine s_icmp_ge (tgt := 40) dX12_drawDeed_33 (by decide) ?_ ?_
      ·
        refine s_iload_n 0 dX12_drawDeed_40 rfl rfl ?_
        refine s_iconst (v := 5) dX12_drawDeed_41 rfl ?_
        refine s_icmp_ne (tgt := 49) dX12_drawDeed_42 (by decide) ?_ ?_
        ·
          refine s_iconst (v := 2) dX12_drawDeed_45 rfl ?_
          refine s_goto (tgt := 60) dX12_drawDeed_46 (by decide) ?_
          refine s_sub [1] rfl ?_
          exact Hk60_2 2 h1
        ·
          refine s_iload_n 0 dX12_drawDeed_49 rfl rfl ?_
          refine s_bipush (v := 6) dX12_drawDeed_50 rfl ?_
          refine s_icmp_ne (tgt := 59) dX12_drawDeed_52 (by decide) ?_ ?_
          ·
            refine s_iconst (v := 3) dX12_drawDeed_55 rfl ?_
            refine s_goto (tgt := 60) dX12_drawDeed_56 (by decide) ?_
            refine s_sub [1] rfl ?_
            exact Hk60_2 3 h1
          ·
            refine s_iconst (v := 4) dX12_drawDeed_59 rfl ?_
            refine s_sub [1] rfl ?_
            exact Hk60_2 4 h1
      ·
        refine s_iconst (v := 1) dX12_drawDeed_36 rfl ?_
        refine s_goto (tgt := 60) dX12_drawDeed_37 (by decide) ?_
        refine s_sub [1] rfl ?_
        exact Hk60_2 1 h1
  ·
    refine s_aload_n 1 dX12_drawDeed_13 rfl rfl ?_
    refine s_iconst (v := 0) dX12_drawDeed_14 rfl ?_
    refine s_iconst (v := (-1)) dX12_drawDeed_15 rfl ?_
    refine s_callVi (s0 := 0) (As := [.int 0, .int (-1)]) (rest := []) (cX12_does_ok g 0 (-1) h1) vl_X12_310 rfl (Nat.le_of_ble_eq_true rfl) (Nat.le_of_ble_eq_true rfl) dX12_drawDeed_16 rfl (fun x10 h9 => ?_)
    refine s_pop dX12_drawDeed_19 rfl ?_
    refine s_goto (tgt := 72) dX12_drawDeed_20 (by decide) ?_
    exact s_vret rfl dX12_drawDeed_72
def fX12_ofState (l1 : Int32) (h : Hp) : Option (Int32 × Hp) :=
  lt (irm l1 10) fun x1 =>
  if l1 < 10 then (if l1 = 0 then (some (rd h 10 0 30, h))
  else if l1 = 1 then (some (rd h 10 0 29, h))
  else if l1 = 2 then (bnd (fX12_standNow h) fun x6 h5 =>
  some (x6, h5))
  else if l1 = 3 then (some (rd h 10 0 31, h))
  else if l1 = 4 then (some (rd h 10 0 32, h))
  else (some ((-1), h)))
  else (jn (κ := Hp → Option (Int32 × Hp)) (fun h10 => some ((-1), h10)) fun k49_8 =>
  if (30 : Int32) ≤ l1 then (k49_8 h)
  else (bnd (fX12_isPlate x1 h) fun x12 h11 =>
  if x12 = 0 then (k49_8 h11)
  else (if (20 : Int32) ≤ l1 then (ck (ib x1 5) (
  some (ra h11 54 0 x1, h11)))
  else (ck (ib x1 5) (
  some (ra h11 63 0 x1, h11))))))
set_option maxHeartbeats 4000000 in
set_option maxRecDepth 100000 in
theorem cX12_ofState_ok (g : GE) (l1 : Int32) (h : Hp) : Con cvi 1 g mX12_ofState 4 [rv g 10 0, .int l1] h (fX12_ofState l1 h) := by
  refine Con.of (by decide +kernel) (Nat.le_of_ble_eq_true rfl) ?_
  show Sim cvi 1 g mX12_ofState 4 0 [(0, rv g 10 0), (1, .int l1)] [] h _
  unfold fX12_ofState
  refine s_iload_n 1 dX12_ofState_0 rfl rfl ?_
  refine s_bipush (v := 10) dX12_ofState_1 rfl ?_
  refine s_iremc dX12_ofState_3 (by decide) ?_
  refine s_leti (fun x1 => ?_)
  refine s_istore_n (ls' := [(2, .int x1), (0, rv g 10 0), (1, .int l1)]) dX12_ofState_4 rfl (by decide) rfl ?_
  refine s_iload_n 2 dX12_ofState_5 rfl rfl ?_
  refine s_bipush (v := 10) dX12_ofState_6 rfl ?_
  refine s_icmp_lt (tgt := 51) dX12_ofState_8 (by decide) ?_ ?_
  ·
    refine s_iload_n 2 dX12_ofState_51 rfl rfl ?_
    refine s_tab 0 (tgt := 88) dX12_ofState_52 (by decide) (by decide) rfl (by decide) ?_ (fun e2 => ?_)
    ·
      refine s_aload_n 1 dX12_ofState_88 rfl rfl ?_
      refine s_geti (s0 := 0) dX12_ofState_89 fl_X12_250 ?_
      exact s_iret rfl dX12_ofState_92
    refine s_tab 1 (tgt := 93) dX12_ofState_52 (by decide) (by decide) rfl (by decide) ?_ (fun e3 => ?_)
    ·
      refine s_aload_n 1 dX12_ofState_93 rfl rfl ?_
      refine s_geti (s0 := 0) dX12_ofState_94 fl_X12_247 ?_
      exact s_iret rfl dX12_ofState_97
    refine s_tab 2 (tgt := 98) dX12_ofState_52 (by decide) (by decide) rfl (by decide) ?_ (fun e4 => ?_)
    ·
      refine s_aload_n 1 dX12_ofState_98 rfl rfl ?_
      refine s_callVi (s0 := 0) (As := []) (rest := []) (cX12_standNow_ok g h) vl_X12_274 rfl (Nat.le_of_ble_eq_true rfl) (Nat.le_of_ble_eq_true rfl) dX12_ofState_99 rfl (fun x6 h5 => ?_)
      exact s_iret rfl dX12_ofState_102
    refine s_tab 3 (tgt := 103) dX12_ofState_52 (by decide) (by decide) rfl (by decide) ?_ (fun e7 => ?_)
    ·
      refine s_aload_n 1 dX12_ofState_103 rfl rfl ?_
      refine s_geti (s0 := 0) dX12_ofState_104 fl_X12_253 ?_
      exact s_iret rfl dX12_ofState_107
    refine s_tab 4 (tgt := 108) dX12_ofState_52 (by decide) (by decide) rfl (by decide) ?_ (fun e8 => ?_)
    ·
      refine s_aload_n 1 dX12_ofState_108 rfl rfl ?_
      refine s_geti (s0 := 0) dX12_ofState_109 fl_X12_256 ?_
      exact s_iret rfl dX12_ofState_112
    have e2 := lv_neT e2 (show (0 : Int32).toInt = 0 from rfl)
    have e3 := lv_neT e3 (show (1 : Int32).toInt = 1 from rfl)
    have e4 := lv_neT e4 (show (2 : Int32).toInt = 2 from rfl)
    have e7 := lv_neT e7 (show (3 : Int32).toInt = 3 from rfl)
    have e8 := lv_neT e8 (show (4 : Int32).toInt = 4 from rfl)
    refine s_tabd (tgt := 113) dX12_ofState_52 (by omega) (by decide) ?_
    refine s_iconst (v := (-1)) dX12_ofState_113 rfl ?_
    exact s_iret rfl dX12_ofState_114
  ·
    refine s_iload_n 2 dX12_ofState_11 rfl rfl ?_
    refine s_bipush (v := 30) dX12_ofState_12 rfl ?_
    refine s_jn (fun (k49_8 : Hp → Option (Int32 × Hp)) => ∀ (h10 : Hp), Sim cvi 1 g mX12_ofState 4 49 [] [] h10 (k49_8 h10)) (fun h10 => ?_) (fun k49_8 Hk49_8 => ?_)
    ·
      refine s_iconst (v := (-1)) dX12_ofState_49 rfl ?_
      exact s_iret rfl dX12_ofState_50
    refine s_icmp_ge (tgt := 49) dX12_ofState_14 (by decide) ?_ ?_
    ·
      refine s_sub [] rfl ?_
      exact Hk49_8 h
    ·
      refine s_aload_n 1 dX12_ofState_17 rfl rfl ?_
      refine s_iload_n 0 dX12_ofState_18 rfl rfl ?_
      refine s_callVi (s0 := 0) (As := [.int x1]) (rest := []) (cX12_isPlate_ok g x1 h) vl_X12_244 rfl (Nat.le_of_ble_eq_true rfl) (Nat.le_of_ble_eq_true rfl) dX12_ofState_19 rfl (fun x12 h11 => ?_)
      refine s_if_eq (tgt := 49) dX12_ofState_22 (by decide) ?_ ?_
      ·
        refine s_sub [] rfl ?_
        exact Hk49_8 h11
      ·
        refine s_iload_n 2 dX12_ofState_25 rfl rfl ?_
        refine s_bipush (v := 20) dX12_ofState_26 rfl ?_
        refine s_icmp_ge (tgt := 40) dX12_ofState_28 (by decide) ?_ ?_
        ·
          refine s_aload_n 1 dX12_ofState_40 rfl rfl ?_
          refine s_getr (s0 := 0) dX12_ofState_41 fl_X12_44 ?_
          refine s_iload_n 0 dX12_ofState_44 rfl rfl ?_
          refine s_iald (s0 := 0) ka_54 dX12_ofState_45 ?_
          refine s_goto (tgt := 50) dX12_ofState_46 (by decide) ?_
          exact s_iret rfl dX12_ofState_50
        ·
          refine s_aload_n 1 dX12_ofState_31 rfl rfl ?_
          refine s_getr (s0 := 0) dX12_ofState_32 fl_X12_72 ?_
          refine s_iload_n 0 dX12_ofState_35 rfl rfl ?_
          refine s_iald (s0 := 0) ka_63 dX12_ofState_36 ?_
          refine s_goto (tgt := 50) dX12_ofState_37 (by decide) ?_
          exact s_iret rfl dX12_ofState_50
def fX12_drawn_l37 (l3 : Int32) (K : Hp → Option (Int32 × Hp)) (rec : Int32 → Hp → Option (Int32 × Hp)) (l5 : Int32) (h : Hp) : Option (Int32 × Hp) :=
  if l3 ≤ l5 then (K h)
  else (bnd (fX12_drawDeed h) fun _ h8 =>
  lt (l5 + 1) fun x9 =>
  rec x9 h8)
def fX12_drawn (l1 : Int32) (l2 : Int32) (l3 : Int32) (l4 : Int32) (h : Hp) : Option (Int32 × Hp) :=
  lt (wr h 10 0 0 0) fun h1 =>
  bnd (fX12_in l3 0 60 h1) fun x3 h2 =>
  if x3 = 0 then (some ((-1), h2))
  else (bnd (fX12_hand l1 h2) fun x5 h4 =>
  if x5 = 0 then (some ((-1), h4))
  else (bnd (fX12_beginShow h4) fun _ h6 =>
  lt (wr h6 10 0 60 l2) fun h7 =>
  itr1 (fX12_drawn_l37 l3 (fun h10 => bnd (fX12_ofState l4 h10) fun x12 h11 =>
  some (x12, h11))) FU 0 h7))
set_option maxHeartbeats 4000000 in
set_option maxRecDepth 100000 in
theorem sX12_drawn_l37 (g : GE) (l3 : Int32) (l4 : Int32) (K : Hp → Option (Int32 × Hp)) (hK : ∀ (h : Hp), Sim cvi 1 g mX12_drawn 7 53 [(0, rv g 10 0), (4, .int l4)] [] h (K  h)) : ∀ (n : Nat) (l5 : Int32) (h : Hp), Sim cvi 1 g mX12_drawn 7 37 [(0, rv g 10 0), (3, .int l3), (4, .int l4), (5, .int l5)] [] h (itr1 (fX12_drawn_l37 l3 K) n l5 h) := by
  refine s_itr1 (fun l5 h o => Sim cvi 1 g mX12_drawn 7 37 [(0, rv g 10 0), (3, .int l3), (4, .int l4), (5, .int l5)] [] h o) (fun _ _ => s_none) ?_
  intro rec hrec l5 h
  unfold fX12_drawn_l37
  refine s_iload 3 dX12_drawn_37 rfl ?_
  refine s_iload_n 1 dX12_drawn_39 rfl rfl ?_
  refine s_icmp_ge (tgt := 53) dX12_drawn_40 (by decide) ?_ ?_
  ·
    refine s_sub [0, 2] rfl ?_
    exact hK h
  ·
    refine s_aload_n 0 dX12_drawn_43 rfl rfl ?_
    refine s_callVv (s0 := 0) (As := []) (rest := []) (cX12_drawDeed_ok g h) vl_X12_506 rfl (Nat.le_of_ble_eq_true rfl) (Nat.le_of_ble_eq_true rfl) dX12_drawn_44 rfl (fun h8 => ?_)
    refine s_iincl 3 (w := 1) (fun x9 => [(5, .int x9), (0, rv g 10 0), (3, .int l3), (4, .int l4)]) dX12_drawn_47 rfl rfl (by decide) (fun _ => rfl) (fun x9 => ?_)
    refine s_goto (tgt := 37) dX12_drawn_50 (by decide) ?_
    refine s_sub [1, 2, 3, 0] rfl ?_
    exact hrec x9 h8
set_option maxHeartbeats 4000000 in
set_option maxRecDepth 100000 in
theorem cX12_drawn_ok (g : GE) (l1 : Int32) (l2 : Int32) (l3 : Int32) (l4 : Int32) (h : Hp) : Con cvi 1 g mX12_drawn 7 [rv g 10 0, .int l1, .int l2, .int l3, .int l4] h (fX12_drawn l1 l2 l3 l4 h) := by
  refine Con.of (by decide +kernel) (Nat.le_of_ble_eq_true rfl) ?_
  show Sim cvi 1 g mX12_drawn 7 0 [(0, rv g 10 0), (1, .int l1), (2, .int l2), (3, .int l3), (4, .int l4)] [] h _
  unfold fX12_drawn
  refine s_aload_n 0 dX12_drawn_0 rfl rfl ?_
  refine s_iconst (v := 0) dX12_drawn_1 rfl ?_
  refine s_puti (s0 := 0) dX12_drawn_2 fl_X12_88 (fun h1 => ?_)
  refine s_iload_n 3 dX12_drawn_5 rfl rfl ?_
  refine s_iconst (v := 0) dX12_drawn_6 rfl ?_
  refine s_bipush (v := 60) dX12_drawn_7 rfl ?_
  refine s_callSi (As := [.int l3, .int 0, .int 60]) (rest := []) (cX12_in_ok g l3 0 60 h1) sl_X12_100 rfl (Nat.le_of_ble_eq_true rfl) (Nat.le_of_ble_eq_true rfl) dX12_drawn_9 rfl (fun x3 h2 => ?_)
  refine s_if_eq (tgt := 23) dX12_drawn_12 (by decide) ?_ ?_
  ·
    refine s_iconst (v := (-1)) dX12_drawn_23 rfl ?_
    exact s_iret rfl dX12_drawn_24
  ·
    refine s_aload_n 0 dX12_drawn_15 rfl rfl ?_
    refine s_iload_n 1 dX12_drawn_16 rfl rfl ?_
    refine s_callVi (s0 := 0) (As := [.int l1]) (rest := []) (cX12_hand_ok g l1 h2) vl_X12_241 rfl (Nat.le_of_ble_eq_true rfl) (Nat.le_of_ble_eq_true rfl) dX12_drawn_17 rfl (fun x5 h4 => ?_)
    refine s_if_ne (tgt := 25) dX12_drawn_20 (by decide) ?_ ?_
    ·
      refine s_iconst (v := (-1)) dX12_drawn_23 rfl ?_
      exact s_iret rfl dX12_drawn_24
    ·
      refine s_aload_n 0 dX12_drawn_25 rfl rfl ?_
      refine s_callVv (s0 := 0) (As := []) (rest := []) (cX12_beginShow_ok g h4) vl_X12_316 rfl (Nat.le_of_ble_eq_true rfl) (Nat.le_of_ble_eq_true rfl) dX12_drawn_26 rfl (fun h6 => ?_)
      refine s_aload_n 0 dX12_drawn_29 rfl rfl ?_
      refine s_iload_n 2 dX12_drawn_30 rfl rfl ?_
      refine s_puti (s0 := 0) dX12_drawn_31 fl_X12_499 (fun h7 => ?_)
      refine s_iconst (v := 0) dX12_drawn_34 rfl ?_
      refine s_istore (ls' := [(5, .int 0), (0, rv g 10 0), (1, .int l1), (2, .int l2), (3, .int l3), (4, .int l4)]) dX12_drawn_35 (by decide) rfl ?_
      refine s_sub (ls' := [(0, rv g 10 0), (3, .int l3), (4, .int l4), (5, .int 0)]) [1, 4, 5, 0] rfl ?_
      refine sX12_drawn_l37 g l3 l4 _ (fun h10 => ?_) FU 0 h7
      refine s_aload_n 0 dX12_drawn_53 rfl rfl ?_
      refine s_iload 1 dX12_drawn_54 rfl ?_
      refine s_callVi (s0 := 0) (As := [.int l4]) (rest := []) (cX12_ofState_ok g l4 h10) vl_X12_325 rfl (Nat.le_of_ble_eq_true rfl) (Nat.le_of_ble_eq_true rfl) dX12_drawn_56 rfl (fun x12 h11 => ?_)
      exact s_iret rfl dX12_drawn_59
def fX12_ones_l4 (l0 : Int32) (K : Int32 → Hp → Option (Int32 × Hp)) (rec : Int32 → Int32 → Hp → Option (Int32 × Hp)) (l1 l2 : Int32) (h : Hp) : Option (Int32 × Hp) :=
  if (10 : Int32) ≤ l2 then (K l1 h)
  else (bnd (fX12_has l0 l2 h) fun x2 h1 =>
  jn (κ := Int32 → Hp → Option (Int32 × Hp)) (fun z0_2 h4 => lt (l1 + z0_2) fun x5 =>
  lt (l2 + 1) fun x6 =>
  rec x5 x6 h4) fun k24_2 =>
  if x2 = 0 then (k24_2 0 h1)
  else (k24_2 1 h1))
def fX12_ones (l0 : Int32) (h : Hp) : Option (Int32 × Hp) :=
  itr2 (fX12_ones_l4 l0 (fun y7 h8 => some (y7, h8))) FU 0 0 h
set_option maxHeartbeats 4000000 in
set_option maxRecDepth 100000 in
theorem sX12_ones_l4 (g : GE) (l0 : Int32) (K : Int32 → Hp → Option (Int32 × Hp)) (hK : ∀ (y1 : Int32) (h : Hp), Sim cvi 1 g mX12_ones 3 32 [(1, .int y1)] [] h (K y1 h)) : ∀ (n : Nat) (l1 l2 : Int32) (h : Hp), Sim cvi 1 g mX12_ones 3 4 [(0, .int l0), (1, .int l1), (2, .int l2)] [] h (itr2 (fX12_ones_l4 l0 K) n l1 l2 h) := by
  refine s_itr2 (fun l1 l2 h o => Sim cvi 1 g mX12_ones 3 4 [(0, .int l0), (1, .int l1), (2, .int l2)] [] h o) (fun _ _ _ => s_none) ?_
  intro rec hrec l1 l2 h
  unfold fX12_ones_l4
  refine s_iload_n 2 dX12_ones_4 rfl rfl ?_
  refine s_bipush (v := 10) dX12_ones_5 rfl ?_
  refine s_icmp_ge (tgt := 32) dX12_ones_7 (by decide) ?_ ?_
  ·
    refine s_sub [1] rfl ?_
    exact hK l1 h
  ·
    refine s_iload_n 1 dX12_ones_10 rfl rfl ?_
    refine s_iload_n 0 dX12_ones_11 rfl rfl ?_
    refine s_iload_n 2 dX12_ones_12 rfl rfl ?_
    refine s_callSi (As := [.int l0, .int l2]) (rest := [.int l1]) (cX12_has_ok g l0 l2 h) sl_X12_92 rfl (Nat.le_of_ble_eq_true rfl) (Nat.le_of_ble_eq_true rfl) dX12_ones_13 rfl (fun x2 h1 => ?_)
    refine s_jn (fun (k24_2 : Int32 → Hp → Option (Int32 × Hp)) => ∀ (z0_2 : Int32) (h4 : Hp), Sim cvi 1 g mX12_ones 3 24 [(0, .int l0), (2, .int l2)] [.int z0_2, .int l1] h4 (k24_2 z0_2 h4)) (fun z0_2 h4 => ?_) (fun k24_2 Hk24_2 => ?_)
    ·
      refine s_iadd dX12_ones_24 ?_
      refine s_leti (fun x5 => ?_)
      refine s_istore_n (ls' := [(1, .int x5), (0, .int l0), (2, .int l2)]) dX12_ones_25 rfl (by decide) rfl ?_
      refine s_iincl 2 (w := 1) (fun x6 => [(2, .int x6), (1, .int x5), (0, .int l0)]) dX12_ones_26 rfl rfl (by decide) (fun _ => rfl) (fun x6 => ?_)
      refine s_goto (tgt := 4) dX12_ones_29 (by decide) ?_
      refine s_sub [2, 1, 0] rfl ?_
      exact hrec x5 x6 h4
    refine s_if_eq (tgt := 23) dX12_ones_16 (by decide) ?_ ?_
    ·
      refine s_iconst (v := 0) dX12_ones_23 rfl ?_
      refine s_sub [0, 2] rfl ?_
      exact Hk24_2 0 h1
    ·
      refine s_iconst (v := 1) dX12_ones_19 rfl ?_
      refine s_goto (tgt := 24) dX12_ones_20 (by decide) ?_
      refine s_sub [0, 2] rfl ?_
      exact Hk24_2 1 h1
set_option maxHeartbeats 4000000 in
set_option maxRecDepth 100000 in
theorem cX12_ones_ok (g : GE) (l0 : Int32) (h : Hp) : Con cvi 1 g mX12_ones 3 [.int l0] h (fX12_ones l0 h) := by
  refine Con.of (by decide +kernel) (Nat.le_of_ble_eq_true rfl) ?_
  show Sim cvi 1 g mX12_ones 3 0 [(0, .int l0)] [] h _
  unfold fX12_ones
  refine s_iconst (v := 0) dX12_ones_0 rfl ?_
  refine s_istore_n (ls' := [(1, .int 0), (0, .int l0)]) dX12_ones_1 rfl (by decide) rfl ?_
  refine s_iconst (v := 0) dX12_ones_2 rfl ?_
  refine s_istore_n (ls' := [(2, .int 0), (1, .int 0), (0, .int l0)]) dX12_ones_3 rfl (by decide) rfl ?_
  refine s_sub (ls' := [(0, .int l0), (1, .int 0), (2, .int 0)]) [2, 1, 0] rfl ?_
  refine sX12_ones_l4 g l0 _ (fun y7 h8 => ?_) FU 0 0 h
  refine s_iload_n 0 dX12_ones_32 rfl rfl ?_
  exact s_iret rfl dX12_ones_33
def fX12_endOf_l6 (l1 : Int32) (l2 : Int32) (K : Hp → Option (Int32 × Hp)) (rec : Int32 → Hp → Option (Int32 × Hp)) (l3 : Int32) (h : Hp) : Option (Int32 × Hp) :=
  if l1 ≤ l3 then (K h)
  else (bnd (fX12_digit l2 l3 l1 h) fun x3 h2 =>
  jn (κ := Int32 → Hp → Option (Int32 × Hp)) (fun z0_3 h5 => jn (κ := Int32 → Hp → Option (Int32 × Hp)) (fun z0_5 h7 => if z0_5 = 0 then (some ((-1), h7))
  else (lt (l3 + 1) fun x8 =>
  rec x8 h7)) fun k78_5 =>
  if x3 = 5 then (jn (κ := Hp → Option (Int32 × Hp)) (fun h10 => k78_5 1 h10) fun k54_8 =>
  if z0_3 = 0 then (bnd (fX12_does 0 (-1) h5) fun x12 h11 =>
  if x12 = 0 then (k78_5 0 h11)
  else (k54_8 h11))
  else (k54_8 h5))
  else (jn (κ := Int32 → Hp → Option (Int32 × Hp)) (fun z0_12 h14 => bnd (fX12_does z0_12 x3 h14) fun x16 h15 =>
  k78_5 x16 h15) fun k73_12 =>
  if z0_3 = 0 then (k73_12 1 h5)
  else (k73_12 3 h5))) fun k32_3 =>
  if (irm l3 2) = 1 then (k32_3 1 h2)
  else (k32_3 0 h2))
def fX12_endOf (l1 : Int32) (l2 : Int32) (h : Hp) : Option (Int32 × Hp) :=
  bnd (fX12_beginShow h) fun _ h1 =>
  itr1 (fX12_endOf_l6 l1 l2 (fun h17 => bnd (fX12_standNow h17) fun x19 h18 =>
  bnd (fX12_ones x19 h18) fun x21 h20 =>
  some (x21, h20))) FU 0 h1
set_option maxHeartbeats 4000000 in
set_option maxRecDepth 100000 in
theorem sX12_endOf_l6 (g : GE) (l1 : Int32) (l2 : Int32) (K : Hp → Option (Int32 × Hp)) (hK : ∀ (h : Hp), Sim cvi 1 g mX12_endOf 6 93 [(0, rv g 10 0)] [] h (K  h)) : ∀ (n : Nat) (l3 : Int32) (h : Hp), Sim cvi 1 g mX12_endOf 6 6 [(0, rv g 10 0), (1, .int l1), (2, .int l2), (3, .int l3)] [] h (itr1 (fX12_endOf_l6 l1 l2 K) n l3 h) := by
  refine s_itr1 (fun l3 h o => Sim cvi 1 g mX12_endOf 6 6 [(0, rv g 10 0), (1, .int l1), (2, .int l2), (3, .int l3)] [] h o) (fun _ _ => s_none) ?_
  intro rec hrec l3 h
  unfold fX12_endOf_l6
  refine s_iload_n 3 dX12_endOf_6 rfl rfl ?_
  refine s_iload_n 1 dX12_endOf_7 rfl rfl ?_
  refine s_icmp_ge (tgt := 93) dX12_endOf_8 (by decide) ?_ ?_
  ·
    refine s_sub [0] rfl ?_
    exact hK h
  ·
    refine s_aload_n 0 dX12_endOf_11 rfl rfl ?_
    refine s_iload_n 2 dX12_endOf_12 rfl rfl ?_
    refine s_iload_n 3 dX12_endOf_13 rfl rfl ?_
    refine s_iload_n 1 dX12_endOf_14 rfl rfl ?_
    refine s_callVi (s0 := 0) (As := [.int l2, .int l3, .int l1]) (rest := []) (cX12_digit_ok g l2 l3 l1 h) vl_X12_417 rfl (Nat.le_of_ble_eq_true rfl) (Nat.le_of_ble_eq_true rfl) dX12_endOf_15 rfl (fun x3 h2 => ?_)
    refine s_istore (ls' := [(4, .int x3), (0, rv g 10 0), (1, .int l1), (2, .int l2), (3, .int l3)]) dX12_endOf_18 (by decide) rfl ?_
    refine s_iload_n 4 dX12_endOf_20 rfl rfl ?_
    refine s_iconst (v := 2) dX12_endOf_21 rfl ?_
    refine s_iremc dX12_endOf_22 (by decide) ?_
    refine s_iconst (v := 1) dX12_endOf_23 rfl ?_
    refine s_jn (fun (k32_3 : Int32 → Hp → Option (Int32 × Hp)) => ∀ (z0_3 : Int32) (h5 : Hp), Sim cvi 1 g mX12_endOf 6 32 [(0, rv g 10 0), (1, .int l1), (2, .int l2), (3, .int l3), (4, .int x3)] [.int z0_3] h5 (k32_3 z0_3 h5)) (fun z0_3 h5 => ?_) (fun k32_3 Hk32_3 => ?_)
    ·
      refine s_istore (ls' := [(5, .int z0_3), (0, rv g 10 0), (1, .int l1), (2, .int l2), (3, .int l3), (4, .int x3)]) dX12_endOf_32 (by decide) rfl ?_
      refine s_iload 5 dX12_endOf_34 rfl ?_
      refine s_iconst (v := 5) dX12_endOf_36 rfl ?_
      refine s_jn (fun (k78_5 : Int32 → Hp → Option (Int32 × Hp)) => ∀ (z0_5 : Int32) (h7 : Hp), Sim cvi 1 g mX12_endOf 6 78 [(0, rv g 10 0), (1, .int l1), (2, .int l2), (3, .int l3)] [.int z0_5] h7 (k78_5 z0_5 h7)) (fun z0_5 h7 => ?_) (fun k78_5 Hk78_5 => ?_)
      ·
        refine s_istore (ls' := [(6, .int z0_5), (0, rv g 10 0), (1, .int l1), (2, .int l2), (3, .int l3)]) dX12_endOf_78 (by decide) rfl ?_
        refine s_iload 0 dX12_endOf_80 rfl ?_
        refine s_if_ne (tgt := 87) dX12_endOf_82 (by decide) ?_ ?_
        ·
          refine s_iconst (v := (-1)) dX12_endOf_85 rfl ?_
          exact s_iret rfl dX12_endOf_86
        ·
          refine s_iincl 4 (w := 1) (fun x8 => [(3, .int x8), (6, .int z0_5), (0, rv g 10 0), (1, .int l1), (2, .int l2)]) dX12_endOf_87 rfl rfl (by decide) (fun _ => rfl) (fun x8 => ?_)
          refine s_goto (tgt := 6) dX12_endOf_90 (by decide) ?_
          refine s_sub [2, 3, 4, 0] rfl ?_
          exact hrec x8 h7
      refine s_icmp_ne (tgt := 62) dX12_endOf_37 (by decide) ?_ ?_
      ·
        refine s_iload 0 dX12_endOf_40 rfl ?_
        refine s_jn (fun (k54_8 : Hp → Option (Int32 × Hp)) => ∀ (h10 : Hp), Sim cvi 1 g mX12_endOf 6 54 [(0, rv g 10 0), (1, .int l1), (2, .int l2), (3, .int l3)] [] h10 (k54_8 h10)) (fun h10 => ?_) (fun k54_8 Hk54_8 => ?_)
        ·
          refine s_iconst (v := 1) dX12_endOf_54 rfl ?_
          refine s_goto (tgt := 78) dX12_endOf_55 (by decide) ?_
          exact Hk78_5 1 h10
        refine s_if_ne (tgt := 54) dX12_endOf_42 (by decide) ?_ ?_
        ·
          refine s_aload_n 1 dX12_endOf_45 rfl rfl ?_
          refine s_iconst (v := 0) dX12_endOf_46 rfl ?_
          refine s_iconst (v := (-1)) dX12_endOf_47 rfl ?_
          refine s_callVi (s0 := 0) (As := [.int 0, .int (-1)]) (rest := []) (cX12_does_ok g 0 (-1) h5) vl_X12_310 rfl (Nat.le_of_ble_eq_true rfl) (Nat.le_of_ble_eq_true rfl) dX12_endOf_48 rfl (fun x12 h11 => ?_)
          refine s_if_eq (tgt := 58) dX12_endOf_51 (by decide) ?_ ?_
          ·
            refine s_iconst (v := 0) dX12_endOf_58 rfl ?_
            refine s_goto (tgt := 78) dX12_endOf_59 (by decide) ?_
            refine s_sub [1, 2, 3, 4] rfl ?_
            exact Hk78_5 0 h11
          ·
            refine s_sub [1, 2, 3, 4] rfl ?_
            exact Hk54_8 h11
        ·
          refine s_sub [1, 2, 3, 4] rfl ?_
          exact Hk54_8 h5
      ·
        refine s_aload_n 1 dX12_endOf_62 rfl rfl ?_
        refine s_iload 0 dX12_endOf_63 rfl ?_
        refine s_jn (fun (k73_12 : Int32 → Hp → Option (Int32 × Hp)) => ∀ (z0_12 : Int32) (h14 : Hp), Sim cvi 1 g mX12_endOf 6 73 [(0, rv g 10 0), (1, .int l1), (2, .int l2), (3, .int l3), (4, .int x3)] [.int z0_12, rv g 10 0] h14 (k73_12 z0_12 h14)) (fun z0_12 h14 => ?_) (fun k73_12 Hk73_12 => ?_)
        ·
          refine s_iload 4 dX12_endOf_73 rfl ?_
          refine s_callVi (s0 := 0) (As := [.int z0_12, .int x3]) (rest := []) (cX12_does_ok g z0_12 x3 h14) vl_X12_310 rfl (Nat.le_of_ble_eq_true rfl) (Nat.le_of_ble_eq_true rfl) dX12_endOf_75 rfl (fun x16 h15 => ?_)
          refine s_sub [0, 1, 2, 3] rfl ?_
          exact Hk78_5 x16 h15
        refine s_if_eq (tgt := 72) dX12_endOf_65 (by decide) ?_ ?_
        ·
          refine s_iconst (v := 1) dX12_endOf_72 rfl ?_
          refine s_sub [1, 2, 3, 4, 5] rfl ?_
          exact Hk73_12 1 h5
        ·
          refine s_iconst (v := 3) dX12_endOf_68 rfl ?_
          refine s_goto (tgt := 73) dX12_endOf_69 (by decide) ?_
          refine s_sub [1, 2, 3, 4, 5] rfl ?_
          exact Hk73_12 3 h5
    refine s_icmp_ne (tgt := 31) dX12_endOf_24 (by decide) ?_ ?_
    ·
      refine s_iconst (v := 1) dX12_endOf_27 rfl ?_
      refine s_goto (tgt := 32) dX12_endOf_28 (by decide) ?_
      refine s_sub [1, 2, 3, 4, 0] rfl ?_
      exact Hk32_3 1 h2
    ·
      refine s_iconst (v := 0) dX12_endOf_31 rfl ?_
      refine s_sub [1, 2, 3, 4, 0] rfl ?_
      exact Hk32_3 0 h2
set_option maxHeartbeats 4000000 in
set_option maxRecDepth 100000 in
theorem cX12_endOf_ok (g : GE) (l1 : Int32) (l2 : Int32) (h : Hp) : Con cvi 1 g mX12_endOf 6 [rv g 10 0, .int l1, .int l2] h (fX12_endOf l1 l2 h) := by
  refine Con.of (by decide +kernel) (Nat.le_of_ble_eq_true rfl) ?_
  show Sim cvi 1 g mX12_endOf 6 0 [(0, rv g 10 0), (1, .int l1), (2, .int l2)] [] h _
  unfold fX12_endOf
  refine s_aload_n 0 dX12_endOf_0 rfl rfl ?_
  refine s_callVv (s0 := 0) (As := []) (rest := []) (cX12_beginShow_ok g h) vl_X12_316 rfl (Nat.le_of_ble_eq_true rfl) (Nat.le_of_ble_eq_true rfl) dX12_endOf_1 rfl (fun h1 => ?_)
  refine s_iconst (v := 0) dX12_endOf_4 rfl ?_
  refine s_istore_n (ls' := [(3, .int 0), (0, rv g 10 0), (1, .int l1), (2, .int l2)]) dX12_endOf_5 rfl (by decide) rfl ?_
  refine s_sub (ls' := [(0, rv g 10 0), (1, .int l1), (2, .int l2), (3, .int 0)]) [1, 2, 3, 0] rfl ?_
  refine sX12_endOf_l6 g l1 l2 _ (fun h17 => ?_) FU 0 h1
  refine s_aload_n 0 dX12_endOf_93 rfl rfl ?_
  refine s_callVi (s0 := 0) (As := []) (rest := []) (cX12_standNow_ok g h17) vl_X12_274 rfl (Nat.le_of_ble_eq_true rfl) (Nat.le_of_ble_eq_true rfl) dX12_endOf_94 rfl (fun x19 h18 => ?_)
  refine s_callSi (As := [.int x19]) (rest := []) (cX12_ones_ok g x19 h18) sl_X12_389 rfl (Nat.le_of_ble_eq_true rfl) (Nat.le_of_ble_eq_true rfl) dX12_endOf_97 rfl (fun x21 h20 => ?_)
  exact s_iret rfl dX12_endOf_100
def fX12_fold_l10 (l1 : Int32) (l2 : Int32) (K : Int32 → Hp → Option (Int32 × Hp)) (rec : Int32 → Int32 → Hp → Option (Int32 × Hp)) (l3 l4 : Int32) (h : Hp) : Option (Int32 × Hp) :=
  if (6 : Int32) ≤ l4 then (K l3 h)
  else (ck (ib (l1 + l4) 216) (
  lt (ra h 64 0 (l1 + l4)) fun x2 =>
  jn (κ := Int32 → Hp → Option (Int32 × Hp)) (fun y3_2 h4 => lt (l4 + 1) fun x5 =>
  rec y3_2 x5 h4) fun k67_2 =>
  if x2 = (-1) then (k67_2 l3 h)
  else (jn (κ := Hp → Option (Int32 × Hp)) (fun h7 => lt (wr h7 10 0 51 l4) fun h8 =>
  k67_2 x2 h8) fun k58_5 =>
  if l3 = (-1) then (k58_5 h)
  else (if l2 = 0 then (if l3 ≤ x2 then (k67_2 l3 h)
  else (k58_5 h))
  else (if x2 ≤ l3 then (k67_2 l3 h)
  else (k58_5 h))))))
def fX12_fold (l1 : Int32) (l2 : Int32) (h : Hp) : Option (Int32 × Hp) :=
  lt (wr h 10 0 51 (-1)) fun h1 =>
  itr2 (fX12_fold_l10 l1 l2 (fun y9 h10 => some (y9, h10))) FU (-1) 0 h1
set_option maxHeartbeats 4000000 in
set_option maxRecDepth 100000 in
theorem sX12_fold_l10 (g : GE) (l1 : Int32) (l2 : Int32) (K : Int32 → Hp → Option (Int32 × Hp)) (hK : ∀ (y3 : Int32) (h : Hp), Sim cvi 1 g mX12_fold 2 73 [(3, .int y3)] [] h (K y3 h)) : ∀ (n : Nat) (l3 l4 : Int32) (h : Hp), Sim cvi 1 g mX12_fold 2 10 [(0, rv g 10 0), (1, .int l1), (2, .int l2), (3, .int l3), (4, .int l4)] [] h (itr2 (fX12_fold_l10 l1 l2 K) n l3 l4 h) := by
  refine s_itr2 (fun l3 l4 h o => Sim cvi 1 g mX12_fold 2 10 [(0, rv g 10 0), (1, .int l1), (2, .int l2), (3, .int l3), (4, .int l4)] [] h o) (fun _ _ _ => s_none) ?_
  intro rec hrec l3 l4 h
  unfold fX12_fold_l10
  refine s_iload 4 dX12_fold_10 rfl ?_
  refine s_bipush (v := 6) dX12_fold_12 rfl ?_
  refine s_icmp_ge (tgt := 73) dX12_fold_14 (by decide) ?_ ?_
  ·
    refine s_sub [3] rfl ?_
    exact hK l3 h
  ·
    refine s_aload_n 0 dX12_fold_17 rfl rfl ?_
    refine s_getr (s0 := 0) dX12_fold_18 fl_X12_75 ?_
    refine s_iload_n 1 dX12_fold_21 rfl rfl ?_
    refine s_iload 4 dX12_fold_22 rfl ?_
    refine s_iadd dX12_fold_24 ?_
    refine s_iald (s0 := 0) ka_64 dX12_fold_25 ?_
    refine s_leti (fun x2 => ?_)
    refine s_istore (ls' := [(5, .int x2), (0, rv g 10 0), (1, .int l1), (2, .int l2), (3, .int l3), (4, .int l4)]) dX12_fold_26 (by decide) rfl ?_
    refine s_iload 0 dX12_fold_28 rfl ?_
    refine s_iconst (v := (-1)) dX12_fold_30 rfl ?_
    refine s_jn (fun (k67_2 : Int32 → Hp → Option (Int32 × Hp)) => ∀ (y3_2 : Int32) (h4 : Hp), Sim cvi 1 g mX12_fold 2 67 [(0, rv g 10 0), (1, .int l1), (2, .int l2), (3, .int y3_2), (4, .int l4)] [] h4 (k67_2 y3_2 h4)) (fun y3_2 h4 => ?_) (fun k67_2 Hk67_2 => ?_)
    ·
      refine s_iincl 4 (w := 1) (fun x5 => [(4, .int x5), (0, rv g 10 0), (1, .int l1), (2, .int l2), (3, .int y3_2)]) dX12_fold_67 rfl rfl (by decide) (fun _ => rfl) (fun x5 => ?_)
      refine s_goto (tgt := 10) dX12_fold_70 (by decide) ?_
      refine s_sub [1, 2, 3, 4, 0] rfl ?_
      exact hrec y3_2 x5 h4
    refine s_icmp_eq (tgt := 67) dX12_fold_31 (by decide) ?_ ?_
    ·
      refine s_sub [1, 2, 3, 4, 5] rfl ?_
      exact Hk67_2 l3 h
    ·
      refine s_iload_n 4 dX12_fold_34 rfl rfl ?_
      refine s_iconst (v := (-1)) dX12_fold_35 rfl ?_
      refine s_jn (fun (k58_5 : Hp → Option (Int32 × Hp)) => ∀ (h7 : Hp), Sim cvi 1 g mX12_fold 2 58 [(0, rv g 10 0), (1, .int l1), (2, .int l2), (4, .int l4), (5, .int x2)] [] h7 (k58_5 h7)) (fun h7 => ?_) (fun k58_5 Hk58_5 => ?_)
      ·
        refine s_iload 4 dX12_fold_58 rfl ?_
        refine s_istore_n (ls' := [(3, .int x2), (0, rv g 10 0), (1, .int l1), (2, .int l2), (4, .int l4), (5, .int x2)]) dX12_fold_60 rfl (by decide) rfl ?_
        refine s_aload_n 1 dX12_fold_61 rfl rfl ?_
        refine s_iload 4 dX12_fold_62 rfl ?_
        refine s_puti (s0 := 0) dX12_fold_64 fl_X12_424 (fun h8 => ?_)
        refine s_sub [1, 2, 3, 0, 4] rfl ?_
        exact Hk67_2 x2 h8
      refine s_icmp_eq (tgt := 58) dX12_fold_36 (by decide) ?_ ?_
      ·
        refine s_sub [1, 2, 3, 5, 0] rfl ?_
        exact Hk58_5 h
      ·
        refine s_iload_n 3 dX12_fold_39 rfl rfl ?_
        refine s_if_eq (tgt := 52) dX12_fold_40 (by decide) ?_ ?_
        ·
          refine s_iload 0 dX12_fold_52 rfl ?_
          refine s_iload_n 4 dX12_fold_54 rfl rfl ?_
          refine s_icmp_ge (tgt := 67) dX12_fold_55 (by decide) ?_ ?_
          ·
            refine s_sub [1, 2, 3, 4, 5] rfl ?_
            exact Hk67_2 l3 h
          ·
            refine s_sub [1, 2, 3, 5, 0] rfl ?_
            exact Hk58_5 h
        ·
          refine s_iload 0 dX12_fold_43 rfl ?_
          refine s_iload_n 4 dX12_fold_45 rfl rfl ?_
          refine s_icmp_le (tgt := 67) dX12_fold_46 (by decide) ?_ ?_
          ·
            refine s_sub [1, 2, 3, 4, 5] rfl ?_
            exact Hk67_2 l3 h
          ·
            refine s_goto (tgt := 58) dX12_fold_49 (by decide) ?_
            refine s_sub [1, 2, 3, 5, 0] rfl ?_
            exact Hk58_5 h
set_option maxHeartbeats 4000000 in
set_option maxRecDepth 100000 in
theorem cX12_fold_ok (g : GE) (l1 : Int32) (l2 : Int32) (h : Hp) : Con cvi 1 g mX12_fold 2 [rv g 10 0, .int l1, .int l2] h (fX12_fold l1 l2 h) := by
  refine Con.of (by decide +kernel) (Nat.le_of_ble_eq_true rfl) ?_
  show Sim cvi 1 g mX12_fold 2 0 [(0, rv g 10 0), (1, .int l1), (2, .int l2)] [] h _
  unfold fX12_fold
  refine s_iconst (v := (-1)) dX12_fold_0 rfl ?_
  refine s_istore_n (ls' := [(3, .int (-1)), (0, rv g 10 0), (1, .int l1), (2, .int l2)]) dX12_fold_1 rfl (by decide) rfl ?_
  refine s_aload_n 1 dX12_fold_2 rfl rfl ?_
  refine s_iconst (v := (-1)) dX12_fold_3 rfl ?_
  refine s_puti (s0 := 0) dX12_fold_4 fl_X12_424 (fun h1 => ?_)
  refine s_iconst (v := 0) dX12_fold_7 rfl ?_
  refine s_istore (ls' := [(4, .int 0), (3, .int (-1)), (0, rv g 10 0), (1, .int l1), (2, .int l2)]) dX12_fold_8 (by decide) rfl ?_
  refine s_sub (ls' := [(0, rv g 10 0), (1, .int l1), (2, .int l2), (3, .int (-1)), (4, .int 0)]) [2, 3, 4, 1, 0] rfl ?_
  refine sX12_fold_l10 g l1 l2 _ (fun y9 h10 => ?_) FU (-1) 0 h1
  refine s_iload_n 0 dX12_fold_73 rfl rfl ?_
  exact s_iret rfl dX12_fold_74
def fX12_duel_l34 (l2 : Int32) (l4 : Int32) (K : Hp → Option (Int32 × Hp)) (rec : Int32 → Hp → Option (Int32 × Hp)) (l5 : Int32) (h : Hp) : Option (Int32 × Hp) :=
  if l4 ≤ l5 then (K h)
  else (bnd (fX12_endOf l2 l5 h) fun x9 h8 =>
  ck (ib l5 216) (lt (wa h8 64 0 l5 x9) fun h10 =>
  lt (l5 + 1) fun x11 =>
  rec x11 h10))
def fX12_duel_l86 (l4 : Int32) (l5 : Int32) (K : Hp → Option (Int32 × Hp)) (rec : Int32 → Hp → Option (Int32 × Hp)) (l6 : Int32) (h : Hp) : Option (Int32 × Hp) :=
  if l4 ≤ l6 then (K h)
  else (jn (κ := Int32 → Hp → Option (Int32 × Hp)) (fun z0_15 h17 => bnd (fX12_fold ((6 : Int32) * l6) z0_15 h17) fun x19 h18 =>
  ck (ib l6 216) (lt (wa h18 64 0 l6 x19) fun h20 =>
  lt (l6 + 1) fun x21 =>
  rec x21 h20)) fun k117_15 =>
  if (irm l5 2) = 0 then (k117_15 1 h)
  else (k117_15 0 h))
def fX12_duel_l71 (K : Hp → Option (Int32 × Hp)) (rec : Int32 → Int32 → Hp → Option (Int32 × Hp)) (l4 l5 : Int32) (h : Hp) : Option (Int32 × Hp) :=
  if l5 < 0 then (K h)
  else (lt (l4 / 6) fun x15 =>
  itr1 (fX12_duel_l86 x15 l5 (fun h22 => lt (l5 + (-1)) fun x23 =>
  rec x15 x23 h22)) FU 0 h)
def fX12_duel (l1 : Int32) (l2 : Int32) (l3 : Int32) (h : Hp) : Option (Int32 × Hp) :=
  lt (wr h 10 0 0 0) fun h1 =>
  bnd (fX12_in l2 0 3 h1) fun x3 h2 =>
  if x3 = 0 then (some ((-9), h2))
  else (bnd (fX12_hand l1 h2) fun x5 h4 =>
  if x5 = 0 then (some ((-9), h4))
  else (bnd (fX12_sixes l2 h4) fun x7 h6 =>
  itr1 (fX12_duel_l34 l2 x7 (fun h12 => lt (wr h12 10 0 51 (-1)) fun h13 =>
  lt (l2 - (1 : Int32)) fun x14 =>
  itr2 (fX12_duel_l71 (fun h24 => if l3 = 0 then (ck (ib 0 216) (
  some (ra h24 64 0 0, h24)))
  else (some (rd h24 10 0 51, h24)))) FU x7 x14 h13)) FU 0 h6))
set_option maxHeartbeats 4000000 in
set_option maxRecDepth 100000 in
theorem sX12_duel_l34 (g : GE) (l2 : Int32) (l3 : Int32) (l4 : Int32) (K : Hp → Option (Int32 × Hp)) (hK : ∀ (h : Hp), Sim cvi 1 g mX12_duel 7 61 [(0, rv g 10 0), (2, .int l2), (3, .int l3), (4, .int l4)] [] h (K  h)) : ∀ (n : Nat) (l5 : Int32) (h : Hp), Sim cvi 1 g mX12_duel 7 34 [(0, rv g 10 0), (2, .int l2), (3, .int l3), (4, .int l4), (5, .int l5)] [] h (itr1 (fX12_duel_l34 l2 l4 K) n l5 h) := by
  refine s_itr1 (fun l5 h o => Sim cvi 1 g mX12_duel 7 34 [(0, rv g 10 0), (2, .int l2), (3, .int l3), (4, .int l4), (5, .int l5)] [] h o) (fun _ _ => s_none) ?_
  intro rec hrec l5 h
  unfold fX12_duel_l34
  refine s_iload 4 dX12_duel_34 rfl ?_
  refine s_iload 3 dX12_duel_36 rfl ?_
  refine s_icmp_ge (tgt := 61) dX12_duel_38 (by decide) ?_ ?_
  ·
    refine s_sub [0, 1, 2, 3] rfl ?_
    exact hK h
  ·
    refine s_aload_n 0 dX12_duel_41 rfl rfl ?_
    refine s_getr (s0 := 0) dX12_duel_42 fl_X12_75 ?_
    refine s_iload 4 dX12_duel_45 rfl ?_
    refine s_aload_n 0 dX12_duel_47 rfl rfl ?_
    refine s_iload_n 1 dX12_duel_48 rfl rfl ?_
    refine s_iload 4 dX12_duel_49 rfl ?_
    refine s_callVi (s0 := 0) (As := [.int l2, .int l5]) (rest := [.int l5, rv g 64 0]) (cX12_endOf_ok g l2 l5 h) vl_X12_427 rfl (Nat.le_of_ble_eq_true rfl) (Nat.le_of_ble_eq_true rfl) dX12_duel_51 rfl (fun x9 h8 => ?_)
    refine s_iast (s0 := 0) ka_64 dX12_duel_54 (fun h10 => ?_)
    refine s_iincl 4 (w := 1) (fun x11 => [(5, .int x11), (0, rv g 10 0), (2, .int l2), (3, .int l3), (4, .int l4)]) dX12_duel_55 rfl rfl (by decide) (fun _ => rfl) (fun x11 => ?_)
    refine s_goto (tgt := 34) dX12_duel_58 (by decide) ?_
    refine s_sub [1, 2, 3, 4, 0] rfl ?_
    exact hrec x11 h10
set_option maxHeartbeats 4000000 in
set_option maxRecDepth 100000 in
theorem sX12_duel_l86 (g : GE) (l3 : Int32) (l4 : Int32) (l5 : Int32) (K : Hp → Option (Int32 × Hp)) (hK : ∀ (h : Hp), Sim cvi 1 g mX12_duel 7 127 [(0, rv g 10 0), (3, .int l3), (4, .int l4), (5, .int l5)] [] h (K  h)) : ∀ (n : Nat) (l6 : Int32) (h : Hp), Sim cvi 1 g mX12_duel 7 86 [(0, rv g 10 0), (3, .int l3), (4, .int l4), (5, .int l5), (6, .int l6)] [] h (itr1 (fX12_duel_l86 l4 l5 K) n l6 h) := by
  refine s_itr1 (fun l6 h o => Sim cvi 1 g mX12_duel 7 86 [(0, rv g 10 0), (3, .int l3), (4, .int l4), (5, .int l5), (6, .int l6)] [] h o) (fun _ _ => s_none) ?_
  intro rec hrec l6 h
  unfold fX12_duel_l86
  refine s_iload 4 dX12_duel_86 rfl ?_
  refine s_iload 2 dX12_duel_88 rfl ?_
  refine s_icmp_ge (tgt := 127) dX12_duel_90 (by decide) ?_ ?_
  ·
    refine s_sub [0, 1, 2, 3] rfl ?_
    exact hK h
  ·
    refine s_aload_n 0 dX12_duel_93 rfl rfl ?_
    refine s_getr (s0 := 0) dX12_duel_94 fl_X12_75 ?_
    refine s_iload 4 dX12_duel_97 rfl ?_
    refine s_aload_n 0 dX12_duel_99 rfl rfl ?_
    refine s_bipush (v := 6) dX12_duel_100 rfl ?_
    refine s_iload 4 dX12_duel_102 rfl ?_
    refine s_imul dX12_duel_104 ?_
    refine s_iload 3 dX12_duel_105 rfl ?_
    refine s_iconst (v := 2) dX12_duel_107 rfl ?_
    refine s_iremc dX12_duel_108 (by decide) ?_
    refine s_jn (fun (k117_15 : Int32 → Hp → Option (Int32 × Hp)) => ∀ (z0_15 : Int32) (h17 : Hp), Sim cvi 1 g mX12_duel 7 117 [(0, rv g 10 0), (3, .int l3), (4, .int l4), (5, .int l5), (6, .int l6)] [.int z0_15, .int ((6 : Int32) * l6), rv g 10 0, .int l6, rv g 64 0] h17 (k117_15 z0_15 h17)) (fun z0_15 h17 => ?_) (fun k117_15 Hk117_15 => ?_)
    ·
      refine s_callVi (s0 := 0) (As := [.int ((6 : Int32) * l6), .int z0_15]) (rest := [.int l6, rv g 64 0]) (cX12_fold_ok g ((6 : Int32) * l6) z0_15 h17) vl_X12_430 rfl (Nat.le_of_ble_eq_true rfl) (Nat.le_of_ble_eq_true rfl) dX12_duel_117 rfl (fun x19 h18 => ?_)
      refine s_iast (s0 := 0) ka_64 dX12_duel_120 (fun h20 => ?_)
      refine s_iincl 4 (w := 1) (fun x21 => [(6, .int x21), (0, rv g 10 0), (3, .int l3), (4, .int l4), (5, .int l5)]) dX12_duel_121 rfl rfl (by decide) (fun _ => rfl) (fun x21 => ?_)
      refine s_goto (tgt := 86) dX12_duel_124 (by decide) ?_
      refine s_sub [1, 2, 3, 4, 0] rfl ?_
      exact hrec x21 h20
    refine s_if_ne (tgt := 116) dX12_duel_109 (by decide) ?_ ?_
    ·
      refine s_iconst (v := 1) dX12_duel_112 rfl ?_
      refine s_goto (tgt := 117) dX12_duel_113 (by decide) ?_
      exact Hk117_15 1 h
    ·
      refine s_iconst (v := 0) dX12_duel_116 rfl ?_
      exact Hk117_15 0 h
set_option maxHeartbeats 4000000 in
set_option maxRecDepth 100000 in
theorem sX12_duel_l71 (g : GE) (l3 : Int32) (K : Hp → Option (Int32 × Hp)) (hK : ∀ (h : Hp), Sim cvi 1 g mX12_duel 7 133 [(0, rv g 10 0), (3, .int l3)] [] h (K  h)) : ∀ (n : Nat) (l4 l5 : Int32) (h : Hp), Sim cvi 1 g mX12_duel 7 71 [(0, rv g 10 0), (3, .int l3), (4, .int l4), (5, .int l5)] [] h (itr2 (fX12_duel_l71 K) n l4 l5 h) := by
  refine s_itr2 (fun l4 l5 h o => Sim cvi 1 g mX12_duel 7 71 [(0, rv g 10 0), (3, .int l3), (4, .int l4), (5, .int l5)] [] h o) (fun _ _ _ => s_none) ?_
  intro rec hrec l4 l5 h
  unfold fX12_duel_l71
  refine s_iload 3 dX12_duel_71 rfl ?_
  refine s_if_lt (tgt := 133) dX12_duel_73 (by decide) ?_ ?_
  ·
    refine s_sub [0, 1] rfl ?_
    exact hK h
  ·
    refine s_iload 2 dX12_duel_76 rfl ?_
    refine s_bipush (v := 6) dX12_duel_78 rfl ?_
    refine s_idivc dX12_duel_80 (by decide) ?_
    refine s_leti (fun x15 => ?_)
    refine s_istore (ls' := [(4, .int x15), (0, rv g 10 0), (3, .int l3), (5, .int l5)]) dX12_duel_81 (by decide) rfl ?_
    refine s_iconst (v := 0) dX12_duel_83 rfl ?_
    refine s_istore (ls' := [(6, .int 0), (4, .int x15), (0, rv g 10 0), (3, .int l3), (5, .int l5)]) dX12_duel_84 (by decide) rfl ?_
    refine s_sub (ls' := [(0, rv g 10 0), (3, .int l3), (4, .int x15), (5, .int l5), (6, .int 0)]) [2, 3, 1, 4, 0] rfl ?_
    refine sX12_duel_l86 g l3 x15 l5 _ (fun h22 => ?_) FU 0 h
    refine s_iincl 3 (w := (-1)) (fun x23 => [(5, .int x23), (0, rv g 10 0), (3, .int l3), (4, .int x15)]) dX12_duel_127 rfl rfl (by decide) (fun _ => rfl) (fun x23 => ?_)
    refine s_goto (tgt := 71) dX12_duel_130 (by decide) ?_
    refine s_sub [1, 2, 3, 0] rfl ?_
    exact hrec x15 x23 h22
set_option maxHeartbeats 4000000 in
set_option maxRecDepth 100000 in
theorem cX12_duel_ok (g : GE) (l1 : Int32) (l2 : Int32) (l3 : Int32) (h : Hp) : Con cvi 1 g mX12_duel 7 [rv g 10 0, .int l1, .int l2, .int l3] h (fX12_duel l1 l2 l3 h) := by
  refine Con.of (by decide +kernel) (Nat.le_of_ble_eq_true rfl) ?_
  show Sim cvi 1 g mX12_duel 7 0 [(0, rv g 10 0), (1, .int l1), (2, .int l2), (3, .int l3)] [] h _
  unfold fX12_duel
  refine s_aload_n 0 dX12_duel_0 rfl rfl ?_
  refine s_iconst (v := 0) dX12_duel_1 rfl ?_
  refine s_puti (s0 := 0) dX12_duel_2 fl_X12_88 (fun h1 => ?_)
  refine s_iload_n 2 dX12_duel_5 rfl rfl ?_
  refine s_iconst (v := 0) dX12_duel_6 rfl ?_
  refine s_iconst (v := 3) dX12_duel_7 rfl ?_
  refine s_callSi (As := [.int l2, .int 0, .int 3]) (rest := []) (cX12_in_ok g l2 0 3 h1) sl_X12_100 rfl (Nat.le_of_ble_eq_true rfl) (Nat.le_of_ble_eq_true rfl) dX12_duel_8 rfl (fun x3 h2 => ?_)
  refine s_if_eq (tgt := 22) dX12_duel_11 (by decide) ?_ ?_
  ·
    refine s_bipush (v := (-9)) dX12_duel_22 rfl ?_
    exact s_iret rfl dX12_duel_24
  ·
    refine s_aload_n 0 dX12_duel_14 rfl rfl ?_
    refine s_iload_n 1 dX12_duel_15 rfl rfl ?_
    refine s_callVi (s0 := 0) (As := [.int l1]) (rest := []) (cX12_hand_ok g l1 h2) vl_X12_241 rfl (Nat.le_of_ble_eq_true rfl) (Nat.le_of_ble_eq_true rfl) dX12_duel_16 rfl (fun x5 h4 => ?_)
    refine s_if_ne (tgt := 25) dX12_duel_19 (by decide) ?_ ?_
    ·
      refine s_bipush (v := (-9)) dX12_duel_22 rfl ?_
      exact s_iret rfl dX12_duel_24
    ·
      refine s_iload_n 2 dX12_duel_25 rfl rfl ?_
      refine s_callSi (As := [.int l2]) (rest := []) (cX12_sixes_ok g l2 h4) sl_X12_414 rfl (Nat.le_of_ble_eq_true rfl) (Nat.le_of_ble_eq_true rfl) dX12_duel_26 rfl (fun x7 h6 => ?_)
      refine s_istore (ls' := [(4, .int x7), (0, rv g 10 0), (1, .int l1), (2, .int l2), (3, .int l3)]) dX12_duel_29 (by decide) rfl ?_
      refine s_iconst (v := 0) dX12_duel_31 rfl ?_
      refine s_istore (ls' := [(5, .int 0), (4, .int x7), (0, rv g 10 0), (1, .int l1), (2, .int l2), (3, .int l3)]) dX12_duel_32 (by decide) rfl ?_
      refine s_sub (ls' := [(0, rv g 10 0), (2, .int l2), (3, .int l3), (4, .int x7), (5, .int 0)]) [2, 4, 5, 1, 0] rfl ?_
      refine sX12_duel_l34 g l2 l3 x7 _ (fun h12 => ?_) FU 0 h6
      refine s_aload_n 0 dX12_duel_61 rfl rfl ?_
      refine s_iconst (v := (-1)) dX12_duel_62 rfl ?_
      refine s_puti (s0 := 0) dX12_duel_63 fl_X12_424 (fun h13 => ?_)
      refine s_iload_n 1 dX12_duel_66 rfl rfl ?_
      refine s_iconst (v := 1) dX12_duel_67 rfl ?_
      refine s_isub dX12_duel_68 ?_
      refine s_leti (fun x14 => ?_)
      refine s_istore (ls' := [(5, .int x14), (0, rv g 10 0), (2, .int l2), (3, .int l3), (4, .int x7)]) dX12_duel_69 (by decide) rfl ?_
      refine s_sub (ls' := [(0, rv g 10 0), (3, .int l3), (4, .int x7), (5, .int x14)]) [1, 3, 4, 0] rfl ?_
      refine sX12_duel_l71 g l3 _ (fun h24 => ?_) FU x7 x14 h13
      refine s_iload_n 1 dX12_duel_133 rfl rfl ?_
      refine s_if_eq (tgt := 144) dX12_duel_134 (by decide) ?_ ?_
      ·
        refine s_aload_n 0 dX12_duel_144 rfl rfl ?_
        refine s_getr (s0 := 0) dX12_duel_145 fl_X12_75 ?_
        refine s_iconst (v := 0) dX12_duel_148 rfl ?_
        refine s_iald (s0 := 0) ka_64 dX12_duel_149 ?_
        exact s_iret rfl dX12_duel_150
      ·
        refine s_aload_n 0 dX12_duel_137 rfl rfl ?_
        refine s_geti (s0 := 0) dX12_duel_138 fl_X12_424 ?_
        refine s_goto (tgt := 150) dX12_duel_141 (by decide) ?_
        exact s_iret rfl dX12_duel_150
def fX12_end (l1 : Int32) (h : Hp) : Option (Int32 × Hp) :=
  lt (wr h 10 0 0 0) fun h1 =>
  ck (ib 0 4) (
  bnd (fX12_in l1 0 (ra h1 44 0 0) h1) fun x3 h2 =>
  if x3 = 0 then (some ((-1), h2))
  else (ck (ib 0 4) (lt (wa h2 44 0 0 l1) fun h4 =>
  some (l1, h4))))
set_option maxHeartbeats 4000000 in
set_option maxRecDepth 100000 in
theorem cX12_end_ok (g : GE) (l1 : Int32) (h : Hp) : Con cvi 1 g mX12_end 3 [rv g 10 0, .int l1] h (fX12_end l1 h) := by
  refine Con.of (by decide +kernel) (Nat.le_of_ble_eq_true rfl) ?_
  show Sim cvi 1 g mX12_end 3 0 [(0, rv g 10 0), (1, .int l1)] [] h _
  unfold fX12_end
  refine s_aload_n 0 dX12_end_0 rfl rfl ?_
  refine s_iconst (v := 0) dX12_end_1 rfl ?_
  refine s_puti (s0 := 0) dX12_end_2 fl_X12_88 (fun h1 => ?_)
  refine s_iload_n 1 dX12_end_5 rfl rfl ?_
  refine s_iconst (v := 0) dX12_end_6 rfl ?_
  refine s_aload_n 0 dX12_end_7 rfl rfl ?_
  refine s_getr (s0 := 0) dX12_end_8 fl_X12_13 ?_
  refine s_iconst (v := 0) dX12_end_11 rfl ?_
  refine s_iald (s0 := 0) ka_44 dX12_end_12 ?_
  refine s_callSi (As := [.int l1, .int 0, .int (ra h1 44 0 0)]) (rest := []) (cX12_in_ok g l1 0 (ra h1 44 0 0) h1) sl_X12_100 rfl (Nat.le_of_ble_eq_true rfl) (Nat.le_of_ble_eq_true rfl) dX12_end_13 rfl (fun x3 h2 => ?_)
  refine s_if_ne (tgt := 21) dX12_end_16 (by decide) ?_ ?_
  ·
    refine s_iconst (v := (-1)) dX12_end_19 rfl ?_
    exact s_iret rfl dX12_end_20
  ·
    refine s_aload_n 0 dX12_end_21 rfl rfl ?_
    refine s_getr (s0 := 0) dX12_end_22 fl_X12_13 ?_
    refine s_iconst (v := 0) dX12_end_25 rfl ?_
    refine s_iload_n 1 dX12_end_26 rfl rfl ?_
    refine s_iast (s0 := 0) ka_44 dX12_end_27 (fun h4 => ?_)
    refine s_iload_n 1 dX12_end_28 rfl rfl ?_
    exact s_iret rfl dX12_end_29
def fX12_factOf (l1 : Int32) (l2 : Int32) (h : Hp) : Option (Int32 × Hp) :=
  ck (ib (((((26 : Int32) * (rd h 10 0 52)) + (2 : Int32)) + ((3 : Int32) * l1)) + l2) 208) (
  some (ra h 50 0 (((((26 : Int32) * (rd h 10 0 52)) + (2 : Int32)) + ((3 : Int32) * l1)) + l2), h))
set_option maxHeartbeats 4000000 in
set_option maxRecDepth 100000 in
theorem cX12_factOf_ok (g : GE) (l1 : Int32) (l2 : Int32) (h : Hp) : Con cvi 1 g mX12_factOf 2 [rv g 10 0, .int l1, .int l2] h (fX12_factOf l1 l2 h) := by
  refine Con.of (by decide +kernel) (Nat.le_of_ble_eq_true rfl) ?_
  show Sim cvi 1 g mX12_factOf 2 0 [(0, rv g 10 0), (1, .int l1), (2, .int l2)] [] h _
  unfold fX12_factOf
  refine s_aload_n 0 dX12_factOf_0 rfl rfl ?_
  refine s_getr (s0 := 0) dX12_factOf_1 fl_X12_32 ?_
  refine s_bipush (v := 26) dX12_factOf_4 rfl ?_
  refine s_aload_n 0 dX12_factOf_6 rfl rfl ?_
  refine s_geti (s0 := 0) dX12_factOf_7 fl_X12_444 ?_
  refine s_imul dX12_factOf_10 ?_
  refine s_iconst (v := 2) dX12_factOf_11 rfl ?_
  refine s_iadd dX12_factOf_12 ?_
  refine s_iconst (v := 3) dX12_factOf_13 rfl ?_
  refine s_iload_n 1 dX12_factOf_14 rfl rfl ?_
  refine s_imul dX12_factOf_15 ?_
  refine s_iadd dX12_factOf_16 ?_
  refine s_iload_n 2 dX12_factOf_17 rfl rfl ?_
  refine s_iadd dX12_factOf_18 ?_
  refine s_iald (s0 := 0) ka_50 dX12_factOf_19 ?_
  exact s_iret rfl dX12_factOf_20
def fX12_facts (h : Hp) : Option (Int32 × Hp) :=
  ck (ib (((26 : Int32) * (rd h 10 0 52)) + (1 : Int32)) 208) (
  some (ra h 50 0 (((26 : Int32) * (rd h 10 0 52)) + (1 : Int32)), h))
set_option maxHeartbeats 4000000 in
set_option maxRecDepth 100000 in
theorem cX12_facts_ok (g : GE) (h : Hp) : Con cvi 1 g mX12_facts 2 [rv g 10 0] h (fX12_facts h) := by
  refine Con.of (by decide +kernel) (Nat.le_of_ble_eq_true rfl) ?_
  show Sim cvi 1 g mX12_facts 2 0 [(0, rv g 10 0)] [] h _
  unfold fX12_facts
  refine s_aload_n 0 dX12_facts_0 rfl rfl ?_
  refine s_getr (s0 := 0) dX12_facts_1 fl_X12_32 ?_
  refine s_bipush (v := 26) dX12_facts_4 rfl ?_
  refine s_aload_n 0 dX12_facts_6 rfl rfl ?_
  refine s_geti (s0 := 0) dX12_facts_7 fl_X12_444 ?_
  refine s_imul dX12_facts_10 ?_
  refine s_iconst (v := 1) dX12_facts_11 rfl ?_
  refine s_iadd dX12_facts_12 ?_
  refine s_iald (s0 := 0) ka_50 dX12_facts_13 ?_
  exact s_iret rfl dX12_facts_14
