def fX12_addStand (l1 : Int32) (h : Hp) : Option (Unit × Hp) :=
  ck (ib l1 46656) (
  if (ra h 59 0 l1) = 0 then (ck (ib (rd h 10 0 46) 46656) (lt (wa h 58 0 (rd h 10 0 46) l1) fun h1 =>
  lt (wr h1 10 0 46 ((rd h1 10 0 46) + (1 : Int32))) fun h2 =>
  ck (ib l1 46656) (lt (wa h2 59 0 l1 (rd h2 10 0 46)) fun h3 =>
  some ((), h3))))
  else (some ((), h)))
set_option maxHeartbeats 4000000 in
set_option maxRecDepth 100000 in
theorem cX12_addStand_ok (g : GE) (l1 : Int32) (h : Hp) : Con cvv 1 g mX12_addStand 2 [rv g 10 0, .int l1] h (fX12_addStand l1 h) := by
  refine Con.of (by decide +kernel) (Nat.le_of_ble_eq_true rfl) ?_
  show Sim cvv 1 g mX12_addStand 2 0 [(0, rv g 10 0), (1, .int l1)] [] h _
  unfold fX12_addStand
  refine s_aload_n 0 dX12_addStand_0 rfl rfl ?_
  refine s_getr (s0 := 0) dX12_addStand_1 fl_X12_60 ?_
  refine s_iload_n 1 dX12_addStand_4 rfl rfl ?_
  refine s_iald (s0 := 0) ka_59 dX12_addStand_5 ?_
  refine s_if_ne (tgt := 39) dX12_addStand_6 (by decide) ?_ ?_
  ·
    refine s_aload_n 0 dX12_addStand_9 rfl rfl ?_
    refine s_getr (s0 := 0) dX12_addStand_10 fl_X12_57 ?_
    refine s_aload_n 0 dX12_addStand_13 rfl rfl ?_
    refine s_geti (s0 := 0) dX12_addStand_14 fl_X12_340 ?_
    refine s_iload_n 1 dX12_addStand_17 rfl rfl ?_
    refine s_iast (s0 := 0) ka_58 dX12_addStand_18 (fun h1 => ?_)
    refine s_aload_n 0 dX12_addStand_19 rfl rfl ?_
    refine s_dup dX12_addStand_20 rfl ?_
    refine s_geti (s0 := 0) dX12_addStand_21 fl_X12_340 ?_
    refine s_iconst (v := 1) dX12_addStand_24 rfl ?_
    refine s_iadd dX12_addStand_25 ?_
    refine s_puti (s0 := 0) dX12_addStand_26 fl_X12_340 (fun h2 => ?_)
    refine s_aload_n 0 dX12_addStand_29 rfl rfl ?_
    refine s_getr (s0 := 0) dX12_addStand_30 fl_X12_60 ?_
    refine s_iload_n 1 dX12_addStand_33 rfl rfl ?_
    refine s_aload_n 0 dX12_addStand_34 rfl rfl ?_
    refine s_geti (s0 := 0) dX12_addStand_35 fl_X12_340 ?_
    refine s_iast (s0 := 0) ka_59 dX12_addStand_38 (fun h3 => ?_)
    exact s_vret rfl dX12_addStand_39
  ·
    exact s_vret rfl dX12_addStand_39
def fX12_addsFault (l1 : Int32) (l2 : Int32) (h : Hp) : Option (Unit × Hp) :=
  jn (κ := Hp → Option (Unit × Hp)) (fun h2 => lt (wr h2 10 0 16 l1) fun h3 =>
  lt (wr h3 10 0 17 l2) fun h4 =>
  some ((), h4)) fun k31_0 =>
  if (rd h 10 0 16) = 0 then (k31_0 h)
  else (if l2 < (rd h 10 0 17) then (k31_0 h)
  else (if l2 = (rd h 10 0 17) then (if (rd h 10 0 16) ≤ l1 then (some ((), h))
  else (k31_0 h))
  else (some ((), h))))
set_option maxHeartbeats 4000000 in
set_option maxRecDepth 100000 in
theorem cX12_addsFault_ok (g : GE) (l1 : Int32) (l2 : Int32) (h : Hp) : Con cvv 1 g mX12_addsFault 2 [rv g 10 0, .int l1, .int l2] h (fX12_addsFault l1 l2 h) := by
  refine Con.of (by decide +kernel) (Nat.le_of_ble_eq_true rfl) ?_
  show Sim cvv 1 g mX12_addsFault 2 0 [(0, rv g 10 0), (1, .int l1), (2, .int l2)] [] h _
  unfold fX12_addsFault
  refine s_aload_n 0 dX12_addsFault_0 rfl rfl ?_
  refine s_geti (s0 := 0) dX12_addsFault_1 fl_X12_134 ?_
  refine s_jn (fun (k31_0 : Hp → Option (Unit × Hp)) => ∀ (h2 : Hp), Sim cvv 1 g mX12_addsFault 2 31 [(0, rv g 10 0), (1, .int l1), (2, .int l2)] [] h2 (k31_0 h2)) (fun h2 => ?_) (fun k31_0 Hk31_0 => ?_)
  ·
    refine s_aload_n 0 dX12_addsFault_31 rfl rfl ?_
    refine s_iload_n 1 dX12_addsFault_32 rfl rfl ?_
    refine s_puti (s0 := 0) dX12_addsFault_33 fl_X12_134 (fun h3 => ?_)
    refine s_aload_n 0 dX12_addsFault_36 rfl rfl ?_
    refine s_iload_n 2 dX12_addsFault_37 rfl rfl ?_
    refine s_puti (s0 := 0) dX12_addsFault_38 fl_X12_137 (fun h4 => ?_)
    exact s_vret rfl dX12_addsFault_41
  refine s_if_eq (tgt := 31) dX12_addsFault_4 (by decide) ?_ ?_
  ·
    exact Hk31_0 h
  ·
    refine s_iload_n 2 dX12_addsFault_7 rfl rfl ?_
    refine s_aload_n 0 dX12_addsFault_8 rfl rfl ?_
    refine s_geti (s0 := 0) dX12_addsFault_9 fl_X12_137 ?_
    refine s_icmp_lt (tgt := 31) dX12_addsFault_12 (by decide) ?_ ?_
    ·
      exact Hk31_0 h
    ·
      refine s_iload_n 2 dX12_addsFault_15 rfl rfl ?_
      refine s_aload_n 0 dX12_addsFault_16 rfl rfl ?_
      refine s_geti (s0 := 0) dX12_addsFault_17 fl_X12_137 ?_
      refine s_icmp_ne (tgt := 41) dX12_addsFault_20 (by decide) ?_ ?_
      ·
        refine s_iload_n 1 dX12_addsFault_23 rfl rfl ?_
        refine s_aload_n 0 dX12_addsFault_24 rfl rfl ?_
        refine s_geti (s0 := 0) dX12_addsFault_25 fl_X12_134 ?_
        refine s_icmp_ge (tgt := 41) dX12_addsFault_28 (by decide) ?_ ?_
        ·
          exact s_vret rfl dX12_addsFault_41
        ·
          exact Hk31_0 h
      ·
        exact s_vret rfl dX12_addsFault_41
def fX12_deeds (h : Hp) : Option (Int32 × Hp) :=
  ck (ib ((81 : Int32) * (rd h 10 0 40)) 648) (
  some (ra h 49 0 ((81 : Int32) * (rd h 10 0 40)), h))
set_option maxHeartbeats 4000000 in
set_option maxRecDepth 100000 in
theorem cX12_deeds_ok (g : GE) (h : Hp) : Con cvi 1 g mX12_deeds 2 [rv g 10 0] h (fX12_deeds h) := by
  refine Con.of (by decide +kernel) (Nat.le_of_ble_eq_true rfl) ?_
  show Sim cvi 1 g mX12_deeds 2 0 [(0, rv g 10 0)] [] h _
  unfold fX12_deeds
  refine s_aload_n 0 dX12_deeds_0 rfl rfl ?_
  refine s_getr (s0 := 0) dX12_deeds_1 fl_X12_29 ?_
  refine s_bipush (v := 81) dX12_deeds_4 rfl ?_
  refine s_aload_n 0 dX12_deeds_6 rfl rfl ?_
  refine s_geti (s0 := 0) dX12_deeds_7 fl_X12_298 ?_
  refine s_imul dX12_deeds_10 ?_
  refine s_iald (s0 := 0) ka_49 dX12_deeds_11 ?_
  exact s_iret rfl dX12_deeds_12
def fX12_deedOf (l1 : Int32) (l2 : Int32) (h : Hp) : Option (Int32 × Hp) :=
  ck (ib (((((81 : Int32) * (rd h 10 0 40)) + (1 : Int32)) + ((2 : Int32) * l1)) + l2) 648) (
  some (ra h 49 0 (((((81 : Int32) * (rd h 10 0 40)) + (1 : Int32)) + ((2 : Int32) * l1)) + l2), h))
set_option maxHeartbeats 4000000 in
set_option maxRecDepth 100000 in
theorem cX12_deedOf_ok (g : GE) (l1 : Int32) (l2 : Int32) (h : Hp) : Con cvi 1 g mX12_deedOf 2 [rv g 10 0, .int l1, .int l2] h (fX12_deedOf l1 l2 h) := by
  refine Con.of (by decide +kernel) (Nat.le_of_ble_eq_true rfl) ?_
  show Sim cvi 1 g mX12_deedOf 2 0 [(0, rv g 10 0), (1, .int l1), (2, .int l2)] [] h _
  unfold fX12_deedOf
  refine s_aload_n 0 dX12_deedOf_0 rfl rfl ?_
  refine s_getr (s0 := 0) dX12_deedOf_1 fl_X12_29 ?_
  refine s_bipush (v := 81) dX12_deedOf_4 rfl ?_
  refine s_aload_n 0 dX12_deedOf_6 rfl rfl ?_
  refine s_geti (s0 := 0) dX12_deedOf_7 fl_X12_298 ?_
  refine s_imul dX12_deedOf_10 ?_
  refine s_iconst (v := 1) dX12_deedOf_11 rfl ?_
  refine s_iadd dX12_deedOf_12 ?_
  refine s_iconst (v := 2) dX12_deedOf_13 rfl ?_
  refine s_iload_n 1 dX12_deedOf_14 rfl rfl ?_
  refine s_imul dX12_deedOf_15 ?_
  refine s_iadd dX12_deedOf_16 ?_
  refine s_iload_n 2 dX12_deedOf_17 rfl rfl ?_
  refine s_iadd dX12_deedOf_18 ?_
  refine s_iald (s0 := 0) ka_49 dX12_deedOf_19 ?_
  exact s_iret rfl dX12_deedOf_20
def fX12_greater (l0 : Int32) (l1 : Int32) (h : Hp) : Option (Int32 × Hp) :=
  if l0 ≤ l1 then (some (l1, h))
  else (some (l0, h))
set_option maxHeartbeats 4000000 in
set_option maxRecDepth 100000 in
theorem cX12_greater_ok (g : GE) (l0 : Int32) (l1 : Int32) (h : Hp) : Con cvi 1 g mX12_greater 2 [.int l0, .int l1] h (fX12_greater l0 l1 h) := by
  refine Con.of (by decide +kernel) (Nat.le_of_ble_eq_true rfl) ?_
  show Sim cvi 1 g mX12_greater 2 0 [(0, .int l0), (1, .int l1)] [] h _
  unfold fX12_greater
  refine s_iload_n 0 dX12_greater_0 rfl rfl ?_
  refine s_iload_n 1 dX12_greater_1 rfl rfl ?_
  refine s_icmp_le (tgt := 9) dX12_greater_2 (by decide) ?_ ?_
  ·
    refine s_iload_n 1 dX12_greater_9 rfl rfl ?_
    exact s_iret rfl dX12_greater_10
  ·
    refine s_iload_n 0 dX12_greater_5 rfl rfl ?_
    refine s_goto (tgt := 10) dX12_greater_6 (by decide) ?_
    exact s_iret rfl dX12_greater_10
def fX12_lose (l1 : Int32) (h : Hp) : Option (Unit × Hp) :=
  ck (ib l1 5) (
  ck (ib l1 5) (lt (wa h 63 0 l1 ((ra h 63 0 l1) - (1 : Int32))) fun h1 =>
  ck (ib l1 5) (
  if (ra h1 63 0 l1) = 0 then (lt (wr h1 10 0 31 ((rd h1 10 0 31) + (1 : Int32))) fun h2 =>
  some ((), h2))
  else (lt (wr h1 10 0 31 ((rd h1 10 0 31) + (0 : Int32))) fun h3 =>
  some ((), h3)))))
set_option maxHeartbeats 4000000 in
set_option maxRecDepth 100000 in
theorem cX12_lose_ok (g : GE) (l1 : Int32) (h : Hp) : Con cvv 1 g mX12_lose 2 [rv g 10 0, .int l1] h (fX12_lose l1 h) := by
  refine Con.of (by decide +kernel) (Nat.le_of_ble_eq_true rfl) ?_
  show Sim cvv 1 g mX12_lose 2 0 [(0, rv g 10 0), (1, .int l1)] [] h _
  unfold fX12_lose
  refine s_aload_n 0 dX12_lose_0 rfl rfl ?_
  refine s_getr (s0 := 0) dX12_lose_1 fl_X12_72 ?_
  refine s_iload_n 1 dX12_lose_4 rfl rfl ?_
  refine s_dup2 dX12_lose_5 rfl rfl ?_
  refine s_iald (s0 := 0) ka_63 dX12_lose_6 ?_
  refine s_iconst (v := 1) dX12_lose_7 rfl ?_
  refine s_isub dX12_lose_8 ?_
  refine s_iast (s0 := 0) ka_63 dX12_lose_9 (fun h1 => ?_)
  refine s_aload_n 0 dX12_lose_10 rfl rfl ?_
  refine s_dup dX12_lose_11 rfl ?_
  refine s_geti (s0 := 0) dX12_lose_12 fl_X12_253 ?_
  refine s_aload_n 0 dX12_lose_15 rfl rfl ?_
  refine s_getr (s0 := 0) dX12_lose_16 fl_X12_72 ?_
  refine s_iload_n 1 dX12_lose_19 rfl rfl ?_
  refine s_iald (s0 := 0) ka_63 dX12_lose_20 ?_
  refine s_if_ne (tgt := 28) dX12_lose_21 (by decide) ?_ ?_
  ·
    refine s_iconst (v := 1) dX12_lose_24 rfl ?_
    refine s_goto (tgt := 29) dX12_lose_25 (by decide) ?_
    refine s_iadd dX12_lose_29 ?_
    refine s_puti (s0 := 0) dX12_lose_30 fl_X12_253 (fun h2 => ?_)
    exact s_vret rfl dX12_lose_33
  ·
    refine s_iconst (v := 0) dX12_lose_28 rfl ?_
    refine s_iadd dX12_lose_29 ?_
    refine s_puti (s0 := 0) dX12_lose_30 fl_X12_253 (fun h3 => ?_)
    exact s_vret rfl dX12_lose_33
def fX12_standNow_l4 (K : Int32 → Hp → Option (Int32 × Hp)) (rec : Int32 → Int32 → Hp → Option (Int32 × Hp)) (l1 l2 : Int32) (h : Hp) : Option (Int32 × Hp) :=
  if (rd h 10 0 22) ≤ l2 then (K l1 h)
  else (ck (ib l2 5) (
  jn (κ := Int32 → Hp → Option (Int32 × Hp)) (fun z0_0 h2 => lt (l1 ||| z0_0) fun x3 =>
  lt (l2 + 1) fun x4 =>
  rec x3 x4 h2) fun k29_0 =>
  if (ra h 63 0 l2) ≤ 0 then (k29_0 0 h)
  else (k29_0 ((1 : Int32) <<< (l2 &&& 31)) h)))
def fX12_standNow (h : Hp) : Option (Int32 × Hp) :=
  itr2 (fX12_standNow_l4 (fun y5 h6 => some (y5, h6))) FU 0 0 h
set_option maxHeartbeats 4000000 in
set_option maxRecDepth 100000 in
theorem sX12_standNow_l4 (g : GE) (K : Int32 → Hp → Option (Int32 × Hp)) (hK : ∀ (y1 : Int32) (h : Hp), Sim cvi 1 g mX12_standNow 2 37 [(1, .int y1)] [] h (K y1 h)) : ∀ (n : Nat) (l1 l2 : Int32) (h : Hp), Sim cvi 1 g mX12_standNow 2 4 [(0, rv g 10 0), (1, .int l1), (2, .int l2)] [] h (itr2 (fX12_standNow_l4 K) n l1 l2 h) := by
  refine s_itr2 (fun l1 l2 h o => Sim cvi 1 g mX12_standNow 2 4 [(0, rv g 10 0), (1, .int l1), (2, .int l2)] [] h o) (fun _ _ _ => s_none) ?_
  intro rec hrec l1 l2 h
  unfold fX12_standNow_l4
  refine s_iload_n 2 dX12_standNow_4 rfl rfl ?_
  refine s_aload_n 0 dX12_standNow_5 rfl rfl ?_
  refine s_geti (s0 := 0) dX12_standNow_6 fl_X12_232 ?_
  refine s_icmp_ge (tgt := 37) dX12_standNow_9 (by decide) ?_ ?_
  ·
    refine s_sub [1] rfl ?_
    exact hK l1 h
  ·
    refine s_iload_n 1 dX12_standNow_12 rfl rfl ?_
    refine s_aload_n 0 dX12_standNow_13 rfl rfl ?_
    refine s_getr (s0 := 0) dX12_standNow_14 fl_X12_72 ?_
    refine s_iload_n 2 dX12_standNow_17 rfl rfl ?_
    refine s_iald (s0 := 0) ka_63 dX12_standNow_18 ?_
    refine s_jn (fun (k29_0 : Int32 → Hp → Option (Int32 × Hp)) => ∀ (z0_0 : Int32) (h2 : Hp), Sim cvi 1 g mX12_standNow 2 29 [(0, rv g 10 0), (2, .int l2)] [.int z0_0, .int l1] h2 (k29_0 z0_0 h2)) (fun z0_0 h2 => ?_) (fun k29_0 Hk29_0 => ?_)
    ·
      refine s_ior dX12_standNow_29 ?_
      refine s_leti (fun x3 => ?_)
      refine s_istore_n (ls' := [(1, .int x3), (0, rv g 10 0), (2, .int l2)]) dX12_standNow_30 rfl (by decide) rfl ?_
      refine s_iincl 2 (w := 1) (fun x4 => [(2, .int x4), (1, .int x3), (0, rv g 10 0)]) dX12_standNow_31 rfl rfl (by decide) (fun _ => rfl) (fun x4 => ?_)
      refine s_goto (tgt := 4) dX12_standNow_34 (by decide) ?_
      refine s_sub [2, 1, 0] rfl ?_
      exact hrec x3 x4 h2
    refine s_if_le (tgt := 28) dX12_standNow_19 (by decide) ?_ ?_
    ·
      refine s_iconst (v := 0) dX12_standNow_28 rfl ?_
      refine s_sub [0, 2] rfl ?_
      exact Hk29_0 0 h
    ·
      refine s_iconst (v := 1) dX12_standNow_22 rfl ?_
      refine s_iload_n 2 dX12_standNow_23 rfl rfl ?_
      refine s_ishl dX12_standNow_24 ?_
      refine s_goto (tgt := 29) dX12_standNow_25 (by decide) ?_
      refine s_sub [0, 2] rfl ?_
      exact Hk29_0 ((1 : Int32) <<< (l2 &&& 31)) h
set_option maxHeartbeats 4000000 in
set_option maxRecDepth 100000 in
theorem cX12_standNow_ok (g : GE) (h : Hp) : Con cvi 1 g mX12_standNow 2 [rv g 10 0] h (fX12_standNow h) := by
  refine Con.of (by decide +kernel) (Nat.le_of_ble_eq_true rfl) ?_
  show Sim cvi 1 g mX12_standNow 2 0 [(0, rv g 10 0)] [] h _
  unfold fX12_standNow
  refine s_iconst (v := 0) dX12_standNow_0 rfl ?_
  refine s_istore_n (ls' := [(1, .int 0), (0, rv g 10 0)]) dX12_standNow_1 rfl (by decide) rfl ?_
  refine s_iconst (v := 0) dX12_standNow_2 rfl ?_
  refine s_istore_n (ls' := [(2, .int 0), (1, .int 0), (0, rv g 10 0)]) dX12_standNow_3 rfl (by decide) rfl ?_
  refine s_sub (ls' := [(0, rv g 10 0), (1, .int 0), (2, .int 0)]) [2, 1, 0] rfl ?_
  refine sX12_standNow_l4 g _ (fun y5 h6 => ?_) FU 0 0 h
  refine s_iload_n 0 dX12_standNow_37 rfl rfl ?_
  exact s_iret rfl dX12_standNow_38
def fX12_beat_l7 (l1 : Int32) (K : Hp → Option (Unit × Hp)) (rec : Int32 → Hp → Option (Unit × Hp)) (l3 : Int32) (h : Hp) : Option (Unit × Hp) :=
  if (rd h 10 0 22) ≤ l3 then (K h)
  else (jn (κ := Hp → Option (Unit × Hp)) (fun h3 => lt (l3 + 1) fun x4 =>
  rec x4 h3) fun k34_1 =>
  if l3 = l1 then (k34_1 h)
  else (ck (ib l3 5) (
  if (ra h 63 0 l3) ≤ 0 then (k34_1 h)
  else (bnd (fX12_lose l3 h) fun _ h5 =>
  k34_1 h5))))
def fX12_beat (l1 : Int32) (h : Hp) : Option (Unit × Hp) :=
  lt (rd h 10 0 31) fun x1 =>
  itr1 (fX12_beat_l7 l1 (fun h6 => lt (wr h6 10 0 30 ((rd h6 10 0 30) + (1 : Int32))) fun h7 =>
  jn (κ := Int32 → Hp → Option (Unit × Hp)) (fun z0_7 h9 => lt (wr h9 10 0 35 z0_7) fun h10 =>
  bnd (fX12_greater (rd h10 10 0 36) (rd h10 10 0 35) h10) fun x12 h11 =>
  lt (wr h11 10 0 36 x12) fun h13 =>
  bnd (fX12_greater (rd h13 10 0 37) ((rd h13 10 0 31) - x1) h13) fun x15 h14 =>
  lt (wr h14 10 0 37 x15) fun h16 =>
  if (64 : Int32) ≤ (rd h16 10 0 30) then (some ((), h16))
  else (bnd (fX12_standNow h16) fun x18 h17 =>
  ck (ib (rd h16 10 0 30) 64) (lt (wa h17 57 0 (rd h16 10 0 30) x18) fun h19 =>
  some ((), h19)))) fun k69_7 =>
  if (rd h7 10 0 31) = x1 then (k69_7 ((rd h7 10 0 35) + (1 : Int32)) h7)
  else (k69_7 0 h7))) FU 0 h
set_option maxHeartbeats 4000000 in
set_option maxRecDepth 100000 in
theorem sX12_beat_l7 (g : GE) (l1 : Int32) (l2 : Int32) (K : Hp → Option (Unit × Hp)) (hK : ∀ (h : Hp), Sim cvv 1 g mX12_beat 3 40 [(0, rv g 10 0), (2, .int l2)] [] h (K  h)) : ∀ (n : Nat) (l3 : Int32) (h : Hp), Sim cvv 1 g mX12_beat 3 7 [(0, rv g 10 0), (1, .int l1), (2, .int l2), (3, .int l3)] [] h (itr1 (fX12_beat_l7 l1 K) n l3 h) := by
  refine s_itr1 (fun l3 h o => Sim cvv 1 g mX12_beat 3 7 [(0, rv g 10 0), (1, .int l1), (2, .int l2), (3, .int l3)] [] h o) (fun _ _ => s_none) ?_
  intro rec hrec l3 h
  unfold fX12_beat_l7
  refine s_iload_n 3 dX12_beat_7 rfl rfl ?_
  refine s_aload_n 0 dX12_beat_8 rfl rfl ?_
  refine s_geti (s0 := 0) dX12_beat_9 fl_X12_232 ?_
  refine s_icmp_ge (tgt := 40) dX12_beat_12 (by decide) ?_ ?_
  ·
    refine s_sub [0, 2] rfl ?_
    exact hK h
  ·
    refine s_iload_n 3 dX12_beat_15 rfl rfl ?_
    refine s_iload_n 1 dX12_beat_16 rfl rfl ?_
    refine s_jn (fun (k34_1 : Hp → Option (Unit × Hp)) => ∀ (h3 : Hp), Sim cvv 1 g mX12_beat 3 34 [(0, rv g 10 0), (1, .int l1), (2, .int l2), (3, .int l3)] [] h3 (k34_1 h3)) (fun h3 => ?_) (fun k34_1 Hk34_1 => ?_)
    ·
      refine s_iincl 3 (w := 1) (fun x4 => [(3, .int x4), (0, rv g 10 0), (1, .int l1), (2, .int l2)]) dX12_beat_34 rfl rfl (by decide) (fun _ => rfl) (fun x4 => ?_)
      refine s_goto (tgt := 7) dX12_beat_37 (by decide) ?_
      refine s_sub [1, 2, 3, 0] rfl ?_
      exact hrec x4 h3
    refine s_icmp_eq (tgt := 34) dX12_beat_17 (by decide) ?_ ?_
    ·
      exact Hk34_1 h
    ·
      refine s_aload_n 0 dX12_beat_20 rfl rfl ?_
      refine s_getr (s0 := 0) dX12_beat_21 fl_X12_72 ?_
      refine s_iload_n 3 dX12_beat_24 rfl rfl ?_
      refine s_iald (s0 := 0) ka_63 dX12_beat_25 ?_
      refine s_if_le (tgt := 34) dX12_beat_26 (by decide) ?_ ?_
      ·
        exact Hk34_1 h
      ·
        refine s_aload_n 0 dX12_beat_29 rfl rfl ?_
        refine s_iload_n 3 dX12_beat_30 rfl rfl ?_
        refine s_callVv (s0 := 0) (As := [.int l3]) (rest := []) (cX12_lose_ok g l3 h) vl_X12_277 rfl (Nat.le_of_ble_eq_true rfl) (Nat.le_of_ble_eq_true rfl) dX12_beat_31 rfl (fun h5 => ?_)
        exact Hk34_1 h5
set_option maxHeartbeats 4000000 in
set_option maxRecDepth 100000 in
theorem cX12_beat_ok (g : GE) (l1 : Int32) (h : Hp) : Con cvv 1 g mX12_beat 3 [rv g 10 0, .int l1] h (fX12_beat l1 h) := by
  refine Con.of (by decide +kernel) (Nat.le_of_ble_eq_true rfl) ?_
  show Sim cvv 1 g mX12_beat 3 0 [(0, rv g 10 0), (1, .int l1)] [] h _
  unfold fX12_beat
  refine s_aload_n 0 dX12_beat_0 rfl rfl ?_
  refine s_geti (s0 := 0) dX12_beat_1 fl_X12_253 ?_
  refine s_leti (fun x1 => ?_)
  refine s_istore_n (ls' := [(2, .int x1), (0, rv g 10 0), (1, .int l1)]) dX12_beat_4 rfl (by decide) rfl ?_
  refine s_iconst (v := 0) dX12_beat_5 rfl ?_
  refine s_istore_n (ls' := [(3, .int 0), (2, .int x1), (0, rv g 10 0), (1, .int l1)]) dX12_beat_6 rfl (by decide) rfl ?_
  refine s_sub (ls' := [(0, rv g 10 0), (1, .int l1), (2, .int x1), (3, .int 0)]) [2, 3, 1, 0] rfl ?_
  refine sX12_beat_l7 g l1 x1 _ (fun h6 => ?_) FU 0 h
  refine s_aload_n 0 dX12_beat_40 rfl rfl ?_
  refine s_dup dX12_beat_41 rfl ?_
  refine s_geti (s0 := 0) dX12_beat_42 fl_X12_250 ?_
  refine s_iconst (v := 1) dX12_beat_45 rfl ?_
  refine s_iadd dX12_beat_46 ?_
  refine s_puti (s0 := 0) dX12_beat_47 fl_X12_250 (fun h7 => ?_)
  refine s_aload_n 0 dX12_beat_50 rfl rfl ?_
  refine s_aload_n 0 dX12_beat_51 rfl rfl ?_
  refine s_geti (s0 := 0) dX12_beat_52 fl_X12_253 ?_
  refine s_iload_n 1 dX12_beat_55 rfl rfl ?_
  refine s_jn (fun (k69_7 : Int32 → Hp → Option (Unit × Hp)) => ∀ (z0_7 : Int32) (h9 : Hp), Sim cvv 1 g mX12_beat 3 69 [(0, rv g 10 0), (2, .int x1)] [.int z0_7, rv g 10 0] h9 (k69_7 z0_7 h9)) (fun z0_7 h9 => ?_) (fun k69_7 Hk69_7 => ?_)
  ·
    refine s_puti (s0 := 0) dX12_beat_69 fl_X12_265 (fun h10 => ?_)
    refine s_aload_n 0 dX12_beat_72 rfl rfl ?_
    refine s_aload_n 0 dX12_beat_73 rfl rfl ?_
    refine s_geti (s0 := 0) dX12_beat_74 fl_X12_268 ?_
    refine s_aload_n 0 dX12_beat_77 rfl rfl ?_
    refine s_geti (s0 := 0) dX12_beat_78 fl_X12_265 ?_
    refine s_callSi (As := [.int (rd h10 10 0 36), .int (rd h10 10 0 35)]) (rest := [rv g 10 0]) (cX12_greater_ok g (rd h10 10 0 36) (rd h10 10 0 35) h10) sl_X12_280 rfl (Nat.le_of_ble_eq_true rfl) (Nat.le_of_ble_eq_true rfl) dX12_beat_81 rfl (fun x12 h11 => ?_)
    refine s_puti (s0 := 0) dX12_beat_84 fl_X12_268 (fun h13 => ?_)
    refine s_aload_n 0 dX12_beat_87 rfl rfl ?_
    refine s_aload_n 0 dX12_beat_88 rfl rfl ?_
    refine s_geti (s0 := 0) dX12_beat_89 fl_X12_271 ?_
    refine s_aload_n 0 dX12_beat_92 rfl rfl ?_
    refine s_geti (s0 := 0) dX12_beat_93 fl_X12_253 ?_
    refine s_iload_n 1 dX12_beat_96 rfl rfl ?_
    refine s_isub dX12_beat_97 ?_
    refine s_callSi (As := [.int (rd h13 10 0 37), .int ((rd h13 10 0 31) - x1)]) (rest := [rv g 10 0]) (cX12_greater_ok g (rd h13 10 0 37) ((rd h13 10 0 31) - x1) h13) sl_X12_280 rfl (Nat.le_of_ble_eq_true rfl) (Nat.le_of_ble_eq_true rfl) dX12_beat_98 rfl (fun x15 h14 => ?_)
    refine s_puti (s0 := 0) dX12_beat_101 fl_X12_271 (fun h16 => ?_)
    refine s_aload_n 0 dX12_beat_104 rfl rfl ?_
    refine s_geti (s0 := 0) dX12_beat_105 fl_X12_250 ?_
    refine s_bipush (v := 64) dX12_beat_108 rfl ?_
    refine s_icmp_ge (tgt := 126) dX12_beat_110 (by decide) ?_ ?_
    ·
      exact s_vret rfl dX12_beat_126
    ·
      refine s_aload_n 0 dX12_beat_113 rfl rfl ?_
      refine s_getr (s0 := 0) dX12_beat_114 fl_X12_53 ?_
      refine s_aload_n 0 dX12_beat_117 rfl rfl ?_
      refine s_geti (s0 := 0) dX12_beat_118 fl_X12_250 ?_
      refine s_aload_n 0 dX12_beat_121 rfl rfl ?_
      refine s_callVi (s0 := 0) (As := []) (rest := [.int (rd h16 10 0 30), rv g 57 0]) (cX12_standNow_ok g h16) vl_X12_274 rfl (Nat.le_of_ble_eq_true rfl) (Nat.le_of_ble_eq_true rfl) dX12_beat_122 rfl (fun x18 h17 => ?_)
      refine s_iast (s0 := 0) ka_57 dX12_beat_125 (fun h19 => ?_)
      exact s_vret rfl dX12_beat_126
  refine s_icmp_ne (tgt := 68) dX12_beat_56 (by decide) ?_ ?_
  ·
    refine s_aload_n 0 dX12_beat_59 rfl rfl ?_
    refine s_geti (s0 := 0) dX12_beat_60 fl_X12_265 ?_
    refine s_iconst (v := 1) dX12_beat_63 rfl ?_
    refine s_iadd dX12_beat_64 ?_
    refine s_goto (tgt := 69) dX12_beat_65 (by decide) ?_
    exact Hk69_7 ((rd h7 10 0 35) + (1 : Int32)) h7
  ·
    refine s_iconst (v := 0) dX12_beat_68 rfl ?_
    exact Hk69_7 0 h7
def fX12_isLate (l1 : Int32) (h : Hp) : Option (Int32 × Hp) :=
  if ((rd h 10 0 30) + l1) ≤ 99 then (ck (zk 0) (some (0, h)))
  else (ck (zk 1) (some (1, h)))
set_option maxHeartbeats 4000000 in
set_option maxRecDepth 100000 in
theorem cX12_isLate_ok (g : GE) (l1 : Int32) (h : Hp) : Con cvi 1 g mX12_isLate 2 [rv g 10 0, .int l1] h (fX12_isLate l1 h) := by
  refine Con.of (by decide +kernel) (Nat.le_of_ble_eq_true rfl) ?_
  show Sim cvi 1 g mX12_isLate 2 0 [(0, rv g 10 0), (1, .int l1)] [] h _
  unfold fX12_isLate
  refine s_aload_n 0 dX12_isLate_0 rfl rfl ?_
  refine s_geti (s0 := 0) dX12_isLate_1 fl_X12_250 ?_
  refine s_iload_n 1 dX12_isLate_4 rfl rfl ?_
  refine s_iadd dX12_isLate_5 ?_
  refine s_bipush (v := 99) dX12_isLate_6 rfl ?_
  refine s_icmp_le (tgt := 15) dX12_isLate_8 (by decide) ?_ ?_
  ·
    refine s_iconst (v := 0) dX12_isLate_15 rfl ?_
    exact s_zret rfl dX12_isLate_16
  ·
    refine s_iconst (v := 1) dX12_isLate_11 rfl ?_
    refine s_goto (tgt := 16) dX12_isLate_12 (by decide) ?_
    exact s_zret rfl dX12_isLate_16
def fX12_in (l0 : Int32) (l1 : Int32) (l2 : Int32) (h : Hp) : Option (Int32 × Hp) :=
  jn (κ := Hp → Option (Int32 × Hp)) (fun h2 => ck (zk 0) (some (0, h2))) fun k14_0 =>
  if l0 < l1 then (k14_0 h)
  else (if l2 < l0 then (k14_0 h)
  else (ck (zk 1) (some (1, h))))
set_option maxHeartbeats 4000000 in
set_option maxRecDepth 100000 in
theorem cX12_in_ok (g : GE) (l0 : Int32) (l1 : Int32) (l2 : Int32) (h : Hp) : Con cvi 1 g mX12_in 2 [.int l0, .int l1, .int l2] h (fX12_in l0 l1 l2 h) := by
  refine Con.of (by decide +kernel) (Nat.le_of_ble_eq_true rfl) ?_
  show Sim cvi 1 g mX12_in 2 0 [(0, .int l0), (1, .int l1), (2, .int l2)] [] h _
  unfold fX12_in
  refine s_iload_n 0 dX12_in_0 rfl rfl ?_
  refine s_iload_n 1 dX12_in_1 rfl rfl ?_
  refine s_jn (fun (k14_0 : Hp → Option (Int32 × Hp)) => ∀ (h2 : Hp), Sim cvi 1 g mX12_in 2 14 [] [] h2 (k14_0 h2)) (fun h2 => ?_) (fun k14_0 Hk14_0 => ?_)
  ·
    refine s_iconst (v := 0) dX12_in_14 rfl ?_
    exact s_zret rfl dX12_in_15
  refine s_icmp_lt (tgt := 14) dX12_in_2 (by decide) ?_ ?_
  ·
    refine s_sub [] rfl ?_
    exact Hk14_0 h
  ·
    refine s_iload_n 0 dX12_in_5 rfl rfl ?_
    refine s_iload_n 2 dX12_in_6 rfl rfl ?_
    refine s_icmp_gt (tgt := 14) dX12_in_7 (by decide) ?_ ?_
    ·
      refine s_sub [] rfl ?_
      exact Hk14_0 h
    ·
      refine s_iconst (v := 1) dX12_in_10 rfl ?_
      refine s_goto (tgt := 15) dX12_in_11 (by decide) ?_
      exact s_zret rfl dX12_in_15
def fX12_isPlate (l1 : Int32) (h : Hp) : Option (Int32 × Hp) :=
  bnd (fX12_in l1 0 ((rd h 10 0 22) - (1 : Int32)) h) fun x2 h1 =>
  ck (zk x2) (some (x2, h1))
set_option maxHeartbeats 4000000 in
set_option maxRecDepth 100000 in
theorem cX12_isPlate_ok (g : GE) (l1 : Int32) (h : Hp) : Con cvi 1 g mX12_isPlate 3 [rv g 10 0, .int l1] h (fX12_isPlate l1 h) := by
  refine Con.of (by decide +kernel) (Nat.le_of_ble_eq_true rfl) ?_
  show Sim cvi 1 g mX12_isPlate 3 0 [(0, rv g 10 0), (1, .int l1)] [] h _
  unfold fX12_isPlate
  refine s_iload_n 1 dX12_isPlate_0 rfl rfl ?_
  refine s_iconst (v := 0) dX12_isPlate_1 rfl ?_
  refine s_aload_n 0 dX12_isPlate_2 rfl rfl ?_
  refine s_geti (s0 := 0) dX12_isPlate_3 fl_X12_232 ?_
  refine s_iconst (v := 1) dX12_isPlate_6 rfl ?_
  refine s_isub dX12_isPlate_7 ?_
  refine s_callSi (As := [.int l1, .int 0, .int ((rd h 10 0 22) - (1 : Int32))]) (rest := []) (cX12_in_ok g l1 0 ((rd h 10 0 22) - (1 : Int32)) h) sl_X12_100 rfl (Nat.le_of_ble_eq_true rfl) (Nat.le_of_ble_eq_true rfl) dX12_isPlate_8 rfl (fun x2 h1 => ?_)
  exact s_zret rfl dX12_isPlate_11
def fX12_way (l1 : Int32) (l2 : Int32) (h : Hp) : Option (Int32 × Hp) :=
  jn (κ := Int32 → Hp → Option (Int32 × Hp)) (fun z0_0 h2 => ck (!decide ((rd h2 10 0 23) = 0)) (
  some (((z0_0 + (rd h2 10 0 23)) - (1 : Int32)) / (rd h2 10 0 23), h2))) fun k14_0 =>
  if l2 ≤ l1 then (k14_0 (l1 - l2) h)
  else (k14_0 (l2 - l1) h)
set_option maxHeartbeats 4000000 in
set_option maxRecDepth 100000 in
theorem cX12_way_ok (g : GE) (l1 : Int32) (l2 : Int32) (h : Hp) : Con cvi 1 g mX12_way 2 [rv g 10 0, .int l1, .int l2] h (fX12_way l1 l2 h) := by
  refine Con.of (by decide +kernel) (Nat.le_of_ble_eq_true rfl) ?_
  show Sim cvi 1 g mX12_way 2 0 [(0, rv g 10 0), (1, .int l1), (2, .int l2)] [] h _
  unfold fX12_way
  refine s_iload_n 1 dX12_way_0 rfl rfl ?_
  refine s_iload_n 2 dX12_way_1 rfl rfl ?_
  refine s_jn (fun (k14_0 : Int32 → Hp → Option (Int32 × Hp)) => ∀ (z0_0 : Int32) (h2 : Hp), Sim cvi 1 g mX12_way 2 14 [(0, rv g 10 0)] [.int z0_0] h2 (k14_0 z0_0 h2)) (fun z0_0 h2 => ?_) (fun k14_0 Hk14_0 => ?_)
  ·
    refine s_istore_n (ls' := [(3, .int z0_0), (0, rv g 10 0)]) dX12_way_14 rfl (by decide) rfl ?_
    refine s_iload_n 0 dX12_way_15 rfl rfl ?_
    refine s_aload_n 1 dX12_way_16 rfl rfl ?_
    refine s_geti (s0 := 0) dX12_way_17 fl_X12_226 ?_
    refine s_iadd dX12_way_20 ?_
    refine s_iconst (v := 1) dX12_way_21 rfl ?_
    refine s_isub dX12_way_22 ?_
    refine s_aload_n 1 dX12_way_23 rfl rfl ?_
    refine s_geti (s0 := 0) dX12_way_24 fl_X12_226 ?_
    refine s_idiv dX12_way_27 ?_
    exact s_iret rfl dX12_way_28
  refine s_icmp_ge (tgt := 11) dX12_way_2 (by decide) ?_ ?_
  ·
    refine s_iload_n 1 dX12_way_11 rfl rfl ?_
    refine s_iload_n 2 dX12_way_12 rfl rfl ?_
    refine s_isub dX12_way_13 ?_
    refine s_sub [0] rfl ?_
    exact Hk14_0 (l1 - l2) h
  ·
    refine s_iload_n 2 dX12_way_5 rfl rfl ?_
    refine s_iload_n 1 dX12_way_6 rfl rfl ?_
    refine s_isub dX12_way_7 ?_
    refine s_goto (tgt := 14) dX12_way_8 (by decide) ?_
    refine s_sub [0] rfl ?_
    exact Hk14_0 (l2 - l1) h
def fX12_run_l38 (l2 : Int32) (K : Hp → Option (Int32 × Hp)) (rec : Int32 → Hp → Option (Int32 × Hp)) (l3 : Int32) (h : Hp) : Option (Int32 × Hp) :=
  if l2 ≤ l3 then (K h)
  else (bnd (fX12_beat (-1) h) fun _ h6 =>
  lt (l3 + 1) fun x7 =>
  rec x7 h6)
def fX12_run (l1 : Int32) (h : Hp) : Option (Int32 × Hp) :=
  ck (ib l1 5) (
  bnd (fX12_way (rd h 10 0 29) (ra h 53 0 l1) h) fun x2 h1 =>
  lt (x2 + (1 : Int32)) fun x3 =>
  ck (ib l1 5) (
  if (ra h1 63 0 l1) = 0 then (ck (zk 0) (some (0, h1)))
  else (bnd (fX12_isLate x3 h1) fun x5 h4 =>
  if x5 = 0 then (itr1 (fX12_run_l38 x3 (fun h8 => ck (ib l1 5) (
  jn (κ := Int32 → Hp → Option (Int32 × Hp)) (fun z0_8 h10 => jn (κ := Int32 → Hp → Option (Int32 × Hp)) (fun z0_10 h12 => bnd (fX12_beat z0_10 h12) fun _ h13 =>
  jn (κ := Int32 → Hp → Option (Int32 × Hp)) (fun z0_13 h15 => ck (ib l1 5) (lt (wa h15 63 0 l1 z0_13) fun h16 =>
  jn (κ := Int32 → Hp → Option (Int32 × Hp)) (fun z0_16 h18 => lt (wr h18 10 0 32 ((rd h16 10 0 32) + z0_16)) fun h19 =>
  ck (ib l1 5) (
  jn (κ := Int32 → Hp → Option (Int32 × Hp)) (fun z0_19 h21 => ck (ib l1 5) (lt (wa h21 56 0 l1 ((ra h19 56 0 l1) + z0_19)) fun h22 =>
  jn (κ := Int32 → Hp → Option (Int32 × Hp)) (fun z0_22 h24 => lt (wr h24 10 0 33 ((rd h22 10 0 33) + z0_22)) fun h25 =>
  lt (wr h25 10 0 34 ((rd h25 10 0 34) + (x3 - (1 : Int32)))) fun h26 =>
  ck (ib l1 5) (
  lt (wr h26 10 0 29 (ra h26 53 0 l1)) fun h27 =>
  ck (zk 1) (some (1, h27)))) fun k152_22 =>
  if z0_8 = 0 then (k152_22 1 h22)
  else (k152_22 0 h22))) fun k136_19 =>
  if z0_8 = 0 then (k136_19 0 h19)
  else (k136_19 1 h19))) fun k116_16 =>
  if z0_8 = 0 then (k116_16 0 h16)
  else (k116_16 1 h16))) fun k101_13 =>
  if z0_8 = 0 then (k101_13 0 h13)
  else (ck (ib l1 5) (
  k101_13 (ra h13 54 0 l1) h13))) fun k79_10 =>
  if z0_8 = 0 then (k79_10 (-1) h10)
  else (k79_10 l1 h10)) fun k68_8 =>
  if (ra h8 63 0 l1) ≤ 0 then (k68_8 0 h8)
  else (k68_8 1 h8)))) FU 1 h4)
  else (ck (zk 0) (some (0, h4))))))
set_option maxHeartbeats 4000000 in
set_option maxRecDepth 100000 in
theorem sX12_run_l38 (g : GE) (l1 : Int32) (l2 : Int32) (K : Hp → Option (Int32 × Hp)) (hK : ∀ (h : Hp), Sim cvi 1 g mX12_run 4 54 [(0, rv g 10 0), (1, .int l1), (2, .int l2)] [] h (K  h)) : ∀ (n : Nat) (l3 : Int32) (h : Hp), Sim cvi 1 g mX12_run 4 38 [(0, rv g 10 0), (1, .int l1), (2, .int l2), (3, .int l3)] [] h (itr1 (fX12_run_l38 l2 K) n l3 h) := by
  refine s_itr1 (fun l3 h o => Sim cvi 1 g mX12_run 4 38 [(0, rv g 10 0), (1, .int l1), (2, .int l2), (3, .int l3)] [] h o) (fun _ _ => s_none) ?_
  intro rec hrec l3 h
  unfold fX12_run_l38
  refine s_iload_n 3 dX12_run_38 rfl rfl ?_
  refine s_iload_n 2 dX12_run_39 rfl rfl ?_
  refine s_icmp_ge (tgt := 54) dX12_run_40 (by decide) ?_ ?_
  ·
    refine s_sub [0, 1, 2] rfl ?_
    exact hK h
  ·
    refine s_aload_n 0 dX12_run_43 rfl rfl ?_
    refine s_iconst (v := (-1)) dX12_run_44 rfl ?_
    refine s_callVv (s0 := 0) (As := [.int (-1)]) (rest := []) (cX12_beat_ok g (-1) h) vl_X12_289 rfl (Nat.le_of_ble_eq_true rfl) (Nat.le_of_ble_eq_true rfl) dX12_run_45 rfl (fun h6 => ?_)
    refine s_iincl 3 (w := 1) (fun x7 => [(3, .int x7), (0, rv g 10 0), (1, .int l1), (2, .int l2)]) dX12_run_48 rfl rfl (by decide) (fun _ => rfl) (fun x7 => ?_)
    refine s_goto (tgt := 38) dX12_run_51 (by decide) ?_
    refine s_sub [1, 2, 3, 0] rfl ?_
    exact hrec x7 h6
set_option maxHeartbeats 4000000 in
set_option maxRecDepth 100000 in
theorem cX12_run_ok (g : GE) (l1 : Int32) (h : Hp) : Con cvi 1 g mX12_run 4 [rv g 10 0, .int l1] h (fX12_run l1 h) := by
  refine Con.of (by decide +kernel) (Nat.le_of_ble_eq_true rfl) ?_
  show Sim cvi 1 g mX12_run 4 0 [(0, rv g 10 0), (1, .int l1)] [] h _
  unfold fX12_run
  refine s_aload_n 0 dX12_run_0 rfl rfl ?_
  refine s_aload_n 0 dX12_run_1 rfl rfl ?_
  refine s_geti (s0 := 0) dX12_run_2 fl_X12_247 ?_
  refine s_aload_n 0 dX12_run_5 rfl rfl ?_
  refine s_getr (s0 := 0) dX12_run_6 fl_X12_41 ?_
  refine s_iload_n 1 dX12_run_9 rfl rfl ?_
  refine s_iald (s0 := 0) ka_53 dX12_run_10 ?_
  refine s_callVi (s0 := 0) (As := [.int (rd h 10 0 29), .int (ra h 53 0 l1)]) (rest := []) (cX12_way_ok g (rd h 10 0 29) (ra h 53 0 l1) h) vl_X12_283 rfl (Nat.le_of_ble_eq_true rfl) (Nat.le_of_ble_eq_true rfl) dX12_run_11 rfl (fun x2 h1 => ?_)
  refine s_iconst (v := 1) dX12_run_14 rfl ?_
  refine s_iadd dX12_run_15 ?_
  refine s_leti (fun x3 => ?_)
  refine s_istore_n (ls' := [(2, .int x3), (0, rv g 10 0), (1, .int l1)]) dX12_run_16 rfl (by decide) rfl ?_
  refine s_aload_n 1 dX12_run_17 rfl rfl ?_
  refine s_getr (s0 := 0) dX12_run_18 fl_X12_72 ?_
  refine s_iload_n 2 dX12_run_21 rfl rfl ?_
  refine s_iald (s0 := 0) ka_63 dX12_run_22 ?_
  refine s_if_eq (tgt := 34) dX12_run_23 (by decide) ?_ ?_
  ·
    refine s_iconst (v := 0) dX12_run_34 rfl ?_
    exact s_zret rfl dX12_run_35
  ·
    refine s_aload_n 1 dX12_run_26 rfl rfl ?_
    refine s_iload_n 0 dX12_run_27 rfl rfl ?_
    refine s_callVi (s0 := 0) (As := [.int x3]) (rest := []) (cX12_isLate_ok g x3 h1) vl_X12_286 rfl (Nat.le_of_ble_eq_true rfl) (Nat.le_of_ble_eq_true rfl) dX12_run_28 rfl (fun x5 h4 => ?_)
    refine s_if_eq (tgt := 36) dX12_run_31 (by decide) ?_ ?_
    ·
      refine s_iconst (v := 1) dX12_run_36 rfl ?_
      refine s_istore_n (ls' := [(3, .int 1), (2, .int x3), (0, rv g 10 0), (1, .int l1)]) dX12_run_37 rfl (by decide) rfl ?_
      refine s_sub (ls' := [(0, rv g 10 0), (1, .int l1), (2, .int x3), (3, .int 1)]) [2, 3, 1, 0] rfl ?_
      refine sX12_run_l38 g l1 x3 _ (fun h8 => ?_) FU 1 h4
      refine s_aload_n 0 dX12_run_54 rfl rfl ?_
      refine s_getr (s0 := 0) dX12_run_55 fl_X12_72 ?_
      refine s_iload_n 1 dX12_run_58 rfl rfl ?_
      refine s_iald (s0 := 0) ka_63 dX12_run_59 ?_
      refine s_jn (fun (k68_8 : Int32 → Hp → Option (Int32 × Hp)) => ∀ (z0_8 : Int32) (h10 : Hp), Sim cvi 1 g mX12_run 4 68 [(0, rv g 10 0), (1, .int l1), (2, .int x3)] [.int z0_8] h10 (k68_8 z0_8 h10)) (fun z0_8 h10 => ?_) (fun k68_8 Hk68_8 => ?_)
      ·
        refine s_istore_n (ls' := [(3, .int z0_8), (0, rv g 10 0), (1, .int l1), (2, .int x3)]) dX12_run_68 rfl (by decide) rfl ?_
        refine s_aload_n 1 dX12_run_69 rfl rfl ?_
        refine s_iload_n 0 dX12_run_70 rfl rfl ?_
        refine s_jn (fun (k79_10 : Int32 → Hp → Option (Int32 × Hp)) => ∀ (z0_10 : Int32) (h12 : Hp), Sim cvi 1 g mX12_run 4 79 [(0, rv g 10 0), (1, .int l1), (2, .int x3), (3, .int z0_8)] [.int z0_10, rv g 10 0] h12 (k79_10 z0_10 h12)) (fun z0_10 h12 => ?_) (fun k79_10 Hk79_10 => ?_)
        ·
          refine s_callVv (s0 := 0) (As := [.int z0_10]) (rest := []) (cX12_beat_ok g z0_10 h12) vl_X12_289 rfl (Nat.le_of_ble_eq_true rfl) (Nat.le_of_ble_eq_true rfl) dX12_run_79 rfl (fun h13 => ?_)
          refine s_aload_n 0 dX12_run_82 rfl rfl ?_
          refine s_getr (s0 := 0) dX12_run_83 fl_X12_72 ?_
          refine s_iload_n 1 dX12_run_86 rfl rfl ?_
          refine s_iload_n 3 dX12_run_87 rfl rfl ?_
          refine s_jn (fun (k101_13 : Int32 → Hp → Option (Int32 × Hp)) => ∀ (z0_13 : Int32) (h15 : Hp), Sim cvi 1 g mX12_run 4 101 [(0, rv g 10 0), (1, .int l1), (2, .int x3), (3, .int z0_8)] [.int z0_13, .int l1, rv g 63 0] h15 (k101_13 z0_13 h15)) (fun z0_13 h15 => ?_) (fun k101_13 Hk101_13 => ?_)
          ·
            refine s_iast (s0 := 0) ka_63 dX12_run_101 (fun h16 => ?_)
            refine s_aload_n 0 dX12_run_102 rfl rfl ?_
            refine s_dup dX12_run_103 rfl ?_
            refine s_geti (s0 := 0) dX12_run_104 fl_X12_256 ?_
            refine s_iload_n 3 dX12_run_107 rfl rfl ?_
            refine s_jn (fun (k116_16 : Int32 → Hp → Option (Int32 × Hp)) => ∀ (z0_16 : Int32) (h18 : Hp), Sim cvi 1 g mX12_run 4 116 [(0, rv g 10 0), (1, .int l1), (2, .int x3), (3, .int z0_8)] [.int z0_16, .int (rd h16 10 0 32), rv g 10 0] h18 (k116_16 z0_16 h18)) (fun z0_16 h18 => ?_) (fun k116_16 Hk116_16 => ?_)
            ·
              refine s_iadd dX12_run_116 ?_
              refine s_puti (s0 := 0) dX12_run_117 fl_X12_256 (fun h19 => ?_)
              refine s_aload_n 0 dX12_run_120 rfl rfl ?_
              refine s_getr (s0 := 0) dX12_run_121 fl_X12_50 ?_
              refine s_iload_n 1 dX12_run_124 rfl rfl ?_
              refine s_dup2 dX12_run_125 rfl rfl ?_
              refine s_iald (s0 := 0) ka_56 dX12_run_126 ?_
              refine s_iload_n 3 dX12_run_127 rfl rfl ?_
              refine s_jn (fun (k136_19 : Int32 → Hp → Option (Int32 × Hp)) => ∀ (z0_19 : Int32) (h21 : Hp), Sim cvi 1 g mX12_run 4 136 [(0, rv g 10 0), (1, .int l1), (2, .int x3), (3, .int z0_8)] [.int z0_19, .int (ra h19 56 0 l1), .int l1, rv g 56 0] h21 (k136_19 z0_19 h21)) (fun z0_19 h21 => ?_) (fun k136_19 Hk136_19 => ?_)
              ·
                refine s_iadd dX12_run_136 ?_
                refine s_iast (s0 := 0) ka_56 dX12_run_137 (fun h22 => ?_)
                refine s_aload_n 0 dX12_run_138 rfl rfl ?_
                refine s_dup dX12_run_139 rfl ?_
                refine s_geti (s0 := 0) dX12_run_140 fl_X12_259 ?_
                refine s_iload_n 3 dX12_run_143 rfl rfl ?_
                refine s_jn (fun (k152_22 : Int32 → Hp → Option (Int32 × Hp)) => ∀ (z0_22 : Int32) (h24 : Hp), Sim cvi 1 g mX12_run 4 152 [(0, rv g 10 0), (1, .int l1), (2, .int x3)] [.int z0_22, .int (rd h22 10 0 33), rv g 10 0] h24 (k152_22 z0_22 h24)) (fun z0_22 h24 => ?_) (fun k152_22 Hk152_22 => ?_)
                ·
                  refine s_iadd dX12_run_152 ?_
                  refine s_puti (s0 := 0) dX12_run_153 fl_X12_259 (fun h25 => ?_)
                  refine s_aload_n 0 dX12_run_156 rfl rfl ?_
                  refine s_dup dX12_run_157 rfl ?_
                  refine s_geti (s0 := 0) dX12_run_158 fl_X12_262 ?_
                  refine s_iload_n 2 dX12_run_161 rfl rfl ?_
                  refine s_iconst (v := 1) dX12_run_162 rfl ?_
                  refine s_isub dX12_run_163 ?_
                  refine s_iadd dX12_run_164 ?_
                  refine s_puti (s0 := 0) dX12_run_165 fl_X12_262 (fun h26 => ?_)
                  refine s_aload_n 0 dX12_run_168 rfl rfl ?_
                  refine s_aload_n 0 dX12_run_169 rfl rfl ?_
                  refine s_getr (s0 := 0) dX12_run_170 fl_X12_41 ?_
                  refine s_iload_n 1 dX12_run_173 rfl rfl ?_
                  refine s_iald (s0 := 0) ka_53 dX12_run_174 ?_
                  refine s_puti (s0 := 0) dX12_run_175 fl_X12_247 (fun h27 => ?_)
                  refine s_iconst (v := 1) dX12_run_178 rfl ?_
                  exact s_zret rfl dX12_run_179
                refine s_if_eq (tgt := 151) dX12_run_144 (by decide) ?_ ?_
                ·
                  refine s_iconst (v := 1) dX12_run_151 rfl ?_
                  refine s_sub [0, 1, 2] rfl ?_
                  exact Hk152_22 1 h22
                ·
                  refine s_iconst (v := 0) dX12_run_147 rfl ?_
                  refine s_goto (tgt := 152) dX12_run_148 (by decide) ?_
                  refine s_sub [0, 1, 2] rfl ?_
                  exact Hk152_22 0 h22
              refine s_if_eq (tgt := 135) dX12_run_128 (by decide) ?_ ?_
              ·
                refine s_iconst (v := 0) dX12_run_135 rfl ?_
                exact Hk136_19 0 h19
              ·
                refine s_iconst (v := 1) dX12_run_131 rfl ?_
                refine s_goto (tgt := 136) dX12_run_132 (by decide) ?_
                exact Hk136_19 1 h19
            refine s_if_eq (tgt := 115) dX12_run_108 (by decide) ?_ ?_
            ·
              refine s_iconst (v := 0) dX12_run_115 rfl ?_
              exact Hk116_16 0 h16
            ·
              refine s_iconst (v := 1) dX12_run_111 rfl ?_
              refine s_goto (tgt := 116) dX12_run_112 (by decide) ?_
              exact Hk116_16 1 h16
          refine s_if_eq (tgt := 100) dX12_run_88 (by decide) ?_ ?_
          ·
            refine s_iconst (v := 0) dX12_run_100 rfl ?_
            exact Hk101_13 0 h13
          ·
            refine s_aload_n 0 dX12_run_91 rfl rfl ?_
            refine s_getr (s0 := 0) dX12_run_92 fl_X12_44 ?_
            refine s_iload_n 1 dX12_run_95 rfl rfl ?_
            refine s_iald (s0 := 0) ka_54 dX12_run_96 ?_
            refine s_goto (tgt := 101) dX12_run_97 (by decide) ?_
            exact Hk101_13 (ra h13 54 0 l1) h13
        refine s_if_eq (tgt := 78) dX12_run_71 (by decide) ?_ ?_
        ·
          refine s_iconst (v := (-1)) dX12_run_78 rfl ?_
          refine s_sub [1, 2, 3, 0] rfl ?_
          exact Hk79_10 (-1) h10
        ·
          refine s_iload_n 2 dX12_run_74 rfl rfl ?_
          refine s_goto (tgt := 79) dX12_run_75 (by decide) ?_
          refine s_sub [1, 2, 3, 0] rfl ?_
          exact Hk79_10 l1 h10
      refine s_if_le (tgt := 67) dX12_run_60 (by decide) ?_ ?_
      ·
        refine s_iconst (v := 0) dX12_run_67 rfl ?_
        exact Hk68_8 0 h8
      ·
        refine s_iconst (v := 1) dX12_run_63 rfl ?_
        refine s_goto (tgt := 68) dX12_run_64 (by decide) ?_
        exact Hk68_8 1 h8
    ·
      refine s_iconst (v := 0) dX12_run_34 rfl ?_
      exact s_zret rfl dX12_run_35
def fX12_sets_l38 (l2 : Int32) (K : Hp → Option (Int32 × Hp)) (rec : Int32 → Hp → Option (Int32 × Hp)) (l3 : Int32) (h : Hp) : Option (Int32 × Hp) :=
  if l2 ≤ l3 then (K h)
  else (bnd (fX12_beat (-1) h) fun _ h6 =>
  lt (l3 + 1) fun x7 =>
  rec x7 h6)
def fX12_sets (l1 : Int32) (h : Hp) : Option (Int32 × Hp) :=
  ck (ib l1 5) (
  bnd (fX12_way (rd h 10 0 29) (ra h 53 0 l1) h) fun x2 h1 =>
  lt (x2 + (1 : Int32)) fun x3 =>
  ck (ib l1 5) (
  if (0 : Int32) < (ra h1 63 0 l1) then (ck (zk 0) (some (0, h1)))
  else (bnd (fX12_isLate x3 h1) fun x5 h4 =>
  if x5 = 0 then (itr1 (fX12_sets_l38 x3 (fun h8 => ck (ib l1 5) (
  ck (ib l1 5) (lt (wa h8 63 0 l1 (ra h8 54 0 l1)) fun h9 =>
  lt (wr h9 10 0 34 ((rd h9 10 0 34) + (x3 - (1 : Int32)))) fun h10 =>
  ck (ib l1 5) (
  lt (wr h10 10 0 29 (ra h10 53 0 l1)) fun h11 =>
  ck (zk 1) (some (1, h11))))))) FU 0 h4)
  else (ck (zk 0) (some (0, h4))))))
set_option maxHeartbeats 4000000 in
set_option maxRecDepth 100000 in
theorem sX12_sets_l38 (g : GE) (l1 : Int32) (l2 : Int32) (K : Hp → Option (Int32 × Hp)) (hK : ∀ (h : Hp), Sim cvi 1 g mX12_sets 4 54 [(0, rv g 10 0), (1, .int l1), (2, .int l2)] [] h (K  h)) : ∀ (n : Nat) (l3 : Int32) (h : Hp), Sim cvi 1 g mX12_sets 4 38 [(0, rv g 10 0), (1, .int l1), (2, .int l2), (3, .int l3)] [] h (itr1 (fX12_sets_l38 l2 K) n l3 h) := by
  refine s_itr1 (fun l3 h o => Sim cvi 1 g mX12_sets 4 38 [(0, rv g 10 0), (1, .int l1), (2, .int l2), (3, .int l3)] [] h o) (fun _ _ => s_none) ?_
  intro rec hrec l3 h
  unfold fX12_sets_l38
  refine s_iload_n 3 dX12_sets_38 rfl rfl ?_
  refine s_iload_n 2 dX12_sets_39 rfl rfl ?_
  refine s_icmp_ge (tgt := 54) dX12_sets_40 (by decide) ?_ ?_
  ·
    refine s_sub [0, 1, 2] rfl ?_
    exact hK h
  ·
    refine s_aload_n 0 dX12_sets_43 rfl rfl ?_
    refine s_iconst (v := (-1)) dX12_sets_44 rfl ?_
    refine s_callVv (s0 := 0) (As := [.int (-1)]) (rest := []) (cX12_beat_ok g (-1) h) vl_X12_289 rfl (Nat.le_of_ble_eq_true rfl) (Nat.le_of_ble_eq_true rfl) dX12_sets_45 rfl (fun h6 => ?_)
    refine s_iincl 3 (w := 1) (fun x7 => [(3, .int x7), (0, rv g 10 0), (1, .int l1), (2, .int l2)]) dX12_sets_48 rfl rfl (by decide) (fun _ => rfl) (fun x7 => ?_)
    refine s_goto (tgt := 38) dX12_sets_51 (by decide) ?_
    refine s_sub [1, 2, 3, 0] rfl ?_
    exact hrec x7 h6
set_option maxHeartbeats 4000000 in
set_option maxRecDepth 100000 in
theorem cX12_sets_ok (g : GE) (l1 : Int32) (h : Hp) : Con cvi 1 g mX12_sets 4 [rv g 10 0, .int l1] h (fX12_sets l1 h) := by
  refine Con.of (by decide +kernel) (Nat.le_of_ble_eq_true rfl) ?_
  show Sim cvi 1 g mX12_sets 4 0 [(0, rv g 10 0), (1, .int l1)] [] h _
  unfold fX12_sets
  refine s_aload_n 0 dX12_sets_0 rfl rfl ?_
  refine s_aload_n 0 dX12_sets_1 rfl rfl ?_
  refine s_geti (s0 := 0) dX12_sets_2 fl_X12_247 ?_
  refine s_aload_n 0 dX12_sets_5 rfl rfl ?_
  refine s_getr (s0 := 0) dX12_sets_6 fl_X12_41 ?_
  refine s_iload_n 1 dX12_sets_9 rfl rfl ?_
  refine s_iald (s0 := 0) ka_53 dX12_sets_10 ?_
  refine s_callVi (s0 := 0) (As := [.int (rd h 10 0 29), .int (ra h 53 0 l1)]) (rest := []) (cX12_way_ok g (rd h 10 0 29) (ra h 53 0 l1) h) vl_X12_283 rfl (Nat.le_of_ble_eq_true rfl) (Nat.le_of_ble_eq_true rfl) dX12_sets_11 rfl (fun x2 h1 => ?_)
  refine s_iconst (v := 1) dX12_sets_14 rfl ?_
  refine s_iadd dX12_sets_15 ?_
  refine s_leti (fun x3 => ?_)
  refine s_istore_n (ls' := [(2, .int x3), (0, rv g 10 0), (1, .int l1)]) dX12_sets_16 rfl (by decide) rfl ?_
  refine s_aload_n 1 dX12_sets_17 rfl rfl ?_
  refine s_getr (s0 := 0) dX12_sets_18 fl_X12_72 ?_
  refine s_iload_n 2 dX12_sets_21 rfl rfl ?_
  refine s_iald (s0 := 0) ka_63 dX12_sets_22 ?_
  refine s_if_gt (tgt := 34) dX12_sets_23 (by decide) ?_ ?_
  ·
    refine s_iconst (v := 0) dX12_sets_34 rfl ?_
    exact s_zret rfl dX12_sets_35
  ·
    refine s_aload_n 1 dX12_sets_26 rfl rfl ?_
    refine s_iload_n 0 dX12_sets_27 rfl rfl ?_
    refine s_callVi (s0 := 0) (As := [.int x3]) (rest := []) (cX12_isLate_ok g x3 h1) vl_X12_286 rfl (Nat.le_of_ble_eq_true rfl) (Nat.le_of_ble_eq_true rfl) dX12_sets_28 rfl (fun x5 h4 => ?_)
    refine s_if_eq (tgt := 36) dX12_sets_31 (by decide) ?_ ?_
    ·
      refine s_iconst (v := 0) dX12_sets_36 rfl ?_
      refine s_istore_n (ls' := [(3, .int 0), (2, .int x3), (0, rv g 10 0), (1, .int l1)]) dX12_sets_37 rfl (by decide) rfl ?_
      refine s_sub (ls' := [(0, rv g 10 0), (1, .int l1), (2, .int x3), (3, .int 0)]) [2, 3, 1, 0] rfl ?_
      refine sX12_sets_l38 g l1 x3 _ (fun h8 => ?_) FU 0 h4
      refine s_aload_n 0 dX12_sets_54 rfl rfl ?_
      refine s_getr (s0 := 0) dX12_sets_55 fl_X12_72 ?_
      refine s_iload_n 1 dX12_sets_58 rfl rfl ?_
      refine s_aload_n 0 dX12_sets_59 rfl rfl ?_
      refine s_getr (s0 := 0) dX12_sets_60 fl_X12_44 ?_
      refine s_iload_n 1 dX12_sets_63 rfl rfl ?_
      refine s_iald (s0 := 0) ka_54 dX12_sets_64 ?_
      refine s_iast (s0 := 0) ka_63 dX12_sets_65 (fun h9 => ?_)
      refine s_aload_n 0 dX12_sets_66 rfl rfl ?_
      refine s_dup dX12_sets_67 rfl ?_
      refine s_geti (s0 := 0) dX12_sets_68 fl_X12_262 ?_
      refine s_iload_n 2 dX12_sets_71 rfl rfl ?_
      refine s_iconst (v := 1) dX12_sets_72 rfl ?_
      refine s_isub dX12_sets_73 ?_
      refine s_iadd dX12_sets_74 ?_
      refine s_puti (s0 := 0) dX12_sets_75 fl_X12_262 (fun h10 => ?_)
      refine s_aload_n 0 dX12_sets_78 rfl rfl ?_
      refine s_aload_n 0 dX12_sets_79 rfl rfl ?_
      refine s_getr (s0 := 0) dX12_sets_80 fl_X12_41 ?_
      refine s_iload_n 1 dX12_sets_83 rfl rfl ?_
      refine s_iald (s0 := 0) ka_53 dX12_sets_84 ?_
      refine s_puti (s0 := 0) dX12_sets_85 fl_X12_247 (fun h11 => ?_)
      refine s_iconst (v := 1) dX12_sets_88 rfl ?_
      exact s_zret rfl dX12_sets_89
    ·
      refine s_iconst (v := 0) dX12_sets_34 rfl ?_
      exact s_zret rfl dX12_sets_35
def fX12_does (l1 : Int32) (l2 : Int32) (h : Hp) : Option (Int32 × Hp) :=
  if l1 = 0 then (bnd (fX12_isLate 1 h) fun x2 h1 =>
  if x2 = 0 then (bnd (fX12_beat (-1) h1) fun _ h3 =>
  ck (zk 1) (some (1, h3)))
  else (ck (zk 0) (some (0, h1))))
  else (bnd (fX12_isPlate l2 h) fun x5 h4 =>
  if x5 = 0 then (ck (zk 0) (some (0, h4)))
  else (if l1 = 1 then (bnd (fX12_run l2 h4) fun x8 h7 =>
  ck (zk x8) (some (x8, h7)))
  else if l1 = 2 then (bnd (fX12_sets l2 h4) fun x11 h10 =>
  ck (zk x11) (some (x11, h10)))
  else if l1 = 3 then (ck (ib l2 5) (
  if (ra h4 63 0 l2) = 0 then (ck (zk 0) (some (0, h4)))
  else (bnd (fX12_lose l2 h4) fun _ h13 =>
  ck (zk 1) (some (1, h13)))))
  else (ck (ib l2 5) (
  if (ra h4 54 0 l2) = 6 then (ck (zk 0) (some (0, h4)))
  else (ck (ib l2 5) (
  ck (ib l2 5) (lt (wa h4 54 0 l2 ((ra h4 54 0 l2) + (1 : Int32))) fun h14 =>
  ck (zk 1) (some (1, h14)))))))))
set_option maxHeartbeats 4000000 in
set_option maxRecDepth 100000 in
theorem cX12_does_ok (g : GE) (l1 : Int32) (l2 : Int32) (h : Hp) : Con cvi 1 g mX12_does 5 [rv g 10 0, .int l1, .int l2] h (fX12_does l1 l2 h) := by
  refine Con.of (by decide +kernel) (Nat.le_of_ble_eq_true rfl) ?_
  show Sim cvi 1 g mX12_does 5 0 [(0, rv g 10 0), (1, .int l1), (2, .int l2)] [] h _
  unfold fX12_does
  refine s_iload_n 1 dX12_does_0 rfl rfl ?_
  refine s_if_ne (tgt := 21) dX12_does_1 (by decide) ?_ ?_
  ·
    refine s_aload_n 0 dX12_does_4 rfl rfl ?_
    refine s_iconst (v := 1) dX12_does_5 rfl ?_
    refine s_callVi (s0 := 0) (As := [.int 1]) (rest := []) (cX12_isLate_ok g 1 h) vl_X12_286 rfl (Nat.le_of_ble_eq_true rfl) (Nat.le_of_ble_eq_true rfl) dX12_does_6 rfl (fun x2 h1 => ?_)
    refine s_if_eq (tgt := 14) dX12_does_9 (by decide) ?_ ?_
    ·
      refine s_aload_n 0 dX12_does_14 rfl rfl ?_
      refine s_iconst (v := (-1)) dX12_does_15 rfl ?_
      refine s_callVv (s0 := 0) (As := [.int (-1)]) (rest := []) (cX12_beat_ok g (-1) h1) vl_X12_289 rfl (Nat.le_of_ble_eq_true rfl) (Nat.le_of_ble_eq_true rfl) dX12_does_16 rfl (fun h3 => ?_)
      refine s_iconst (v := 1) dX12_does_19 rfl ?_
      exact s_zret rfl dX12_does_20
    ·
      refine s_iconst (v := 0) dX12_does_12 rfl ?_
      exact s_zret rfl dX12_does_13
  ·
    refine s_aload_n 0 dX12_does_21 rfl rfl ?_
    refine s_iload_n 2 dX12_does_22 rfl rfl ?_
    refine s_callVi (s0 := 0) (As := [.int l2]) (rest := []) (cX12_isPlate_ok g l2 h) vl_X12_244 rfl (Nat.le_of_ble_eq_true rfl) (Nat.le_of_ble_eq_true rfl) dX12_does_23 rfl (fun x5 h4 => ?_)
    refine s_if_ne (tgt := 31) dX12_does_26 (by decide) ?_ ?_
    ·
      refine s_iconst (v := 0) dX12_does_29 rfl ?_
      exact s_zret rfl dX12_does_30
    ·
      refine s_iload_n 1 dX12_does_31 rfl rfl ?_
      refine s_tab 1 (tgt := 60) dX12_does_32 (by decide) (by decide) rfl (by decide) ?_ (fun e6 => ?_)
      ·
        refine s_aload_n 0 dX12_does_60 rfl rfl ?_
        refine s_iload_n 2 dX12_does_61 rfl rfl ?_
        refine s_callVi (s0 := 0) (As := [.int l2]) (rest := []) (cX12_run_ok g l2 h4) vl_X12_292 rfl (Nat.le_of_ble_eq_true rfl) (Nat.le_of_ble_eq_true rfl) dX12_does_62 rfl (fun x8 h7 => ?_)
        exact s_zret rfl dX12_does_65
      refine s_tab 2 (tgt := 66) dX12_does_32 (by decide) (by decide) rfl (by decide) ?_ (fun e9 => ?_)
      ·
        refine s_aload_n 0 dX12_does_66 rfl rfl ?_
        refine s_iload_n 2 dX12_does_67 rfl rfl ?_
        refine s_callVi (s0 := 0) (As := [.int l2]) (rest := []) (cX12_sets_ok g l2 h4) vl_X12_295 rfl (Nat.le_of_ble_eq_true rfl) (Nat.le_of_ble_eq_true rfl) dX12_does_68 rfl (fun x11 h10 => ?_)
        exact s_zret rfl dX12_does_71
      refine s_tab 3 (tgt := 72) dX12_does_32 (by decide) (by decide) rfl (by decide) ?_ (fun e12 => ?_)
      ·
        refine s_aload_n 0 dX12_does_72 rfl rfl ?_
        refine s_getr (s0 := 0) dX12_does_73 fl_X12_72 ?_
        refine s_iload_n 2 dX12_does_76 rfl rfl ?_
        refine s_iald (s0 := 0) ka_63 dX12_does_77 ?_
        refine s_if_ne (tgt := 83) dX12_does_78 (by decide) ?_ ?_
        ·
          refine s_iconst (v := 0) dX12_does_81 rfl ?_
          exact s_zret rfl dX12_does_82
        ·
          refine s_aload_n 0 dX12_does_83 rfl rfl ?_
          refine s_iload_n 2 dX12_does_84 rfl rfl ?_
          refine s_callVv (s0 := 0) (As := [.int l2]) (rest := []) (cX12_lose_ok g l2 h4) vl_X12_277 rfl (Nat.le_of_ble_eq_true rfl) (Nat.le_of_ble_eq_true rfl) dX12_does_85 rfl (fun h13 => ?_)
          refine s_iconst (v := 1) dX12_does_88 rfl ?_
          exact s_zret rfl dX12_does_89
      have e6 := lv_neT e6 (show (1 : Int32).toInt = 1 from rfl)
      have e9 := lv_neT e9 (show (2 : Int32).toInt = 2 from rfl)
      have e12 := lv_neT e12 (show (3 : Int32).toInt = 3 from rfl)
      refine s_tabd (tgt := 90) dX12_does_32 (by omega) (by decide) ?_
      refine s_aload_n 0 dX12_does_90 rfl rfl ?_
      refine s_getr (s0 := 0) dX12_does_91 fl_X12_44 ?_
      refine s_iload_n 2 dX12_does_94 rfl rfl ?_
      refine s_iald (s0 := 0) ka_54 dX12_does_95 ?_
      refine s_bipush (v := 6) dX12_does_96 rfl ?_
      refine s_icmp_ne (tgt := 103) dX12_does_98 (by decide) ?_ ?_
      ·
        refine s_iconst (v := 0) dX12_does_101 rfl ?_
        exact s_zret rfl dX12_does_102
      ·
        refine s_aload_n 0 dX12_does_103 rfl rfl ?_
        refine s_getr (s0 := 0) dX12_does_104 fl_X12_44 ?_
        refine s_iload_n 2 dX12_does_107 rfl rfl ?_
        refine s_dup2 dX12_does_108 rfl rfl ?_
        refine s_iald (s0 := 0) ka_54 dX12_does_109 ?_
        refine s_iconst (v := 1) dX12_does_110 rfl ?_
        refine s_iadd dX12_does_111 ?_
        refine s_iast (s0 := 0) ka_54 dX12_does_112 (fun h14 => ?_)
        refine s_iconst (v := 1) dX12_does_113 rfl ?_
        exact s_zret rfl dX12_does_114
def fX12_doesDeed (l1 : Int32) (h : Hp) : Option (Int32 × Hp) :=
  bnd (fX12_deedOf l1 0 h) fun x2 h1 =>
  bnd (fX12_deedOf l1 1 h1) fun x4 h3 =>
  bnd (fX12_does x2 x4 h3) fun x6 h5 =>
  ck (zk x6) (some (x6, h5))
set_option maxHeartbeats 4000000 in
set_option maxRecDepth 100000 in
theorem cX12_doesDeed_ok (g : GE) (l1 : Int32) (h : Hp) : Con cvi 1 g mX12_doesDeed 6 [rv g 10 0, .int l1] h (fX12_doesDeed l1 h) := by
  refine Con.of (by decide +kernel) (Nat.le_of_ble_eq_true rfl) ?_
  show Sim cvi 1 g mX12_doesDeed 6 0 [(0, rv g 10 0), (1, .int l1)] [] h _
  unfold fX12_doesDeed
  refine s_aload_n 0 dX12_doesDeed_0 rfl rfl ?_
  refine s_aload_n 0 dX12_doesDeed_1 rfl rfl ?_
  refine s_iload_n 1 dX12_doesDeed_2 rfl rfl ?_
  refine s_iconst (v := 0) dX12_doesDeed_3 rfl ?_
  refine s_callVi (s0 := 0) (As := [.int l1, .int 0]) (rest := [rv g 10 0]) (cX12_deedOf_ok g l1 0 h) vl_X12_307 rfl (Nat.le_of_ble_eq_true rfl) (Nat.le_of_ble_eq_true rfl) dX12_doesDeed_4 rfl (fun x2 h1 => ?_)
  refine s_aload_n 0 dX12_doesDeed_7 rfl rfl ?_
  refine s_iload_n 1 dX12_doesDeed_8 rfl rfl ?_
  refine s_iconst (v := 1) dX12_doesDeed_9 rfl ?_
  refine s_callVi (s0 := 0) (As := [.int l1, .int 1]) (rest := [.int x2, rv g 10 0]) (cX12_deedOf_ok g l1 1 h1) vl_X12_307 rfl (Nat.le_of_ble_eq_true rfl) (Nat.le_of_ble_eq_true rfl) dX12_doesDeed_10 rfl (fun x4 h3 => ?_)
  refine s_callVi (s0 := 0) (As := [.int x2, .int x4]) (rest := []) (cX12_does_ok g x2 x4 h3) vl_X12_310 rfl (Nat.le_of_ble_eq_true rfl) (Nat.le_of_ble_eq_true rfl) dX12_doesDeed_13 rfl (fun x6 h5 => ?_)
  exact s_zret rfl dX12_doesDeed_16
def fX12_of (l1 : Int32) (h : Hp) : Option (Int32 × Hp) :=
  ck (ib (((18 : Int32) * (rd h 10 0 21)) + l1) 144) (
  some (ra h 48 0 (((18 : Int32) * (rd h 10 0 21)) + l1), h))
set_option maxHeartbeats 4000000 in
set_option maxRecDepth 100000 in
theorem cX12_of_ok (g : GE) (l1 : Int32) (h : Hp) : Con cvi 1 g mX12_of 2 [rv g 10 0, .int l1] h (fX12_of l1 h) := by
  refine Con.of (by decide +kernel) (Nat.le_of_ble_eq_true rfl) ?_
  show Sim cvi 1 g mX12_of 2 0 [(0, rv g 10 0), (1, .int l1)] [] h _
  unfold fX12_of
  refine s_aload_n 0 dX12_of_0 rfl rfl ?_
  refine s_getr (s0 := 0) dX12_of_1 fl_X12_26 ?_
  refine s_bipush (v := 18) dX12_of_4 rfl ?_
  refine s_aload_n 0 dX12_of_6 rfl rfl ?_
  refine s_geti (s0 := 0) dX12_of_7 fl_X12_219 ?_
  refine s_imul dX12_of_10 ?_
  refine s_iload_n 1 dX12_of_11 rfl rfl ?_
  refine s_iadd dX12_of_12 ?_
  refine s_iald (s0 := 0) ka_48 dX12_of_13 ?_
  exact s_iret rfl dX12_of_14
def fX12_asTold_l41 (K : Hp → Option (Unit × Hp)) (rec : Int32 → Hp → Option (Unit × Hp)) (l1 : Int32) (h : Hp) : Option (Unit × Hp) :=
  if (5 : Int32) ≤ l1 then (K h)
  else (bnd (fX12_of ((3 : Int32) + l1) h) fun x12 h11 =>
  ck (ib l1 5) (lt (wa h11 53 0 l1 x12) fun h13 =>
  bnd (fX12_of ((8 : Int32) + l1) h13) fun x15 h14 =>
  ck (ib l1 5) (lt (wa h14 54 0 l1 x15) fun h16 =>
  bnd (fX12_of ((13 : Int32) + l1) h16) fun x18 h17 =>
  ck (ib l1 5) (lt (wa h17 55 0 l1 x18) fun h19 =>
  lt (l1 + 1) fun x20 =>
  rec x20 h19))))
def fX12_asTold (h : Hp) : Option (Unit × Hp) :=
  bnd (fX12_of 0 h) fun x2 h1 =>
  lt (wr h1 10 0 23 x2) fun h3 =>
  bnd (fX12_of 1 h3) fun x5 h4 =>
  lt (wr h4 10 0 24 x5) fun h6 =>
  bnd (fX12_of 2 h6) fun x8 h7 =>
  lt (wr h7 10 0 22 x8) fun h9 =>
  lt (wr h9 10 0 25 (((1 : Int32) <<< ((rd h9 10 0 22) &&& 31)) - (1 : Int32))) fun h10 =>
  itr1 (fX12_asTold_l41 (fun h21 => some ((), h21))) FU 0 h10
set_option maxHeartbeats 4000000 in
set_option maxRecDepth 100000 in
theorem sX12_asTold_l41 (g : GE) (K : Hp → Option (Unit × Hp)) (hK : ∀ (h : Hp), Sim cvv 1 g mX12_asTold 3 93 [] [] h (K  h)) : ∀ (n : Nat) (l1 : Int32) (h : Hp), Sim cvv 1 g mX12_asTold 3 41 [(0, rv g 10 0), (1, .int l1)] [] h (itr1 (fX12_asTold_l41 K) n l1 h) := by
  refine s_itr1 (fun l1 h o => Sim cvv 1 g mX12_asTold 3 41 [(0, rv g 10 0), (1, .int l1)] [] h o) (fun _ _ => s_none) ?_
  intro rec hrec l1 h
  unfold fX12_asTold_l41
  refine s_iload_n 1 dX12_asTold_41 rfl rfl ?_
  refine s_iconst (v := 5) dX12_asTold_42 rfl ?_
  refine s_icmp_ge (tgt := 93) dX12_asTold_43 (by decide) ?_ ?_
  ·
    refine s_sub [] rfl ?_
    exact hK h
  ·
    refine s_aload_n 0 dX12_asTold_46 rfl rfl ?_
    refine s_getr (s0 := 0) dX12_asTold_47 fl_X12_41 ?_
    refine s_iload_n 1 dX12_asTold_50 rfl rfl ?_
    refine s_aload_n 0 dX12_asTold_51 rfl rfl ?_
    refine s_iconst (v := 3) dX12_asTold_52 rfl ?_
    refine s_iload_n 1 dX12_asTold_53 rfl rfl ?_
    refine s_iadd dX12_asTold_54 ?_
    refine s_callVi (s0 := 0) (As := [.int ((3 : Int32) + l1)]) (rest := [.int l1, rv g 53 0]) (cX12_of_ok g ((3 : Int32) + l1) h) vl_X12_222 rfl (Nat.le_of_ble_eq_true rfl) (Nat.le_of_ble_eq_true rfl) dX12_asTold_55 rfl (fun x12 h11 => ?_)
    refine s_iast (s0 := 0) ka_53 dX12_asTold_58 (fun h13 => ?_)
    refine s_aload_n 0 dX12_asTold_59 rfl rfl ?_
    refine s_getr (s0 := 0) dX12_asTold_60 fl_X12_44 ?_
    refine s_iload_n 1 dX12_asTold_63 rfl rfl ?_
    refine s_aload_n 0 dX12_asTold_64 rfl rfl ?_
    refine s_bipush (v := 8) dX12_asTold_65 rfl ?_
    refine s_iload_n 1 dX12_asTold_67 rfl rfl ?_
    refine s_iadd dX12_asTold_68 ?_
    refine s_callVi (s0 := 0) (As := [.int ((8 : Int32) + l1)]) (rest := [.int l1, rv g 54 0]) (cX12_of_ok g ((8 : Int32) + l1) h13) vl_X12_222 rfl (Nat.le_of_ble_eq_true rfl) (Nat.le_of_ble_eq_true rfl) dX12_asTold_69 rfl (fun x15 h14 => ?_)
    refine s_iast (s0 := 0) ka_54 dX12_asTold_72 (fun h16 => ?_)
    refine s_aload_n 0 dX12_asTold_73 rfl rfl ?_
    refine s_getr (s0 := 0) dX12_asTold_74 fl_X12_47 ?_
    refine s_iload_n 1 dX12_asTold_77 rfl rfl ?_
    refine s_aload_n 0 dX12_asTold_78 rfl rfl ?_
    refine s_bipush (v := 13) dX12_asTold_79 rfl ?_
    refine s_iload_n 1 dX12_asTold_81 rfl rfl ?_
    refine s_iadd dX12_asTold_82 ?_
    refine s_callVi (s0 := 0) (As := [.int ((13 : Int32) + l1)]) (rest := [.int l1, rv g 55 0]) (cX12_of_ok g ((13 : Int32) + l1) h16) vl_X12_222 rfl (Nat.le_of_ble_eq_true rfl) (Nat.le_of_ble_eq_true rfl) dX12_asTold_83 rfl (fun x18 h17 => ?_)
    refine s_iast (s0 := 0) ka_55 dX12_asTold_86 (fun h19 => ?_)
    refine s_iincl 1 (w := 1) (fun x20 => [(1, .int x20), (0, rv g 10 0)]) dX12_asTold_87 rfl rfl (by decide) (fun _ => rfl) (fun x20 => ?_)
    refine s_goto (tgt := 41) dX12_asTold_90 (by decide) ?_
    refine s_sub [1, 0] rfl ?_
    exact hrec x20 h19
set_option maxHeartbeats 4000000 in
set_option maxRecDepth 100000 in
theorem cX12_asTold_ok (g : GE) (h : Hp) : Con cvv 1 g mX12_asTold 3 [rv g 10 0] h (fX12_asTold h) := by
  refine Con.of (by decide +kernel) (Nat.le_of_ble_eq_true rfl) ?_
  show Sim cvv 1 g mX12_asTold 3 0 [(0, rv g 10 0)] [] h _
  unfold fX12_asTold
  refine s_aload_n 0 dX12_asTold_0 rfl rfl ?_
  refine s_aload_n 0 dX12_asTold_1 rfl rfl ?_
  refine s_iconst (v := 0) dX12_asTold_2 rfl ?_
  refine s_callVi (s0 := 0) (As := [.int 0]) (rest := [rv g 10 0]) (cX12_of_ok g 0 h) vl_X12_222 rfl (Nat.le_of_ble_eq_true rfl) (Nat.le_of_ble_eq_true rfl) dX12_asTold_3 rfl (fun x2 h1 => ?_)
  refine s_puti (s0 := 0) dX12_asTold_6 fl_X12_226 (fun h3 => ?_)
  refine s_aload_n 0 dX12_asTold_9 rfl rfl ?_
  refine s_aload_n 0 dX12_asTold_10 rfl rfl ?_
  refine s_iconst (v := 1) dX12_asTold_11 rfl ?_
  refine s_callVi (s0 := 0) (As := [.int 1]) (rest := [rv g 10 0]) (cX12_of_ok g 1 h3) vl_X12_222 rfl (Nat.le_of_ble_eq_true rfl) (Nat.le_of_ble_eq_true rfl) dX12_asTold_12 rfl (fun x5 h4 => ?_)
  refine s_puti (s0 := 0) dX12_asTold_15 fl_X12_229 (fun h6 => ?_)
  refine s_aload_n 0 dX12_asTold_18 rfl rfl ?_
  refine s_aload_n 0 dX12_asTold_19 rfl rfl ?_
  refine s_iconst (v := 2) dX12_asTold_20 rfl ?_
  refine s_callVi (s0 := 0) (As := [.int 2]) (rest := [rv g 10 0]) (cX12_of_ok g 2 h6) vl_X12_222 rfl (Nat.le_of_ble_eq_true rfl) (Nat.le_of_ble_eq_true rfl) dX12_asTold_21 rfl (fun x8 h7 => ?_)
  refine s_puti (s0 := 0) dX12_asTold_24 fl_X12_232 (fun h9 => ?_)
  refine s_aload_n 0 dX12_asTold_27 rfl rfl ?_
  refine s_iconst (v := 1) dX12_asTold_28 rfl ?_
  refine s_aload_n 0 dX12_asTold_29 rfl rfl ?_
  refine s_geti (s0 := 0) dX12_asTold_30 fl_X12_232 ?_
  refine s_ishl dX12_asTold_33 ?_
  refine s_iconst (v := 1) dX12_asTold_34 rfl ?_
  refine s_isub dX12_asTold_35 ?_
  refine s_puti (s0 := 0) dX12_asTold_36 fl_X12_235 (fun h10 => ?_)
  refine s_iconst (v := 0) dX12_asTold_39 rfl ?_
  refine s_istore_n (ls' := [(1, .int 0), (0, rv g 10 0)]) dX12_asTold_40 rfl (by decide) rfl ?_
  refine s_sub (ls' := [(0, rv g 10 0), (1, .int 0)]) [1, 0] rfl ?_
  refine sX12_asTold_l41 g _ (fun h21 => ?_) FU 0 h10
  exact s_vret rfl dX12_asTold_93
