def fX6_sureRun (l1 : Int32) (h : Hp) : Option (Int32 × Hp) :=
  jn (κ := Hp → Option (Int32 × Hp)) (fun h2 => some ((-1), h2)) fun k37_0 =>
  if (rd h 4 0 0) ≤ 0 then (k37_0 h)
  else (if l1 < 0 then (k37_0 h)
  else (if (rd h 4 0 9) ≤ l1 then (k37_0 h)
  else (if (4 : Int32) ≤ l1 then (k37_0 h)
  else (ck (ib l1 4) (
  some (ra h 28 0 l1, h))))))
set_option maxHeartbeats 4000000 in
set_option maxRecDepth 100000 in
theorem cX6_sureRun_ok (g : GE) (l1 : Int32) (h : Hp) : Con cvi 0 g mX6_sureRun 2 [rv g 4 0, .int l1] h (fX6_sureRun l1 h) := by
  refine Con.of (by decide +kernel) (Nat.le_of_ble_eq_true rfl) ?_
  show Sim cvi 0 g mX6_sureRun 2 0 [(0, rv g 4 0), (1, .int l1)] [] h _
  unfold fX6_sureRun
  refine s_aload_n 0 dX6_sureRun_0 rfl rfl ?_
  refine s_geti (s0 := 0) dX6_sureRun_1 fl_X6_9 ?_
  refine s_jn (fun (k37_0 : Hp → Option (Int32 × Hp)) => ∀ (h2 : Hp), Sim cvi 0 g mX6_sureRun 2 37 [] [] h2 (k37_0 h2)) (fun h2 => ?_) (fun k37_0 Hk37_0 => ?_)
  ·
    refine s_iconst (v := (-1)) dX6_sureRun_37 rfl ?_
    exact s_iret rfl dX6_sureRun_38
  refine s_if_le (tgt := 37) dX6_sureRun_4 (by decide) ?_ ?_
  ·
    refine s_sub [] rfl ?_
    exact Hk37_0 h
  ·
    refine s_iload_n 1 dX6_sureRun_7 rfl rfl ?_
    refine s_if_lt (tgt := 37) dX6_sureRun_8 (by decide) ?_ ?_
    ·
      refine s_sub [] rfl ?_
      exact Hk37_0 h
    ·
      refine s_iload_n 1 dX6_sureRun_11 rfl rfl ?_
      refine s_aload_n 0 dX6_sureRun_12 rfl rfl ?_
      refine s_geti (s0 := 0) dX6_sureRun_13 fl_X6_40 ?_
      refine s_icmp_ge (tgt := 37) dX6_sureRun_16 (by decide) ?_ ?_
      ·
        refine s_sub [] rfl ?_
        exact Hk37_0 h
      ·
        refine s_iload_n 1 dX6_sureRun_19 rfl rfl ?_
        refine s_aload_n 0 dX6_sureRun_20 rfl rfl ?_
        refine s_getr (s0 := 0) dX6_sureRun_21 fl_X6_31 ?_
        refine s_alen0 (v := 4) ka_28 rfl dX6_sureRun_24 ?_
        refine s_icmp_ge (tgt := 37) dX6_sureRun_25 (by decide) ?_ ?_
        ·
          refine s_sub [] rfl ?_
          exact Hk37_0 h
        ·
          refine s_aload_n 0 dX6_sureRun_28 rfl rfl ?_
          refine s_getr (s0 := 0) dX6_sureRun_29 fl_X6_31 ?_
          refine s_iload_n 1 dX6_sureRun_32 rfl rfl ?_
          refine s_iald (s0 := 0) ka_28 dX6_sureRun_33 ?_
          refine s_goto (tgt := 38) dX6_sureRun_34 (by decide) ?_
          exact s_iret rfl dX6_sureRun_38
def fX11_power_l4 (l0 : Int32) (l1 : Int32) (K : Int32 → Hp → Option (Int32 × Hp)) (rec : Int32 → Int32 → Hp → Option (Int32 × Hp)) (l2 l3 : Int32) (h : Hp) : Option (Int32 × Hp) :=
  if l1 ≤ l3 then (K l2 h)
  else (lt (l2 * l0) fun x1 =>
  lt (l3 + 1) fun x2 =>
  rec x1 x2 h)
def fX11_power (l0 : Int32) (l1 : Int32) (h : Hp) : Option (Int32 × Hp) :=
  itr2 (fX11_power_l4 l0 l1 (fun y3 h4 => some (y3, h4))) FU 1 0 h
set_option maxHeartbeats 4000000 in
set_option maxRecDepth 100000 in
theorem sX11_power_l4 (g : GE) (l0 : Int32) (l1 : Int32) (K : Int32 → Hp → Option (Int32 × Hp)) (hK : ∀ (y2 : Int32) (h : Hp), Sim cvi 0 g mX11_power 2 19 [(2, .int y2)] [] h (K y2 h)) : ∀ (n : Nat) (l2 l3 : Int32) (h : Hp), Sim cvi 0 g mX11_power 2 4 [(0, .int l0), (1, .int l1), (2, .int l2), (3, .int l3)] [] h (itr2 (fX11_power_l4 l0 l1 K) n l2 l3 h) := by
  refine s_itr2 (fun l2 l3 h o => Sim cvi 0 g mX11_power 2 4 [(0, .int l0), (1, .int l1), (2, .int l2), (3, .int l3)] [] h o) (fun _ _ _ => s_none) ?_
  intro rec hrec l2 l3 h
  unfold fX11_power_l4
  refine s_iload_n 3 dX11_power_4 rfl rfl ?_
  refine s_iload_n 1 dX11_power_5 rfl rfl ?_
  refine s_icmp_ge (tgt := 19) dX11_power_6 (by decide) ?_ ?_
  ·
    refine s_sub [2] rfl ?_
    exact hK l2 h
  ·
    refine s_iload_n 2 dX11_power_9 rfl rfl ?_
    refine s_iload_n 0 dX11_power_10 rfl rfl ?_
    refine s_imul dX11_power_11 ?_
    refine s_leti (fun x1 => ?_)
    refine s_istore_n (ls' := [(2, .int x1), (0, .int l0), (1, .int l1), (3, .int l3)]) dX11_power_12 rfl (by decide) rfl ?_
    refine s_iincl 3 (w := 1) (fun x2 => [(3, .int x2), (2, .int x1), (0, .int l0), (1, .int l1)]) dX11_power_13 rfl rfl (by decide) (fun _ => rfl) (fun x2 => ?_)
    refine s_goto (tgt := 4) dX11_power_16 (by decide) ?_
    refine s_sub [2, 3, 1, 0] rfl ?_
    exact hrec x1 x2 h
set_option maxHeartbeats 4000000 in
set_option maxRecDepth 100000 in
theorem cX11_power_ok (g : GE) (l0 : Int32) (l1 : Int32) (h : Hp) : Con cvi 0 g mX11_power 2 [.int l0, .int l1] h (fX11_power l0 l1 h) := by
  refine Con.of (by decide +kernel) (Nat.le_of_ble_eq_true rfl) ?_
  show Sim cvi 0 g mX11_power 2 0 [(0, .int l0), (1, .int l1)] [] h _
  unfold fX11_power
  refine s_iconst (v := 1) dX11_power_0 rfl ?_
  refine s_istore_n (ls' := [(2, .int 1), (0, .int l0), (1, .int l1)]) dX11_power_1 rfl (by decide) rfl ?_
  refine s_iconst (v := 0) dX11_power_2 rfl ?_
  refine s_istore_n (ls' := [(3, .int 0), (2, .int 1), (0, .int l0), (1, .int l1)]) dX11_power_3 rfl (by decide) rfl ?_
  refine s_sub (ls' := [(0, .int l0), (1, .int l1), (2, .int 1), (3, .int 0)]) [2, 3, 1, 0] rfl ?_
  refine sX11_power_l4 g l0 l1 _ (fun y3 h4 => ?_) FU 1 0 h
  refine s_iload_n 0 dX11_power_19 rfl rfl ?_
  exact s_iret rfl dX11_power_20
def fX6_clear_l28 (K : Hp → Option (Unit × Hp)) (rec : Int32 → Hp → Option (Unit × Hp)) (l1 : Int32) (h : Hp) : Option (Unit × Hp) :=
  if (105 : Int32) ≤ l1 then (K h)
  else (ck (ib l1 105) (lt (wa h 30 0 l1 0) fun h6 =>
  lt (l1 + 1) fun x7 =>
  rec x7 h6))
def fX6_clear (h : Hp) : Option (Unit × Hp) :=
  lt (wr h 4 0 0 0) fun h1 =>
  lt (wr h1 4 0 1 (-2)) fun h2 =>
  lt (wr h2 4 0 2 (-1)) fun h3 =>
  lt (wr h3 4 0 3 (-1)) fun h4 =>
  lt (wr h4 4 0 4 (-1)) fun h5 =>
  itr1 (fX6_clear_l28 (fun h8 => some ((), h8))) FU 0 h5
set_option maxHeartbeats 4000000 in
set_option maxRecDepth 100000 in
theorem sX6_clear_l28 (g : GE) (K : Hp → Option (Unit × Hp)) (hK : ∀ (h : Hp), Sim cvv 0 g mX6_clear 2 50 [] [] h (K  h)) : ∀ (n : Nat) (l1 : Int32) (h : Hp), Sim cvv 0 g mX6_clear 2 28 [(0, rv g 4 0), (1, .int l1)] [] h (itr1 (fX6_clear_l28 K) n l1 h) := by
  refine s_itr1 (fun l1 h o => Sim cvv 0 g mX6_clear 2 28 [(0, rv g 4 0), (1, .int l1)] [] h o) (fun _ _ => s_none) ?_
  intro rec hrec l1 h
  unfold fX6_clear_l28
  refine s_iload_n 1 dX6_clear_28 rfl rfl ?_
  refine s_aload_n 0 dX6_clear_29 rfl rfl ?_
  refine s_getr (s0 := 0) dX6_clear_30 fl_X6_37 ?_
  refine s_alen0 (v := 105) ka_30 rfl dX6_clear_33 ?_
  refine s_icmp_ge (tgt := 50) dX6_clear_34 (by decide) ?_ ?_
  ·
    refine s_sub [] rfl ?_
    exact hK h
  ·
    refine s_aload_n 0 dX6_clear_37 rfl rfl ?_
    refine s_getr (s0 := 0) dX6_clear_38 fl_X6_37 ?_
    refine s_iload_n 1 dX6_clear_41 rfl rfl ?_
    refine s_iconst (v := 0) dX6_clear_42 rfl ?_
    refine s_iast (s0 := 0) ka_30 dX6_clear_43 (fun h6 => ?_)
    refine s_iincl 1 (w := 1) (fun x7 => [(1, .int x7), (0, rv g 4 0)]) dX6_clear_44 rfl rfl (by decide) (fun _ => rfl) (fun x7 => ?_)
    refine s_goto (tgt := 28) dX6_clear_47 (by decide) ?_
    refine s_sub [1, 0] rfl ?_
    exact hrec x7 h6
set_option maxHeartbeats 4000000 in
set_option maxRecDepth 100000 in
theorem cX6_clear_ok (g : GE) (h : Hp) : Con cvv 0 g mX6_clear 2 [rv g 4 0] h (fX6_clear h) := by
  refine Con.of (by decide +kernel) (Nat.le_of_ble_eq_true rfl) ?_
  show Sim cvv 0 g mX6_clear 2 0 [(0, rv g 4 0)] [] h _
  unfold fX6_clear
  refine s_aload_n 0 dX6_clear_0 rfl rfl ?_
  refine s_iconst (v := 0) dX6_clear_1 rfl ?_
  refine s_puti (s0 := 0) dX6_clear_2 fl_X6_9 (fun h1 => ?_)
  refine s_aload_n 0 dX6_clear_5 rfl rfl ?_
  refine s_bipush (v := (-2)) dX6_clear_6 rfl ?_
  refine s_puti (s0 := 0) dX6_clear_8 fl_X6_15 (fun h2 => ?_)
  refine s_aload_n 0 dX6_clear_11 rfl rfl ?_
  refine s_iconst (v := (-1)) dX6_clear_12 rfl ?_
  refine s_puti (s0 := 0) dX6_clear_13 fl_X6_18 (fun h3 => ?_)
  refine s_aload_n 0 dX6_clear_16 rfl rfl ?_
  refine s_iconst (v := (-1)) dX6_clear_17 rfl ?_
  refine s_puti (s0 := 0) dX6_clear_18 fl_X6_21 (fun h4 => ?_)
  refine s_aload_n 0 dX6_clear_21 rfl rfl ?_
  refine s_iconst (v := (-1)) dX6_clear_22 rfl ?_
  refine s_puti (s0 := 0) dX6_clear_23 fl_X6_24 (fun h5 => ?_)
  refine s_iconst (v := 0) dX6_clear_26 rfl ?_
  refine s_istore_n (ls' := [(1, .int 0), (0, rv g 4 0)]) dX6_clear_27 rfl (by decide) rfl ?_
  refine s_sub (ls' := [(0, rv g 4 0), (1, .int 0)]) [1, 0] rfl ?_
  refine sX6_clear_l28 g _ (fun h8 => ?_) FU 0 h5
  exact s_vret rfl dX6_clear_50
def fX6_isTrue_l2 (a1 : Nat) (a2 : Nat) (K : Hp → Option (Int32 × Hp)) (rec : Int32 → Hp → Option (Int32 × Hp)) (l3 : Int32) (h : Hp) : Option (Int32 × Hp) :=
  if (rd h 1 a2 1) ≤ l3 then (K h)
  else (ck (ib l3 8) (
  lt (ra h 22 a2 l3) fun x1 =>
  bnd (fX8_has a1 x1 h) fun x3 h2 =>
  if x3 = 0 then (ck (zk 0) (some (0, h2)))
  else (ck (ib x1 5) (
  ck (ib l3 8) (
  jn (κ := Int32 → Hp → Option (Int32 × Hp)) (fun z0_3 h5 => ck (ib l3 8) (
  jn (κ := Int32 → Hp → Option (Int32 × Hp)) (fun z0_5 h7 => if z0_3 = z0_5 then (lt (l3 + 1) fun x8 =>
  rec x8 h7)
  else (ck (zk 0) (some (0, h7)))) fun k69_5 =>
  if (ra h5 21 a2 l3) = 1 then (k69_5 1 h5)
  else (k69_5 0 h5))) fun k50_3 =>
  if (ra h2 29 0 x1) ≤ (ra h2 23 a2 l3) then (k50_3 0 h2)
  else (k50_3 1 h2))))))
def fX6_isTrue (a1 : Nat) (a2 : Nat) (h : Hp) : Option (Int32 × Hp) :=
  itr1 (fX6_isTrue_l2 a1 a2 (fun h9 => ck (zk 1) (some (1, h9)))) FU 0 h
set_option maxHeartbeats 4000000 in
set_option maxRecDepth 100000 in
theorem sX6_isTrue_l2 (g : GE) (a1 : Nat) (a2 : Nat) (K : Hp → Option (Int32 × Hp)) (hK : ∀ (h : Hp), Sim cvi 0 g mX6_isTrue 3 80 [] [] h (K  h)) : ∀ (n : Nat) (l3 : Int32) (h : Hp), Sim cvi 0 g mX6_isTrue 3 2 [(0, rv g 4 0), (1, rv g 6 a1), (2, rv g 1 a2), (3, .int l3)] [] h (itr1 (fX6_isTrue_l2 a1 a2 K) n l3 h) := by
  refine s_itr1 (fun l3 h o => Sim cvi 0 g mX6_isTrue 3 2 [(0, rv g 4 0), (1, rv g 6 a1), (2, rv g 1 a2), (3, .int l3)] [] h o) (fun _ _ => s_none) ?_
  intro rec hrec l3 h
  unfold fX6_isTrue_l2
  refine s_iload_n 3 dX6_isTrue_2 rfl rfl ?_
  refine s_aload_n 2 dX6_isTrue_3 rfl rfl ?_
  refine s_geti (s0 := a2) dX6_isTrue_4 fl_X6_108 ?_
  refine s_icmp_ge (tgt := 80) dX6_isTrue_7 (by decide) ?_ ?_
  ·
    refine s_sub [] rfl ?_
    exact hK h
  ·
    refine s_aload_n 2 dX6_isTrue_10 rfl rfl ?_
    refine s_getr1 (k2 := 22) (s0 := a2) rfl dX6_isTrue_11 fl_X6_111 ?_
    refine s_iload_n 3 dX6_isTrue_14 rfl rfl ?_
    refine s_iald (s0 := a2) ka_22 dX6_isTrue_15 ?_
    refine s_leti (fun x1 => ?_)
    refine s_istore (ls' := [(4, .int x1), (0, rv g 4 0), (1, rv g 6 a1), (2, rv g 1 a2), (3, .int l3)]) dX6_isTrue_16 (by decide) rfl ?_
    refine s_aload_n 2 dX6_isTrue_18 rfl rfl ?_
    refine s_iload 0 dX6_isTrue_19 rfl ?_
    refine s_callVi (s0 := a1) (As := [.int x1]) (rest := []) (cX8_has_ok g a1 x1 h) vl_X6_95 rfl (Nat.le_of_ble_eq_true rfl) (Nat.le_of_ble_eq_true rfl) dX6_isTrue_21 rfl (fun x3 h2 => ?_)
    refine s_if_ne (tgt := 29) dX6_isTrue_24 (by decide) ?_ ?_
    ·
      refine s_iconst (v := 0) dX6_isTrue_27 rfl ?_
      exact s_zret rfl dX6_isTrue_28
    ·
      refine s_aload_n 1 dX6_isTrue_29 rfl rfl ?_
      refine s_getr (s0 := 0) dX6_isTrue_30 fl_X6_34 ?_
      refine s_iload 0 dX6_isTrue_33 rfl ?_
      refine s_iald (s0 := 0) ka_29 dX6_isTrue_35 ?_
      refine s_aload_n 3 dX6_isTrue_36 rfl rfl ?_
      refine s_getr1 (k2 := 23) (s0 := a2) rfl dX6_isTrue_37 fl_X6_114 ?_
      refine s_iload_n 4 dX6_isTrue_40 rfl rfl ?_
      refine s_iald (s0 := a2) ka_23 dX6_isTrue_41 ?_
      refine s_jn (fun (k50_3 : Int32 → Hp → Option (Int32 × Hp)) => ∀ (z0_3 : Int32) (h5 : Hp), Sim cvi 0 g mX6_isTrue 3 50 [(0, rv g 4 0), (1, rv g 6 a1), (2, rv g 1 a2), (3, .int l3)] [.int z0_3] h5 (k50_3 z0_3 h5)) (fun z0_3 h5 => ?_) (fun k50_3 Hk50_3 => ?_)
      ·
        refine s_istore (ls' := [(5, .int z0_3), (0, rv g 4 0), (1, rv g 6 a1), (2, rv g 1 a2), (3, .int l3)]) dX6_isTrue_50 (by decide) rfl ?_
        refine s_iload 0 dX6_isTrue_52 rfl ?_
        refine s_aload_n 3 dX6_isTrue_54 rfl rfl ?_
        refine s_getr1 (k2 := 21) (s0 := a2) rfl dX6_isTrue_55 fl_X6_116 ?_
        refine s_iload_n 4 dX6_isTrue_58 rfl rfl ?_
        refine s_iald (s0 := a2) ka_21 dX6_isTrue_59 ?_
        refine s_iconst (v := 1) dX6_isTrue_60 rfl ?_
        refine s_jn (fun (k69_5 : Int32 → Hp → Option (Int32 × Hp)) => ∀ (z0_5 : Int32) (h7 : Hp), Sim cvi 0 g mX6_isTrue 3 69 [(0, rv g 4 0), (1, rv g 6 a1), (2, rv g 1 a2), (3, .int l3)] [.int z0_5, .int z0_3] h7 (k69_5 z0_5 h7)) (fun z0_5 h7 => ?_) (fun k69_5 Hk69_5 => ?_)
        ·
          refine s_icmp_eq (tgt := 74) dX6_isTrue_69 (by decide) ?_ ?_
          ·
            refine s_iincl 3 (w := 1) (fun x8 => [(3, .int x8), (0, rv g 4 0), (1, rv g 6 a1), (2, rv g 1 a2)]) dX6_isTrue_74 rfl rfl (by decide) (fun _ => rfl) (fun x8 => ?_)
            refine s_goto (tgt := 2) dX6_isTrue_77 (by decide) ?_
            refine s_sub [1, 2, 3, 0] rfl ?_
            exact hrec x8 h7
          ·
            refine s_iconst (v := 0) dX6_isTrue_72 rfl ?_
            exact s_zret rfl dX6_isTrue_73
        refine s_icmp_ne (tgt := 68) dX6_isTrue_61 (by decide) ?_ ?_
        ·
          refine s_iconst (v := 1) dX6_isTrue_64 rfl ?_
          refine s_goto (tgt := 69) dX6_isTrue_65 (by decide) ?_
          refine s_sub [1, 2, 3, 4] rfl ?_
          exact Hk69_5 1 h5
        ·
          refine s_iconst (v := 0) dX6_isTrue_68 rfl ?_
          refine s_sub [1, 2, 3, 4] rfl ?_
          exact Hk69_5 0 h5
      refine s_icmp_le (tgt := 49) dX6_isTrue_42 (by decide) ?_ ?_
      ·
        refine s_iconst (v := 0) dX6_isTrue_49 rfl ?_
        refine s_sub [1, 2, 3, 4] rfl ?_
        exact Hk50_3 0 h2
      ·
        refine s_iconst (v := 1) dX6_isTrue_45 rfl ?_
        refine s_goto (tgt := 50) dX6_isTrue_46 (by decide) ?_
        refine s_sub [1, 2, 3, 4] rfl ?_
        exact Hk50_3 1 h2
set_option maxHeartbeats 4000000 in
set_option maxRecDepth 100000 in
theorem cX6_isTrue_ok (g : GE) (a1 : Nat) (a2 : Nat) (h : Hp) : Con cvi 0 g mX6_isTrue 3 [rv g 4 0, rv g 6 a1, rv g 1 a2] h (fX6_isTrue a1 a2 h) := by
  refine Con.of (by decide +kernel) (Nat.le_of_ble_eq_true rfl) ?_
  show Sim cvi 0 g mX6_isTrue 3 0 [(0, rv g 4 0), (1, rv g 6 a1), (2, rv g 1 a2)] [] h _
  unfold fX6_isTrue
  refine s_iconst (v := 0) dX6_isTrue_0 rfl ?_
  refine s_istore_n (ls' := [(3, .int 0), (0, rv g 4 0), (1, rv g 6 a1), (2, rv g 1 a2)]) dX6_isTrue_1 rfl (by decide) rfl ?_
  refine s_sub (ls' := [(0, rv g 4 0), (1, rv g 6 a1), (2, rv g 1 a2), (3, .int 0)]) [1, 2, 3, 0] rfl ?_
  refine sX6_isTrue_l2 g a1 a2 _ (fun h9 => ?_) FU 0 h
  refine s_iconst (v := 1) dX6_isTrue_80 rfl ?_
  exact s_zret rfl dX6_isTrue_81
def fX6_makeRuns_l2 (a1 : Nat) (K : Hp → Option (Int32 × Hp)) (rec : Int32 → Hp → Option (Int32 × Hp)) (l2 : Int32) (h : Hp) : Option (Int32 × Hp) :=
  if (rd h 6 a1 2) ≤ l2 then (K h)
  else (ck (ib l2 5) (
  ck (ib l2 5) (lt (wa h 29 0 l2 (ra h 35 a1 l2)) fun h1 =>
  lt (l2 + 1) fun x2 =>
  rec x2 h1)))
def fX6_makeRuns_l40 (a1 : Nat) (K : Hp → Option (Int32 × Hp)) (rec : Int32 → Int32 → Hp → Option (Int32 × Hp)) (l2 l3 : Int32) (h : Hp) : Option (Int32 × Hp) :=
  if (rd h 4 0 9) ≤ l3 then (K h)
  else (ck (ib l3 4) (
  lt (ra h 27 0 l3) fun x6 =>
  bnd (fX8_has a1 x6 h) fun x8 h7 =>
  if x8 = 0 then (ck (zk 0) (some (0, h7)))
  else (ck (ib x6 5) (
  if (rd h7 4 0 10) < (ra h7 29 0 x6) then (ck (ib x6 5) (
  bnd (fX8_way a1 l2 (ra h7 33 a1 x6) h7) fun x10 h9 =>
  ck (ib x6 5) (
  jn (κ := Hp → Option (Int32 × Hp)) (fun h12 => lt (wr h12 4 0 10 ((rd h12 4 0 10) + (x10 + (1 : Int32)))) fun h13 =>
  ck (ib x6 5) (
  lt (ra h13 33 a1 x6) fun x14 =>
  lt (l3 + 1) fun x15 =>
  rec x14 x15 h13)) fun k136_10 =>
  if (ra h9 29 0 x6) ≤ ((rd h9 4 0 10) + x10) then (k136_10 h9)
  else (ck (ib x6 5) (
  ck (ib x6 5) (lt (wa h9 29 0 x6 ((((rd h9 4 0 10) + x10) + (1 : Int32)) + (ra h9 34 a1 x6))) fun h16 =>
  k136_10 h16))))))
  else (ck (zk 0) (some (0, h7)))))))
def fX6_makeRuns (a1 : Nat) (h : Hp) : Option (Int32 × Hp) :=
  itr1 (fX6_makeRuns_l2 a1 (fun h3 => lt (wr h3 4 0 10 0) fun h4 =>
  lt (rd h4 6 a1 1) fun x5 =>
  itr2 (fX6_makeRuns_l40 a1 (fun h17 => ck (zk 1) (some (1, h17)))) FU x5 0 h4)) FU 0 h
set_option maxHeartbeats 4000000 in
set_option maxRecDepth 100000 in
theorem sX6_makeRuns_l2 (g : GE) (a1 : Nat) (K : Hp → Option (Int32 × Hp)) (hK : ∀ (h : Hp), Sim cvi 0 g mX6_makeRuns 3 28 [(0, rv g 4 0), (1, rv g 6 a1)] [] h (K  h)) : ∀ (n : Nat) (l2 : Int32) (h : Hp), Sim cvi 0 g mX6_makeRuns 3 2 [(0, rv g 4 0), (1, rv g 6 a1), (2, .int l2)] [] h (itr1 (fX6_makeRuns_l2 a1 K) n l2 h) := by
  refine s_itr1 (fun l2 h o => Sim cvi 0 g mX6_makeRuns 3 2 [(0, rv g 4 0), (1, rv g 6 a1), (2, .int l2)] [] h o) (fun _ _ => s_none) ?_
  intro rec hrec l2 h
  unfold fX6_makeRuns_l2
  refine s_iload_n 2 dX6_makeRuns_2 rfl rfl ?_
  refine s_aload_n 1 dX6_makeRuns_3 rfl rfl ?_
  refine s_geti (s0 := a1) dX6_makeRuns_4 fl_X6_58 ?_
  refine s_icmp_ge (tgt := 28) dX6_makeRuns_7 (by decide) ?_ ?_
  ·
    refine s_sub [0, 1] rfl ?_
    exact hK h
  ·
    refine s_aload_n 0 dX6_makeRuns_10 rfl rfl ?_
    refine s_getr (s0 := 0) dX6_makeRuns_11 fl_X6_34 ?_
    refine s_iload_n 2 dX6_makeRuns_14 rfl rfl ?_
    refine s_aload_n 1 dX6_makeRuns_15 rfl rfl ?_
    refine s_getr1 (k2 := 35) (s0 := a1) rfl dX6_makeRuns_16 fl_X6_89 ?_
    refine s_iload_n 2 dX6_makeRuns_19 rfl rfl ?_
    refine s_iald (s0 := a1) ka_35 dX6_makeRuns_20 ?_
    refine s_iast (s0 := 0) ka_29 dX6_makeRuns_21 (fun h1 => ?_)
    refine s_iincl 2 (w := 1) (fun x2 => [(2, .int x2), (0, rv g 4 0), (1, rv g 6 a1)]) dX6_makeRuns_22 rfl rfl (by decide) (fun _ => rfl) (fun x2 => ?_)
    refine s_goto (tgt := 2) dX6_makeRuns_25 (by decide) ?_
    refine s_sub [1, 2, 0] rfl ?_
    exact hrec x2 h1
set_option maxHeartbeats 4000000 in
set_option maxRecDepth 100000 in
theorem sX6_makeRuns_l40 (g : GE) (a1 : Nat) (K : Hp → Option (Int32 × Hp)) (hK : ∀ (h : Hp), Sim cvi 0 g mX6_makeRuns 3 163 [] [] h (K  h)) : ∀ (n : Nat) (l2 l3 : Int32) (h : Hp), Sim cvi 0 g mX6_makeRuns 3 40 [(0, rv g 4 0), (1, rv g 6 a1), (2, .int l2), (3, .int l3)] [] h (itr2 (fX6_makeRuns_l40 a1 K) n l2 l3 h) := by
  refine s_itr2 (fun l2 l3 h o => Sim cvi 0 g mX6_makeRuns 3 40 [(0, rv g 4 0), (1, rv g 6 a1), (2, .int l2), (3, .int l3)] [] h o) (fun _ _ _ => s_none) ?_
  intro rec hrec l2 l3 h
  unfold fX6_makeRuns_l40
  refine s_iload_n 3 dX6_makeRuns_40 rfl rfl ?_
  refine s_aload_n 0 dX6_makeRuns_41 rfl rfl ?_
  refine s_geti (s0 := 0) dX6_makeRuns_42 fl_X6_40 ?_
  refine s_icmp_ge (tgt := 163) dX6_makeRuns_45 (by decide) ?_ ?_
  ·
    refine s_sub [] rfl ?_
    exact hK h
  ·
    refine s_aload_n 0 dX6_makeRuns_48 rfl rfl ?_
    refine s_getr (s0 := 0) dX6_makeRuns_49 fl_X6_27 ?_
    refine s_iload_n 3 dX6_makeRuns_52 rfl rfl ?_
    refine s_iald (s0 := 0) ka_27 dX6_makeRuns_53 ?_
    refine s_leti (fun x6 => ?_)
    refine s_istore (ls' := [(4, .int x6), (0, rv g 4 0), (1, rv g 6 a1), (2, .int l2), (3, .int l3)]) dX6_makeRuns_54 (by decide) rfl ?_
    refine s_aload_n 2 dX6_makeRuns_56 rfl rfl ?_
    refine s_iload 0 dX6_makeRuns_57 rfl ?_
    refine s_callVi (s0 := a1) (As := [.int x6]) (rest := []) (cX8_has_ok g a1 x6 h) vl_X6_95 rfl (Nat.le_of_ble_eq_true rfl) (Nat.le_of_ble_eq_true rfl) dX6_makeRuns_59 rfl (fun x8 h7 => ?_)
    refine s_if_eq (tgt := 79) dX6_makeRuns_62 (by decide) ?_ ?_
    ·
      refine s_iconst (v := 0) dX6_makeRuns_79 rfl ?_
      exact s_zret rfl dX6_makeRuns_80
    ·
      refine s_aload_n 1 dX6_makeRuns_65 rfl rfl ?_
      refine s_getr (s0 := 0) dX6_makeRuns_66 fl_X6_34 ?_
      refine s_iload 0 dX6_makeRuns_69 rfl ?_
      refine s_iald (s0 := 0) ka_29 dX6_makeRuns_71 ?_
      refine s_aload_n 1 dX6_makeRuns_72 rfl rfl ?_
      refine s_geti (s0 := 0) dX6_makeRuns_73 fl_X6_43 ?_
      refine s_icmp_gt (tgt := 81) dX6_makeRuns_76 (by decide) ?_ ?_
      ·
        refine s_aload_n 2 dX6_makeRuns_81 rfl rfl ?_
        refine s_iload_n 3 dX6_makeRuns_82 rfl rfl ?_
        refine s_aload_n 2 dX6_makeRuns_83 rfl rfl ?_
        refine s_getr1 (k2 := 33) (s0 := a1) rfl dX6_makeRuns_84 fl_X6_99 ?_
        refine s_iload 0 dX6_makeRuns_87 rfl ?_
        refine s_iald (s0 := a1) ka_33 dX6_makeRuns_89 ?_
        refine s_callVi (s0 := a1) (As := [.int l2, .int (ra h7 33 a1 x6)]) (rest := []) (cX8_way_ok g a1 l2 (ra h7 33 a1 x6) h7) vl_X6_102 rfl (Nat.le_of_ble_eq_true rfl) (Nat.le_of_ble_eq_true rfl) dX6_makeRuns_90 rfl (fun x10 h9 => ?_)
        refine s_istore (ls' := [(5, .int x10), (4, .int x6), (0, rv g 4 0), (1, rv g 6 a1), (2, .int l2), (3, .int l3)]) dX6_makeRuns_93 (by decide) rfl ?_
        refine s_aload_n 2 dX6_makeRuns_95 rfl rfl ?_
        refine s_getr (s0 := 0) dX6_makeRuns_96 fl_X6_34 ?_
        refine s_iload 1 dX6_makeRuns_99 rfl ?_
        refine s_iald (s0 := 0) ka_29 dX6_makeRuns_101 ?_
        refine s_aload_n 2 dX6_makeRuns_102 rfl rfl ?_
        refine s_geti (s0 := 0) dX6_makeRuns_103 fl_X6_43 ?_
        refine s_iload 0 dX6_makeRuns_106 rfl ?_
        refine s_iadd dX6_makeRuns_108 ?_
        refine s_jn (fun (k136_10 : Hp → Option (Int32 × Hp)) => ∀ (h12 : Hp), Sim cvi 0 g mX6_makeRuns 3 136 [(0, rv g 4 0), (1, rv g 6 a1), (3, .int l3), (4, .int x6), (5, .int x10)] [] h12 (k136_10 h12)) (fun h12 => ?_) (fun k136_10 Hk136_10 => ?_)
        ·
          refine s_aload_n 0 dX6_makeRuns_136 rfl rfl ?_
          refine s_dup dX6_makeRuns_137 rfl ?_
          refine s_geti (s0 := 0) dX6_makeRuns_138 fl_X6_43 ?_
          refine s_iload 4 dX6_makeRuns_141 rfl ?_
          refine s_iconst (v := 1) dX6_makeRuns_143 rfl ?_
          refine s_iadd dX6_makeRuns_144 ?_
          refine s_iadd dX6_makeRuns_145 ?_
          refine s_puti (s0 := 0) dX6_makeRuns_146 fl_X6_43 (fun h13 => ?_)
          refine s_aload_n 1 dX6_makeRuns_149 rfl rfl ?_
          refine s_getr1 (k2 := 33) (s0 := a1) rfl dX6_makeRuns_150 fl_X6_99 ?_
          refine s_iload 3 dX6_makeRuns_153 rfl ?_
          refine s_iald (s0 := a1) ka_33 dX6_makeRuns_155 ?_
          refine s_leti (fun x14 => ?_)
          refine s_istore_n (ls' := [(2, .int x14), (0, rv g 4 0), (1, rv g 6 a1), (3, .int l3), (4, .int x6), (5, .int x10)]) dX6_makeRuns_156 rfl (by decide) rfl ?_
          refine s_iincl 3 (w := 1) (fun x15 => [(3, .int x15), (2, .int x14), (0, rv g 4 0), (1, rv g 6 a1), (4, .int x6), (5, .int x10)]) dX6_makeRuns_157 rfl rfl (by decide) (fun _ => rfl) (fun x15 => ?_)
          refine s_goto (tgt := 40) dX6_makeRuns_160 (by decide) ?_
          refine s_sub [2, 3, 1, 0] rfl ?_
          exact hrec x14 x15 h13
        refine s_icmp_le (tgt := 136) dX6_makeRuns_109 (by decide) ?_ ?_
        ·
          refine s_sub [2, 3, 5, 1, 0] rfl ?_
          exact Hk136_10 h9
        ·
          refine s_aload_n 2 dX6_makeRuns_112 rfl rfl ?_
          refine s_getr (s0 := 0) dX6_makeRuns_113 fl_X6_34 ?_
          refine s_iload 1 dX6_makeRuns_116 rfl ?_
          refine s_aload_n 2 dX6_makeRuns_118 rfl rfl ?_
          refine s_geti (s0 := 0) dX6_makeRuns_119 fl_X6_43 ?_
          refine s_iload 0 dX6_makeRuns_122 rfl ?_
          refine s_iadd dX6_makeRuns_124 ?_
          refine s_iconst (v := 1) dX6_makeRuns_125 rfl ?_
          refine s_iadd dX6_makeRuns_126 ?_
          refine s_aload_n 3 dX6_makeRuns_127 rfl rfl ?_
          refine s_getr1 (k2 := 34) (s0 := a1) rfl dX6_makeRuns_128 fl_X6_105 ?_
          refine s_iload 1 dX6_makeRuns_131 rfl ?_
          refine s_iald (s0 := a1) ka_34 dX6_makeRuns_133 ?_
          refine s_iadd dX6_makeRuns_134 ?_
          refine s_iast (s0 := 0) ka_29 dX6_makeRuns_135 (fun h16 => ?_)
          refine s_sub [2, 3, 5, 1, 0] rfl ?_
          exact Hk136_10 h16
      ·
        refine s_iconst (v := 0) dX6_makeRuns_79 rfl ?_
        exact s_zret rfl dX6_makeRuns_80
set_option maxHeartbeats 4000000 in
set_option maxRecDepth 100000 in
theorem cX6_makeRuns_ok (g : GE) (a1 : Nat) (h : Hp) : Con cvi 0 g mX6_makeRuns 3 [rv g 4 0, rv g 6 a1] h (fX6_makeRuns a1 h) := by
  refine Con.of (by decide +kernel) (Nat.le_of_ble_eq_true rfl) ?_
  show Sim cvi 0 g mX6_makeRuns 3 0 [(0, rv g 4 0), (1, rv g 6 a1)] [] h _
  unfold fX6_makeRuns
  refine s_iconst (v := 0) dX6_makeRuns_0 rfl ?_
  refine s_istore_n (ls' := [(2, .int 0), (0, rv g 4 0), (1, rv g 6 a1)]) dX6_makeRuns_1 rfl (by decide) rfl ?_
  refine s_sub (ls' := [(0, rv g 4 0), (1, rv g 6 a1), (2, .int 0)]) [1, 2, 0] rfl ?_
  refine sX6_makeRuns_l2 g a1 _ (fun h3 => ?_) FU 0 h
  refine s_aload_n 0 dX6_makeRuns_28 rfl rfl ?_
  refine s_iconst (v := 0) dX6_makeRuns_29 rfl ?_
  refine s_puti (s0 := 0) dX6_makeRuns_30 fl_X6_43 (fun h4 => ?_)
  refine s_aload_n 1 dX6_makeRuns_33 rfl rfl ?_
  refine s_geti (s0 := a1) dX6_makeRuns_34 fl_X6_92 ?_
  refine s_leti (fun x5 => ?_)
  refine s_istore_n (ls' := [(2, .int x5), (0, rv g 4 0), (1, rv g 6 a1)]) dX6_makeRuns_37 rfl (by decide) rfl ?_
  refine s_iconst (v := 0) dX6_makeRuns_38 rfl ?_
  refine s_istore_n (ls' := [(3, .int 0), (2, .int x5), (0, rv g 4 0), (1, rv g 6 a1)]) dX6_makeRuns_39 rfl (by decide) rfl ?_
  refine s_sub (ls' := [(0, rv g 4 0), (1, rv g 6 a1), (2, .int x5), (3, .int 0)]) [2, 3, 1, 0] rfl ?_
  refine sX6_makeRuns_l40 g a1 _ (fun h17 => ?_) FU x5 0 h4
  refine s_iconst (v := 1) dX6_makeRuns_163 rfl ?_
  exact s_zret rfl dX6_makeRuns_164
def fX6_numberOfRow_l4 (K : Int32 → Hp → Option (Int32 × Hp)) (rec : Int32 → Int32 → Hp → Option (Int32 × Hp)) (l1 l2 : Int32) (h : Hp) : Option (Int32 × Hp) :=
  if (rd h 4 0 9) ≤ l2 then (K l1 h)
  else (ck (ib l2 4) (
  lt ((l1 * (10 : Int32)) + (ra h 27 0 l2)) fun x1 =>
  lt (l2 + 1) fun x2 =>
  rec x1 x2 h))
def fX6_numberOfRow (h : Hp) : Option (Int32 × Hp) :=
  itr2 (fX6_numberOfRow_l4 (fun y3 h4 => some (y3, h4))) FU 1 0 h
set_option maxHeartbeats 4000000 in
set_option maxRecDepth 100000 in
theorem sX6_numberOfRow_l4 (g : GE) (K : Int32 → Hp → Option (Int32 × Hp)) (hK : ∀ (y1 : Int32) (h : Hp), Sim cvi 0 g mX6_numberOfRow 2 30 [(1, .int y1)] [] h (K y1 h)) : ∀ (n : Nat) (l1 l2 : Int32) (h : Hp), Sim cvi 0 g mX6_numberOfRow 2 4 [(0, rv g 4 0), (1, .int l1), (2, .int l2)] [] h (itr2 (fX6_numberOfRow_l4 K) n l1 l2 h) := by
  refine s_itr2 (fun l1 l2 h o => Sim cvi 0 g mX6_numberOfRow 2 4 [(0, rv g 4 0), (1, .int l1), (2, .int l2)] [] h o) (fun _ _ _ => s_none) ?_
  intro rec hrec l1 l2 h
  unfold fX6_numberOfRow_l4
  refine s_iload_n 2 dX6_numberOfRow_4 rfl rfl ?_
  refine s_aload_n 0 dX6_numberOfRow_5 rfl rfl ?_
  refine s_geti (s0 := 0) dX6_numberOfRow_6 fl_X6_40 ?_
  refine s_icmp_ge (tgt := 30) dX6_numberOfRow_9 (by decide) ?_ ?_
  ·
    refine s_sub [1] rfl ?_
    exact hK l1 h
  ·
    refine s_iload_n 1 dX6_numberOfRow_12 rfl rfl ?_
    refine s_bipush (v := 10) dX6_numberOfRow_13 rfl ?_
    refine s_imul dX6_numberOfRow_15 ?_
    refine s_aload_n 0 dX6_numberOfRow_16 rfl rfl ?_
    refine s_getr (s0 := 0) dX6_numberOfRow_17 fl_X6_27 ?_
    refine s_iload_n 2 dX6_numberOfRow_20 rfl rfl ?_
    refine s_iald (s0 := 0) ka_27 dX6_numberOfRow_21 ?_
    refine s_iadd dX6_numberOfRow_22 ?_
    refine s_leti (fun x1 => ?_)
    refine s_istore_n (ls' := [(1, .int x1), (0, rv g 4 0), (2, .int l2)]) dX6_numberOfRow_23 rfl (by decide) rfl ?_
    refine s_iincl 2 (w := 1) (fun x2 => [(2, .int x2), (1, .int x1), (0, rv g 4 0)]) dX6_numberOfRow_24 rfl rfl (by decide) (fun _ => rfl) (fun x2 => ?_)
    refine s_goto (tgt := 4) dX6_numberOfRow_27 (by decide) ?_
    refine s_sub [2, 1, 0] rfl ?_
    exact hrec x1 x2 h
set_option maxHeartbeats 4000000 in
set_option maxRecDepth 100000 in
theorem cX6_numberOfRow_ok (g : GE) (h : Hp) : Con cvi 0 g mX6_numberOfRow 2 [rv g 4 0] h (fX6_numberOfRow h) := by
  refine Con.of (by decide +kernel) (Nat.le_of_ble_eq_true rfl) ?_
  show Sim cvi 0 g mX6_numberOfRow 2 0 [(0, rv g 4 0)] [] h _
  unfold fX6_numberOfRow
  refine s_iconst (v := 1) dX6_numberOfRow_0 rfl ?_
  refine s_istore_n (ls' := [(1, .int 1), (0, rv g 4 0)]) dX6_numberOfRow_1 rfl (by decide) rfl ?_
  refine s_iconst (v := 0) dX6_numberOfRow_2 rfl ?_
  refine s_istore_n (ls' := [(2, .int 0), (1, .int 1), (0, rv g 4 0)]) dX6_numberOfRow_3 rfl (by decide) rfl ?_
  refine s_sub (ls' := [(0, rv g 4 0), (1, .int 1), (2, .int 0)]) [2, 1, 0] rfl ?_
  refine sX6_numberOfRow_l4 g _ (fun y3 h4 => ?_) FU 1 0 h
  refine s_iload_n 0 dX6_numberOfRow_30 rfl rfl ?_
  exact s_iret rfl dX6_numberOfRow_31
def fX6_spell_l17 (l4 : Int32) (K : Hp → Option (Unit × Hp)) (rec : Int32 → Int32 → Hp → Option (Unit × Hp)) (l3 l5 : Int32) (h : Hp) : Option (Unit × Hp) :=
  if l5 < 0 then (K h)
  else (ck (!decide (l4 = 0)) (
  ck (ib l5 4) (lt (wa h 27 0 l5 (irm l3 l4)) fun h3 =>
  ck (!decide (l4 = 0)) (
  lt (l3 / l4) fun x4 =>
  lt (l5 + (-1)) fun x5 =>
  rec x4 x5 h3))))
def fX6_spell (l1 : Int32) (l2 : Int32) (h : Hp) : Option (Unit × Hp) :=
  lt (if 1 < l2 then l2 else 1) fun x1 =>
  lt ((rd h 4 0 9) - (1 : Int32)) fun x2 =>
  itr2 (fX6_spell_l17 x1 (fun h6 => some ((), h6))) FU l1 x2 h
set_option maxHeartbeats 4000000 in
set_option maxRecDepth 100000 in
theorem sX6_spell_l17 (g : GE) (l4 : Int32) (K : Hp → Option (Unit × Hp)) (hK : ∀ (h : Hp), Sim cvv 0 g mX6_spell 2 44 [] [] h (K  h)) : ∀ (n : Nat) (l3 l5 : Int32) (h : Hp), Sim cvv 0 g mX6_spell 2 17 [(0, rv g 4 0), (3, .int l3), (4, .int l4), (5, .int l5)] [] h (itr2 (fX6_spell_l17 l4 K) n l3 l5 h) := by
  refine s_itr2 (fun l3 l5 h o => Sim cvv 0 g mX6_spell 2 17 [(0, rv g 4 0), (3, .int l3), (4, .int l4), (5, .int l5)] [] h o) (fun _ _ _ => s_none) ?_
  intro rec hrec l3 l5 h
  unfold fX6_spell_l17
  refine s_iload 3 dX6_spell_17 rfl ?_
  refine s_if_lt (tgt := 44) dX6_spell_19 (by decide) ?_ ?_
  ·
    refine s_sub [] rfl ?_
    exact hK h
  ·
    refine s_aload_n 0 dX6_spell_22 rfl rfl ?_
    refine s_getr (s0 := 0) dX6_spell_23 fl_X6_27 ?_
    refine s_iload 3 dX6_spell_26 rfl ?_
    refine s_iload_n 1 dX6_spell_28 rfl rfl ?_
    refine s_iload 2 dX6_spell_29 rfl ?_
    refine s_irem dX6_spell_31 ?_
    refine s_iast (s0 := 0) ka_27 dX6_spell_32 (fun h3 => ?_)
    refine s_iload_n 1 dX6_spell_33 rfl rfl ?_
    refine s_iload 2 dX6_spell_34 rfl ?_
    refine s_idiv dX6_spell_36 ?_
    refine s_leti (fun x4 => ?_)
    refine s_istore_n (ls' := [(3, .int x4), (0, rv g 4 0), (4, .int l4), (5, .int l5)]) dX6_spell_37 rfl (by decide) rfl ?_
    refine s_iincl 3 (w := (-1)) (fun x5 => [(5, .int x5), (3, .int x4), (0, rv g 4 0), (4, .int l4)]) dX6_spell_38 rfl rfl (by decide) (fun _ => rfl) (fun x5 => ?_)
    refine s_goto (tgt := 17) dX6_spell_41 (by decide) ?_
    refine s_sub [2, 1, 3, 0] rfl ?_
    exact hrec x4 x5 h3
set_option maxHeartbeats 4000000 in
set_option maxRecDepth 100000 in
theorem cX6_spell_ok (g : GE) (l1 : Int32) (l2 : Int32) (h : Hp) : Con cvv 0 g mX6_spell 2 [rv g 4 0, .int l1, .int l2] h (fX6_spell l1 l2 h) := by
  refine Con.of (by decide +kernel) (Nat.le_of_ble_eq_true rfl) ?_
  show Sim cvv 0 g mX6_spell 2 0 [(0, rv g 4 0), (1, .int l1), (2, .int l2)] [] h _
  unfold fX6_spell
  refine s_iload_n 1 dX6_spell_0 rfl rfl ?_
  refine s_istore_n (ls' := [(3, .int l1), (0, rv g 4 0), (1, .int l1), (2, .int l2)]) dX6_spell_1 rfl (by decide) rfl ?_
  refine s_iconst (v := 1) dX6_spell_2 rfl ?_
  refine s_iload_n 3 dX6_spell_3 rfl rfl ?_
  refine s_mmax w_5_37 mw_max (Nat.le_of_ble_eq_true rfl) (Nat.le_of_ble_eq_true rfl) dX6_spell_4 ?_
  refine s_leti (fun x1 => ?_)
  refine s_istore (ls' := [(4, .int x1), (3, .int l1), (0, rv g 4 0), (1, .int l1), (2, .int l2)]) dX6_spell_7 (by decide) rfl ?_
  refine s_aload_n 2 dX6_spell_9 rfl rfl ?_
  refine s_geti (s0 := 0) dX6_spell_10 fl_X6_40 ?_
  refine s_iconst (v := 1) dX6_spell_13 rfl ?_
  refine s_isub dX6_spell_14 ?_
  refine s_leti (fun x2 => ?_)
  refine s_istore (ls' := [(5, .int x2), (4, .int x1), (3, .int l1), (0, rv g 4 0), (1, .int l1), (2, .int l2)]) dX6_spell_15 (by decide) rfl ?_
  refine s_sub (ls' := [(0, rv g 4 0), (3, .int l1), (4, .int x1), (5, .int x2)]) [3, 2, 1, 0] rfl ?_
  refine sX6_spell_l17 g x1 _ (fun h6 => ?_) FU l1 x2 h
  exact s_vret rfl dX6_spell_44
def fX6_takeIn_l31 (l3 : Int32) (K : Hp → Option (Unit × Hp)) (rec : Int32 → Hp → Option (Unit × Hp)) (l4 : Int32) (h : Hp) : Option (Unit × Hp) :=
  if (21 : Int32) ≤ l4 then (K h)
  else (ck (ib l3 5) (
  if (ra h 29 0 l3) ≤ l4 then (K h)
  else (ck (ib ((l4 * (5 : Int32)) + l3) 105) (
  ck (ib ((l4 * (5 : Int32)) + l3) 105) (lt (wa h 30 0 ((l4 * (5 : Int32)) + l3) ((ra h 30 0 ((l4 * (5 : Int32)) + l3)) + (1 : Int32))) fun h3 =>
  lt (l4 + 1) fun x4 =>
  rec x4 h3)))))
def fX6_takeIn_l4 (a1 : Nat) (K : Int32 → Hp → Option (Unit × Hp)) (rec : Int32 → Int32 → Hp → Option (Unit × Hp)) (l2 l3 : Int32) (h : Hp) : Option (Unit × Hp) :=
  if (rd h 6 a1 2) ≤ l3 then (K l2 h)
  else (ck (ib l3 5) (
  jn (κ := Int32 → Hp → Option (Unit × Hp)) (fun y2_0 h2 => itr1 (fX6_takeIn_l31 l3 (fun h5 => lt (l3 + 1) fun x6 =>
  rec y2_0 x6 h5)) FU 0 h2) fun k28_0 =>
  if (ra h 29 0 l3) ≤ (rd h 4 0 10) then (k28_0 l2 h)
  else (lt (l2 + 1) fun x7 =>
  k28_0 x7 h)))
def fX6_takeIn_l78 (K : Hp → Option (Unit × Hp)) (rec : Int32 → Hp → Option (Unit × Hp)) (l3 : Int32) (h : Hp) : Option (Unit × Hp) :=
  if (rd h 4 0 9) ≤ l3 then (K h)
  else (jn (κ := Int32 → Hp → Option (Unit × Hp)) (fun z0_9 h11 => ck (ib l3 4) (lt (wa h11 28 0 l3 z0_9) fun h12 =>
  lt (l3 + 1) fun x13 =>
  rec x13 h12)) fun k123_9 =>
  jn (κ := Hp → Option (Unit × Hp)) (fun h15 => ck (ib l3 4) (
  k123_9 (ra h15 27 0 l3) h15)) fun k113_13 =>
  if (rd h 4 0 0) = 0 then (k113_13 h)
  else (ck (ib l3 4) (
  ck (ib l3 4) (
  if (ra h 28 0 l3) = (ra h 27 0 l3) then (k113_13 h)
  else (k123_9 (-1) h)))))
def fX6_takeIn (a1 : Nat) (h : Hp) : Option (Unit × Hp) :=
  itr2 (fX6_takeIn_l4 a1 (fun y8 h9 => itr1 (fX6_takeIn_l78 (fun h16 => jn (κ := Int32 → Hp → Option (Unit × Hp)) (fun z0_16 h18 => lt (wr h18 4 0 2 z0_16) fun h19 =>
  lt (if (rd h19 4 0 3) < (rd h19 4 0 10) then (rd h19 4 0 10) else (rd h19 4 0 3)) fun x20 =>
  lt (wr h19 4 0 3 x20) fun h21 =>
  lt (if (rd h21 4 0 4) < y8 then y8 else (rd h21 4 0 4)) fun x22 =>
  lt (wr h21 4 0 4 x22) fun h23 =>
  lt (wr h23 4 0 0 ((rd h23 4 0 0) + (1 : Int32))) fun h24 =>
  some ((), h24)) fun k156_16 =>
  if (rd h16 4 0 0) = 0 then (k156_16 (rd h16 4 0 10) h16)
  else (lt (if (rd h16 4 0 10) < (rd h16 4 0 2) then (rd h16 4 0 10) else (rd h16 4 0 2)) fun x25 =>
  k156_16 x25 h16))) FU 0 h9)) FU 0 0 h
set_option maxHeartbeats 4000000 in
set_option maxRecDepth 100000 in
theorem sX6_takeIn_l31 (g : GE) (a1 : Nat) (l2 : Int32) (l3 : Int32) (K : Hp → Option (Unit × Hp)) (hK : ∀ (h : Hp), Sim cvv 0 g mX6_takeIn 2 70 [(0, rv g 4 0), (1, rv g 6 a1), (2, .int l2), (3, .int l3)] [] h (K  h)) : ∀ (n : Nat) (l4 : Int32) (h : Hp), Sim cvv 0 g mX6_takeIn 2 31 [(0, rv g 4 0), (1, rv g 6 a1), (2, .int l2), (3, .int l3), (4, .int l4)] [] h (itr1 (fX6_takeIn_l31 l3 K) n l4 h) := by
  refine s_itr1 (fun l4 h o => Sim cvv 0 g mX6_takeIn 2 31 [(0, rv g 4 0), (1, rv g 6 a1), (2, .int l2), (3, .int l3), (4, .int l4)] [] h o) (fun _ _ => s_none) ?_
  intro rec hrec l4 h
  unfold fX6_takeIn_l31
  refine s_iload 4 dX6_takeIn_31 rfl ?_
  refine s_bipush (v := 21) dX6_takeIn_33 rfl ?_
  refine s_icmp_ge (tgt := 70) dX6_takeIn_35 (by decide) ?_ ?_
  ·
    refine s_sub [0, 1, 2, 3] rfl ?_
    exact hK h
  ·
    refine s_iload 4 dX6_takeIn_38 rfl ?_
    refine s_aload_n 0 dX6_takeIn_40 rfl rfl ?_
    refine s_getr (s0 := 0) dX6_takeIn_41 fl_X6_34 ?_
    refine s_iload_n 3 dX6_takeIn_44 rfl rfl ?_
    refine s_iald (s0 := 0) ka_29 dX6_takeIn_45 ?_
    refine s_icmp_ge (tgt := 70) dX6_takeIn_46 (by decide) ?_ ?_
    ·
      refine s_sub [0, 1, 2, 3] rfl ?_
      exact hK h
    ·
      refine s_aload_n 0 dX6_takeIn_49 rfl rfl ?_
      refine s_getr (s0 := 0) dX6_takeIn_50 fl_X6_37 ?_
      refine s_iload 4 dX6_takeIn_53 rfl ?_
      refine s_iconst (v := 5) dX6_takeIn_55 rfl ?_
      refine s_imul dX6_takeIn_56 ?_
      refine s_iload_n 3 dX6_takeIn_57 rfl rfl ?_
      refine s_iadd dX6_takeIn_58 ?_
      refine s_dup2 dX6_takeIn_59 rfl rfl ?_
      refine s_iald (s0 := 0) ka_30 dX6_takeIn_60 ?_
      refine s_iconst (v := 1) dX6_takeIn_61 rfl ?_
      refine s_iadd dX6_takeIn_62 ?_
      refine s_iast (s0 := 0) ka_30 dX6_takeIn_63 (fun h3 => ?_)
      refine s_iincl 4 (w := 1) (fun x4 => [(4, .int x4), (0, rv g 4 0), (1, rv g 6 a1), (2, .int l2), (3, .int l3)]) dX6_takeIn_64 rfl rfl (by decide) (fun _ => rfl) (fun x4 => ?_)
      refine s_goto (tgt := 31) dX6_takeIn_67 (by decide) ?_
      refine s_sub [1, 2, 3, 4, 0] rfl ?_
      exact hrec x4 h3
set_option maxHeartbeats 4000000 in
set_option maxRecDepth 100000 in
theorem sX6_takeIn_l4 (g : GE) (a1 : Nat) (K : Int32 → Hp → Option (Unit × Hp)) (hK : ∀ (y2 : Int32) (h : Hp), Sim cvv 0 g mX6_takeIn 2 76 [(0, rv g 4 0), (2, .int y2)] [] h (K y2 h)) : ∀ (n : Nat) (l2 l3 : Int32) (h : Hp), Sim cvv 0 g mX6_takeIn 2 4 [(0, rv g 4 0), (1, rv g 6 a1), (2, .int l2), (3, .int l3)] [] h (itr2 (fX6_takeIn_l4 a1 K) n l2 l3 h) := by
  refine s_itr2 (fun l2 l3 h o => Sim cvv 0 g mX6_takeIn 2 4 [(0, rv g 4 0), (1, rv g 6 a1), (2, .int l2), (3, .int l3)] [] h o) (fun _ _ _ => s_none) ?_
  intro rec hrec l2 l3 h
  unfold fX6_takeIn_l4
  refine s_iload_n 3 dX6_takeIn_4 rfl rfl ?_
  refine s_aload_n 1 dX6_takeIn_5 rfl rfl ?_
  refine s_geti (s0 := a1) dX6_takeIn_6 fl_X6_58 ?_
  refine s_icmp_ge (tgt := 76) dX6_takeIn_9 (by decide) ?_ ?_
  ·
    refine s_sub [0, 2] rfl ?_
    exact hK l2 h
  ·
    refine s_aload_n 0 dX6_takeIn_12 rfl rfl ?_
    refine s_getr (s0 := 0) dX6_takeIn_13 fl_X6_34 ?_
    refine s_iload_n 3 dX6_takeIn_16 rfl rfl ?_
    refine s_iald (s0 := 0) ka_29 dX6_takeIn_17 ?_
    refine s_aload_n 0 dX6_takeIn_18 rfl rfl ?_
    refine s_geti (s0 := 0) dX6_takeIn_19 fl_X6_43 ?_
    refine s_jn (fun (k28_0 : Int32 → Hp → Option (Unit × Hp)) => ∀ (y2_0 : Int32) (h2 : Hp), Sim cvv 0 g mX6_takeIn 2 28 [(0, rv g 4 0), (1, rv g 6 a1), (2, .int y2_0), (3, .int l3)] [] h2 (k28_0 y2_0 h2)) (fun y2_0 h2 => ?_) (fun k28_0 Hk28_0 => ?_)
    ·
      refine s_iconst (v := 0) dX6_takeIn_28 rfl ?_
      refine s_istore (ls' := [(4, .int 0), (0, rv g 4 0), (1, rv g 6 a1), (2, .int y2_0), (3, .int l3)]) dX6_takeIn_29 (by decide) rfl ?_
      refine s_sub (ls' := [(0, rv g 4 0), (1, rv g 6 a1), (2, .int y2_0), (3, .int l3), (4, .int 0)]) [1, 2, 3, 4, 0] rfl ?_
      refine sX6_takeIn_l31 g a1 y2_0 l3 _ (fun h5 => ?_) FU 0 h2
      refine s_iincl 3 (w := 1) (fun x6 => [(3, .int x6), (0, rv g 4 0), (1, rv g 6 a1), (2, .int y2_0)]) dX6_takeIn_70 rfl rfl (by decide) (fun _ => rfl) (fun x6 => ?_)
      refine s_goto (tgt := 4) dX6_takeIn_73 (by decide) ?_
      refine s_sub [1, 2, 3, 0] rfl ?_
      exact hrec y2_0 x6 h5
    refine s_icmp_le (tgt := 28) dX6_takeIn_22 (by decide) ?_ ?_
    ·
      exact Hk28_0 l2 h
    ·
      refine s_iincl 2 (w := 1) (fun x7 => [(2, .int x7), (0, rv g 4 0), (1, rv g 6 a1), (3, .int l3)]) dX6_takeIn_25 rfl rfl (by decide) (fun _ => rfl) (fun x7 => ?_)
      refine s_sub [1, 2, 0, 3] rfl ?_
      exact Hk28_0 x7 h
set_option maxHeartbeats 4000000 in
set_option maxRecDepth 100000 in
theorem sX6_takeIn_l78 (g : GE) (l2 : Int32) (K : Hp → Option (Unit × Hp)) (hK : ∀ (h : Hp), Sim cvv 0 g mX6_takeIn 2 130 [(0, rv g 4 0), (2, .int l2)] [] h (K  h)) : ∀ (n : Nat) (l3 : Int32) (h : Hp), Sim cvv 0 g mX6_takeIn 2 78 [(0, rv g 4 0), (2, .int l2), (3, .int l3)] [] h (itr1 (fX6_takeIn_l78 K) n l3 h) := by
  refine s_itr1 (fun l3 h o => Sim cvv 0 g mX6_takeIn 2 78 [(0, rv g 4 0), (2, .int l2), (3, .int l3)] [] h o) (fun _ _ => s_none) ?_
  intro rec hrec l3 h
  unfold fX6_takeIn_l78
  refine s_iload_n 2 dX6_takeIn_78 rfl rfl ?_
  refine s_aload_n 0 dX6_takeIn_79 rfl rfl ?_
  refine s_geti (s0 := 0) dX6_takeIn_80 fl_X6_40 ?_
  refine s_icmp_ge (tgt := 130) dX6_takeIn_83 (by decide) ?_ ?_
  ·
    refine s_sub [0, 1] rfl ?_
    exact hK h
  ·
    refine s_aload_n 0 dX6_takeIn_86 rfl rfl ?_
    refine s_getr (s0 := 0) dX6_takeIn_87 fl_X6_31 ?_
    refine s_iload_n 2 dX6_takeIn_90 rfl rfl ?_
    refine s_aload_n 0 dX6_takeIn_91 rfl rfl ?_
    refine s_geti (s0 := 0) dX6_takeIn_92 fl_X6_9 ?_
    refine s_jn (fun (k123_9 : Int32 → Hp → Option (Unit × Hp)) => ∀ (z0_9 : Int32) (h11 : Hp), Sim cvv 0 g mX6_takeIn 2 123 [(0, rv g 4 0), (2, .int l2), (3, .int l3)] [.int z0_9, .int l3, rv g 28 0] h11 (k123_9 z0_9 h11)) (fun z0_9 h11 => ?_) (fun k123_9 Hk123_9 => ?_)
    ·
      refine s_iast (s0 := 0) ka_28 dX6_takeIn_123 (fun h12 => ?_)
      refine s_iincl 2 (w := 1) (fun x13 => [(3, .int x13), (0, rv g 4 0), (2, .int l2)]) dX6_takeIn_124 rfl rfl (by decide) (fun _ => rfl) (fun x13 => ?_)
      refine s_goto (tgt := 78) dX6_takeIn_127 (by decide) ?_
      refine s_sub [1, 2, 0] rfl ?_
      exact hrec x13 h12
    refine s_jn (fun (k113_13 : Hp → Option (Unit × Hp)) => ∀ (h15 : Hp), Sim cvv 0 g mX6_takeIn 2 113 [(0, rv g 4 0), (2, .int l2), (3, .int l3)] [.int l3, rv g 28 0] h15 (k113_13 h15)) (fun h15 => ?_) (fun k113_13 Hk113_13 => ?_)
    ·
      refine s_aload_n 0 dX6_takeIn_113 rfl rfl ?_
      refine s_getr (s0 := 0) dX6_takeIn_114 fl_X6_27 ?_
      refine s_iload_n 2 dX6_takeIn_117 rfl rfl ?_
      refine s_iald (s0 := 0) ka_27 dX6_takeIn_118 ?_
      refine s_goto (tgt := 123) dX6_takeIn_119 (by decide) ?_
      exact Hk123_9 (ra h15 27 0 l3) h15
    refine s_if_eq (tgt := 113) dX6_takeIn_95 (by decide) ?_ ?_
    ·
      exact Hk113_13 h
    ·
      refine s_aload_n 0 dX6_takeIn_98 rfl rfl ?_
      refine s_getr (s0 := 0) dX6_takeIn_99 fl_X6_31 ?_
      refine s_iload_n 2 dX6_takeIn_102 rfl rfl ?_
      refine s_iald (s0 := 0) ka_28 dX6_takeIn_103 ?_
      refine s_aload_n 0 dX6_takeIn_104 rfl rfl ?_
      refine s_getr (s0 := 0) dX6_takeIn_105 fl_X6_27 ?_
      refine s_iload_n 2 dX6_takeIn_108 rfl rfl ?_
      refine s_iald (s0 := 0) ka_27 dX6_takeIn_109 ?_
      refine s_icmp_ne (tgt := 122) dX6_takeIn_110 (by decide) ?_ ?_
      ·
        exact Hk113_13 h
      ·
        refine s_iconst (v := (-1)) dX6_takeIn_122 rfl ?_
        exact Hk123_9 (-1) h
set_option maxHeartbeats 4000000 in
set_option maxRecDepth 100000 in
theorem cX6_takeIn_ok (g : GE) (a1 : Nat) (h : Hp) : Con cvv 0 g mX6_takeIn 2 [rv g 4 0, rv g 6 a1] h (fX6_takeIn a1 h) := by
  refine Con.of (by decide +kernel) (Nat.le_of_ble_eq_true rfl) ?_
  show Sim cvv 0 g mX6_takeIn 2 0 [(0, rv g 4 0), (1, rv g 6 a1)] [] h _
  unfold fX6_takeIn
  refine s_iconst (v := 0) dX6_takeIn_0 rfl ?_
  refine s_istore_n (ls' := [(2, .int 0), (0, rv g 4 0), (1, rv g 6 a1)]) dX6_takeIn_1 rfl (by decide) rfl ?_
  refine s_iconst (v := 0) dX6_takeIn_2 rfl ?_
  refine s_istore_n (ls' := [(3, .int 0), (2, .int 0), (0, rv g 4 0), (1, rv g 6 a1)]) dX6_takeIn_3 rfl (by decide) rfl ?_
  refine s_sub (ls' := [(0, rv g 4 0), (1, rv g 6 a1), (2, .int 0), (3, .int 0)]) [2, 3, 1, 0] rfl ?_
  refine sX6_takeIn_l4 g a1 _ (fun y8 h9 => ?_) FU 0 0 h
  refine s_iconst (v := 0) dX6_takeIn_76 rfl ?_
  refine s_istore_n (ls' := [(3, .int 0), (0, rv g 4 0), (2, .int y8)]) dX6_takeIn_77 rfl (by decide) rfl ?_
  refine s_sub (ls' := [(0, rv g 4 0), (2, .int y8), (3, .int 0)]) [1, 2, 0] rfl ?_
  refine sX6_takeIn_l78 g y8 _ (fun h16 => ?_) FU 0 h9
  refine s_aload_n 0 dX6_takeIn_130 rfl rfl ?_
  refine s_aload_n 0 dX6_takeIn_131 rfl rfl ?_
  refine s_geti (s0 := 0) dX6_takeIn_132 fl_X6_9 ?_
  refine s_jn (fun (k156_16 : Int32 → Hp → Option (Unit × Hp)) => ∀ (z0_16 : Int32) (h18 : Hp), Sim cvv 0 g mX6_takeIn 2 156 [(0, rv g 4 0), (2, .int y8)] [.int z0_16, rv g 4 0] h18 (k156_16 z0_16 h18)) (fun z0_16 h18 => ?_) (fun k156_16 Hk156_16 => ?_)
  ·
    refine s_puti (s0 := 0) dX6_takeIn_156 fl_X6_18 (fun h19 => ?_)
    refine s_aload_n 0 dX6_takeIn_159 rfl rfl ?_
    refine s_aload_n 0 dX6_takeIn_160 rfl rfl ?_
    refine s_geti (s0 := 0) dX6_takeIn_161 fl_X6_21 ?_
    refine s_aload_n 0 dX6_takeIn_164 rfl rfl ?_
    refine s_geti (s0 := 0) dX6_takeIn_165 fl_X6_43 ?_
    refine s_mmax w_5_37 mw_max (Nat.le_of_ble_eq_true rfl) (Nat.le_of_ble_eq_true rfl) dX6_takeIn_168 ?_
    refine s_leti (fun x20 => ?_)
    refine s_puti (s0 := 0) dX6_takeIn_171 fl_X6_21 (fun h21 => ?_)
    refine s_aload_n 0 dX6_takeIn_174 rfl rfl ?_
    refine s_aload_n 0 dX6_takeIn_175 rfl rfl ?_
    refine s_geti (s0 := 0) dX6_takeIn_176 fl_X6_24 ?_
    refine s_iload_n 1 dX6_takeIn_179 rfl rfl ?_
    refine s_mmax w_5_37 mw_max (Nat.le_of_ble_eq_true rfl) (Nat.le_of_ble_eq_true rfl) dX6_takeIn_180 ?_
    refine s_leti (fun x22 => ?_)
    refine s_puti (s0 := 0) dX6_takeIn_183 fl_X6_24 (fun h23 => ?_)
    refine s_aload_n 0 dX6_takeIn_186 rfl rfl ?_
    refine s_dup dX6_takeIn_187 rfl ?_
    refine s_geti (s0 := 0) dX6_takeIn_188 fl_X6_9 ?_
    refine s_iconst (v := 1) dX6_takeIn_191 rfl ?_
    refine s_iadd dX6_takeIn_192 ?_
    refine s_puti (s0 := 0) dX6_takeIn_193 fl_X6_9 (fun h24 => ?_)
    exact s_vret rfl dX6_takeIn_196
  refine s_if_ne (tgt := 145) dX6_takeIn_135 (by decide) ?_ ?_
  ·
    refine s_aload_n 0 dX6_takeIn_138 rfl rfl ?_
    refine s_geti (s0 := 0) dX6_takeIn_139 fl_X6_43 ?_
    refine s_goto (tgt := 156) dX6_takeIn_142 (by decide) ?_
    exact Hk156_16 (rd h16 4 0 10) h16
  ·
    refine s_aload_n 0 dX6_takeIn_145 rfl rfl ?_
    refine s_geti (s0 := 0) dX6_takeIn_146 fl_X6_18 ?_
    refine s_aload_n 0 dX6_takeIn_149 rfl rfl ?_
    refine s_geti (s0 := 0) dX6_takeIn_150 fl_X6_43 ?_
    refine s_mmin w_5_31 mw_min (Nat.le_of_ble_eq_true rfl) (Nat.le_of_ble_eq_true rfl) dX6_takeIn_153 ?_
    refine s_leti (fun x25 => ?_)
    exact Hk156_16 x25 h16
def fX6_tally_l32 (a1 : Nat) (a2 : Nat) (l3 : Int32) (l4 : Int32) (K : Hp → Option (Unit × Hp)) (rec : Int32 → Hp → Option (Unit × Hp)) (l5 : Int32) (h : Hp) : Option (Unit × Hp) :=
  if l4 ≤ l5 then (K h)
  else (bnd (fX6_spell l5 (rd h 6 a1 2) h) fun _ h6 =>
  bnd (fX6_makeRuns a1 h6) fun x8 h7 =>
  jn (κ := Hp → Option (Unit × Hp)) (fun h10 => lt (l5 + 1) fun x11 =>
  rec x11 h10) fun k87_8 =>
  if x8 = 0 then (k87_8 h7)
  else (bnd (fX6_isTrue a1 a2 h7) fun x13 h12 =>
  if x13 = 0 then (k87_8 h12)
  else (jn (κ := Hp → Option (Unit × Hp)) (fun h15 => bnd (fX6_takeIn a1 h15) fun _ h16 =>
  k87_8 h16) fun k82_13 =>
  if (rd h12 4 0 0) = l3 then (bnd (fX6_numberOfRow h12) fun x18 h17 =>
  lt (wr h17 4 0 1 x18) fun h19 =>
  k82_13 h19)
  else (k82_13 h12))))
def fX6_tally (a1 : Nat) (a2 : Nat) (l3 : Int32) (h : Hp) : Option (Unit × Hp) :=
  bnd (fX6_clear h) fun _ h1 =>
  lt (if 4 < (rd h1 1 a2 0) then 4 else (rd h1 1 a2 0)) fun x2 =>
  lt (wr h1 4 0 9 x2) fun h3 =>
  bnd (fX11_power (rd h3 6 a1 2) (rd h3 4 0 9) h3) fun x5 h4 =>
  itr1 (fX6_tally_l32 a1 a2 l3 x5 (fun h20 => some ((), h20))) FU 0 h4
set_option maxHeartbeats 4000000 in
set_option maxRecDepth 100000 in
theorem sX6_tally_l32 (g : GE) (a1 : Nat) (a2 : Nat) (l3 : Int32) (l4 : Int32) (K : Hp → Option (Unit × Hp)) (hK : ∀ (h : Hp), Sim cvv 0 g mX6_tally 4 93 [] [] h (K  h)) : ∀ (n : Nat) (l5 : Int32) (h : Hp), Sim cvv 0 g mX6_tally 4 32 [(0, rv g 4 0), (1, rv g 6 a1), (2, rv g 1 a2), (3, .int l3), (4, .int l4), (5, .int l5)] [] h (itr1 (fX6_tally_l32 a1 a2 l3 l4 K) n l5 h) := by
  refine s_itr1 (fun l5 h o => Sim cvv 0 g mX6_tally 4 32 [(0, rv g 4 0), (1, rv g 6 a1), (2, rv g 1 a2), (3, .int l3), (4, .int l4), (5, .int l5)] [] h o) (fun _ _ => s_none) ?_
  intro rec hrec l5 h
  unfold fX6_tally_l32
  refine s_iload 5 dX6_tally_32 rfl ?_
  refine s_iload 4 dX6_tally_34 rfl ?_
  refine s_icmp_ge (tgt := 93) dX6_tally_36 (by decide) ?_ ?_
  ·
    refine s_sub [] rfl ?_
    exact hK h
  ·
    refine s_aload_n 0 dX6_tally_39 rfl rfl ?_
    refine s_iload 5 dX6_tally_40 rfl ?_
    refine s_aload_n 1 dX6_tally_42 rfl rfl ?_
    refine s_geti (s0 := a1) dX6_tally_43 fl_X6_58 ?_
    refine s_callVv (s0 := 0) (As := [.int l5, .int (rd h 6 a1 2)]) (rest := []) (cX6_spell_ok g l5 (rd h 6 a1 2) h) vl_X6_66 rfl (Nat.le_of_ble_eq_true rfl) (Nat.le_of_ble_eq_true rfl) dX6_tally_46 rfl (fun h6 => ?_)
    refine s_aload_n 0 dX6_tally_49 rfl rfl ?_
    refine s_aload_n 1 dX6_tally_50 rfl rfl ?_
    refine s_callVi (s0 := 0) (As := [rv g 6 a1]) (rest := []) (cX6_makeRuns_ok g a1 h6) vl_X6_70 rfl (Nat.le_of_ble_eq_true rfl) (Nat.le_of_ble_eq_true rfl) dX6_tally_51 rfl (fun x8 h7 => ?_)
    refine s_jn (fun (k87_8 : Hp → Option (Unit × Hp)) => ∀ (h10 : Hp), Sim cvv 0 g mX6_tally 4 87 [(0, rv g 4 0), (1, rv g 6 a1), (2, rv g 1 a2), (3, .int l3), (4, .int l4), (5, .int l5)] [] h10 (k87_8 h10)) (fun h10 => ?_) (fun k87_8 Hk87_8 => ?_)
    ·
      refine s_iincl 5 (w := 1) (fun x11 => [(5, .int x11), (0, rv g 4 0), (1, rv g 6 a1), (2, rv g 1 a2), (3, .int l3), (4, .int l4)]) dX6_tally_87 rfl rfl (by decide) (fun _ => rfl) (fun x11 => ?_)
      refine s_goto (tgt := 32) dX6_tally_90 (by decide) ?_
      refine s_sub [1, 2, 3, 4, 5, 0] rfl ?_
      exact hrec x11 h10
    refine s_if_eq (tgt := 87) dX6_tally_54 (by decide) ?_ ?_
    ·
      exact Hk87_8 h7
    ·
      refine s_aload_n 0 dX6_tally_57 rfl rfl ?_
      refine s_aload_n 1 dX6_tally_58 rfl rfl ?_
      refine s_aload_n 2 dX6_tally_59 rfl rfl ?_
      refine s_callVi (s0 := 0) (As := [rv g 6 a1, rv g 1 a2]) (rest := []) (cX6_isTrue_ok g a1 a2 h7) vl_X6_74 rfl (Nat.le_of_ble_eq_true rfl) (Nat.le_of_ble_eq_true rfl) dX6_tally_60 rfl (fun x13 h12 => ?_)
      refine s_if_eq (tgt := 87) dX6_tally_63 (by decide) ?_ ?_
      ·
        exact Hk87_8 h12
      ·
        refine s_aload_n 0 dX6_tally_66 rfl rfl ?_
        refine s_geti (s0 := 0) dX6_tally_67 fl_X6_9 ?_
        refine s_iload_n 3 dX6_tally_70 rfl rfl ?_
        refine s_jn (fun (k82_13 : Hp → Option (Unit × Hp)) => ∀ (h15 : Hp), Sim cvv 0 g mX6_tally 4 82 [(0, rv g 4 0), (1, rv g 6 a1), (2, rv g 1 a2), (3, .int l3), (4, .int l4), (5, .int l5)] [] h15 (k82_13 h15)) (fun h15 => ?_) (fun k82_13 Hk82_13 => ?_)
        ·
          refine s_aload_n 0 dX6_tally_82 rfl rfl ?_
          refine s_aload_n 1 dX6_tally_83 rfl rfl ?_
          refine s_callVv (s0 := 0) (As := [rv g 6 a1]) (rest := []) (cX6_takeIn_ok g a1 h15) vl_X6_82 rfl (Nat.le_of_ble_eq_true rfl) (Nat.le_of_ble_eq_true rfl) dX6_tally_84 rfl (fun h16 => ?_)
          exact Hk87_8 h16
        refine s_icmp_ne (tgt := 82) dX6_tally_71 (by decide) ?_ ?_
        ·
          refine s_aload_n 0 dX6_tally_74 rfl rfl ?_
          refine s_aload_n 0 dX6_tally_75 rfl rfl ?_
          refine s_callVi (s0 := 0) (As := []) (rest := [rv g 4 0]) (cX6_numberOfRow_ok g h12) vl_X6_78 rfl (Nat.le_of_ble_eq_true rfl) (Nat.le_of_ble_eq_true rfl) dX6_tally_76 rfl (fun x18 h17 => ?_)
          refine s_puti (s0 := 0) dX6_tally_79 fl_X6_15 (fun h19 => ?_)
          exact Hk82_13 h19
        ·
          exact Hk82_13 h12
set_option maxHeartbeats 4000000 in
set_option maxRecDepth 100000 in
theorem cX6_tally_ok (g : GE) (a1 : Nat) (a2 : Nat) (l3 : Int32) (h : Hp) : Con cvv 0 g mX6_tally 4 [rv g 4 0, rv g 6 a1, rv g 1 a2, .int l3] h (fX6_tally a1 a2 l3 h) := by
  refine Con.of (by decide +kernel) (Nat.le_of_ble_eq_true rfl) ?_
  show Sim cvv 0 g mX6_tally 4 0 [(0, rv g 4 0), (1, rv g 6 a1), (2, rv g 1 a2), (3, .int l3)] [] h _
  unfold fX6_tally
  refine s_aload_n 0 dX6_tally_0 rfl rfl ?_
  refine s_callVv (s0 := 0) (As := []) (rest := []) (cX6_clear_ok g h) vl_X6_46 rfl (Nat.le_of_ble_eq_true rfl) (Nat.le_of_ble_eq_true rfl) dX6_tally_1 rfl (fun h1 => ?_)
  refine s_aload_n 0 dX6_tally_4 rfl rfl ?_
  refine s_aload_n 2 dX6_tally_5 rfl rfl ?_
  refine s_geti (s0 := a2) dX6_tally_6 fl_X6_49 ?_
  refine s_iconst (v := 4) dX6_tally_9 rfl ?_
  refine s_mmin w_5_31 mw_min (Nat.le_of_ble_eq_true rfl) (Nat.le_of_ble_eq_true rfl) dX6_tally_10 ?_
  refine s_leti (fun x2 => ?_)
  refine s_puti (s0 := 0) dX6_tally_13 fl_X6_40 (fun h3 => ?_)
  refine s_aload_n 1 dX6_tally_16 rfl rfl ?_
  refine s_geti (s0 := a1) dX6_tally_17 fl_X6_58 ?_
  refine s_aload_n 0 dX6_tally_20 rfl rfl ?_
  refine s_geti (s0 := 0) dX6_tally_21 fl_X6_40 ?_
  refine s_callNi (As := [.int (rd h3 6 a1 2), .int (rd h3 4 0 9)]) (rest := []) (cX11_power_ok g (rd h3 6 a1 2) (rd h3 4 0 9) h3) nl_X6_63 rfl (Nat.le_of_ble_eq_true rfl) (Nat.le_of_ble_eq_true rfl) dX6_tally_24 rfl (fun x5 h4 => ?_)
  refine s_istore (ls' := [(4, .int x5), (0, rv g 4 0), (1, rv g 6 a1), (2, rv g 1 a2), (3, .int l3)]) dX6_tally_27 (by decide) rfl ?_
  refine s_iconst (v := 0) dX6_tally_29 rfl ?_
  refine s_istore (ls' := [(5, .int 0), (4, .int x5), (0, rv g 4 0), (1, rv g 6 a1), (2, rv g 1 a2), (3, .int l3)]) dX6_tally_30 (by decide) rfl ?_
  refine s_sub (ls' := [(0, rv g 4 0), (1, rv g 6 a1), (2, rv g 1 a2), (3, .int l3), (4, .int x5), (5, .int 0)]) [2, 3, 4, 5, 1, 0] rfl ?_
  refine sX6_tally_l32 g a1 a2 l3 x5 _ (fun h20 => ?_) FU 0 h4
  exact s_vret rfl dX6_tally_93
def fX9_logAt (a0 : Nat) (l1 : Int32) (h : Hp) : Option ((Option Nat) × Hp) :=
  jn (κ := Hp → Option ((Option Nat) × Hp)) (fun h2 => some (none, h2)) fun k32_0 =>
  if l1 < 0 then (k32_0 h)
  else (ck (ib 2 3) (
  if (ra h 37 a0 2) ≤ l1 then (k32_0 h)
  else (if (2 : Int32) ≤ l1 then (k32_0 h)
  else (ck (ib l1 2) (
  some ((some (2 * (a0 % cnt 40) + 1 * l1.toNatClampNeg + 0)), h))))))
set_option maxHeartbeats 4000000 in
set_option maxRecDepth 100000 in
theorem cX9_logAt_ok (g : GE) (a0 : Nat) (l1 : Int32) (h : Hp) : Con (cvr g 1) 0 g mX9_logAt 2 [rv g 7 a0, .int l1] h (fX9_logAt a0 l1 h) := by
  refine Con.of (by decide +kernel) (Nat.le_of_ble_eq_true rfl) ?_
  show Sim (cvr g 1) 0 g mX9_logAt 2 0 [(0, rv g 7 a0), (1, .int l1)] [] h _
  unfold fX9_logAt
  refine s_iload_n 1 dX9_logAt_0 rfl rfl ?_
  refine s_jn (fun (k32_0 : Hp → Option ((Option Nat) × Hp)) => ∀ (h2 : Hp), Sim (cvr g 1) 0 g mX9_logAt 2 32 [] [] h2 (k32_0 h2)) (fun h2 => ?_) (fun k32_0 Hk32_0 => ?_)
  ·
    refine s_nullq (kd := 1) dX9_logAt_32 ?_
    exact s_aret (q := none) rfl (Or.inl ⟨_, rfl⟩) dX9_logAt_33
  refine s_if_lt (tgt := 32) dX9_logAt_1 (by decide) ?_ ?_
  ·
    refine s_sub [] rfl ?_
    exact Hk32_0 h
  ·
    refine s_iload_n 1 dX9_logAt_4 rfl rfl ?_
    refine s_aload_n 0 dX9_logAt_5 rfl rfl ?_
    refine s_getr1 (k2 := 37) (s0 := a0) rfl dX9_logAt_6 fl_X9_25 ?_
    refine s_iconst (v := 2) dX9_logAt_9 rfl ?_
    refine s_iald (s0 := a0) ka_37 dX9_logAt_10 ?_
    refine s_icmp_ge (tgt := 32) dX9_logAt_11 (by decide) ?_ ?_
    ·
      refine s_sub [] rfl ?_
      exact Hk32_0 h
    ·
      refine s_iload_n 1 dX9_logAt_14 rfl rfl ?_
      refine s_aload_n 0 dX9_logAt_15 rfl rfl ?_
      refine s_getr1 (k2 := 40) (s0 := a0) rfl dX9_logAt_16 fl_X9_43 ?_
      refine s_ralen6 (v := 2) kr_40 rfl dX9_logAt_19 ?_
      refine s_icmp_ge (tgt := 32) dX9_logAt_20 (by decide) ?_ ?_
      ·
        refine s_sub [] rfl ?_
        exact Hk32_0 h
      ·
        refine s_aload_n 0 dX9_logAt_23 rfl rfl ?_
        refine s_getr1 (k2 := 40) (s0 := a0) rfl dX9_logAt_24 fl_X9_43 ?_
        refine s_iload_n 1 dX9_logAt_27 rfl rfl ?_
        refine s_aald6 (s0 := a0) kr_40 dX9_logAt_28 ?_
        refine s_goto (tgt := 33) dX9_logAt_29 (by decide) ?_
        exact s_aret (q := (some (2 * (a0 % cnt 40) + 1 * l1.toNatClampNeg + 0))) rfl (Or.inl ⟨_, rfl⟩) dX9_logAt_33
def fX11_fits (l1 : Int32) (l2 : Int32) (l3 : Int32) (h : Hp) : Option (Int32 × Hp) :=
  bnd (fX9_stageAt 0 l1 h) fun x2 h1 =>
  bnd (fX9_logAt 0 l2 h1) fun x4 h3 =>
  nl x2 (some ((-2), h3))
  fun b5 => (nl x4 (some ((-2), h3))
  fun b6 => (if (0 : Int32) ≤ l3 then (jn (κ := Hp → Option (Int32 × Hp)) (fun h8 => bnd (fX6_tally b5 b6 (l3 - (10 : Int32)) h8) fun _ h9 =>
  if l3 = 0 then (some (rd h9 4 0 0, h9))
  else (if l3 = 1 then (bnd (fX6_bestQuestion (rd h9 6 b5 2) h9) fun x11 h10 =>
  some (x11, h10))
  else (if (10 : Int32) ≤ l3 then (some (rd h9 4 0 1, h9))
  else (bnd (fX6_sureRun (l3 - (2 : Int32)) h9) fun x13 h12 =>
  some (x13, h12))))) fun k51_6 =>
  if l3 ≤ 5 then (k51_6 h3)
  else (if (10 : Int32) ≤ l3 then (k51_6 h3)
  else (some ((-2), h3))))
  else (some ((-2), h3))))
set_option maxHeartbeats 4000000 in
set_option maxRecDepth 100000 in
theorem cX11_fits_ok (g : GE) (l1 : Int32) (l2 : Int32) (l3 : Int32) (h : Hp) : Con cvi 0 g mX11_fits 5 [rv g 9 0, .int l1, .int l2, .int l3] h (fX11_fits l1 l2 l3 h) := by
  refine Con.of (by decide +kernel) (Nat.le_of_ble_eq_true rfl) ?_
  show Sim cvi 0 g mX11_fits 5 0 [(0, rv g 9 0), (1, .int l1), (2, .int l2), (3, .int l3)] [] h _
  unfold fX11_fits
  refine s_aload_n 0 dX11_fits_0 rfl rfl ?_
  refine s_getr (s0 := 0) dX11_fits_1 fl_X11_10 ?_
  refine s_iload_n 1 dX11_fits_4 rfl rfl ?_
  refine s_callVq (s0 := 0) (As := [.int l1]) (rest := []) (cX9_stageAt_ok g 0 l1 h) vl_X11_85 rfl (Nat.le_of_ble_eq_true rfl) (Nat.le_of_ble_eq_true rfl) dX11_fits_5 rfl (fun x2 h1 => ?_)
  refine s_astoreq (ls' := [(4, rq g 6 x2), (0, rv g 9 0), (1, .int l1), (2, .int l2), (3, .int l3)]) dX11_fits_8 (by decide) (List.forall_mem_cons.mpr ⟨rfl, (List.forall_mem_cons.mpr ⟨rfl, (List.forall_mem_cons.mpr ⟨rfl, (List.forall_mem_cons.mpr ⟨rfl, (fun _ h => absurd h List.not_mem_nil)⟩)⟩)⟩)⟩) rfl ?_
  refine s_aload_n 1 dX11_fits_10 rfl rfl ?_
  refine s_getr (s0 := 0) dX11_fits_11 fl_X11_10 ?_
  refine s_iload_n 3 dX11_fits_14 rfl rfl ?_
  refine s_callVq (s0 := 0) (As := [.int l2]) (rest := []) (cX9_logAt_ok g 0 l2 h1) vl_X11_214 rfl (Nat.le_of_ble_eq_true rfl) (Nat.le_of_ble_eq_true rfl) dX11_fits_15 rfl (fun x4 h3 => ?_)
  refine s_astoreq (ls' := [(5, rq g 1 x4), (4, rq g 6 x2), (0, rv g 9 0), (1, .int l1), (2, .int l2), (3, .int l3)]) dX11_fits_18 (by decide) (List.forall_mem_cons.mpr ⟨cat_rq _ _ _, (List.forall_mem_cons.mpr ⟨rfl, (List.forall_mem_cons.mpr ⟨rfl, (List.forall_mem_cons.mpr ⟨rfl, (List.forall_mem_cons.mpr ⟨rfl, (fun _ h => absurd h List.not_mem_nil)⟩)⟩)⟩)⟩)⟩) rfl ?_
  refine s_aloadq 1 dX11_fits_20 rfl ?_
  refine s_ifnull x2 (tgt := 34) (fun qq => [(5, rq g 1 x4), (4, rq g 6 qq), (0, rv g 9 0), (1, .int l1), (2, .int l2), (3, .int l3)]) dX11_fits_22 (by decide) ?_ (fun b5 => ?_)
  ·
    refine s_bipush (v := (-2)) dX11_fits_34 rfl ?_
    exact s_iret rfl dX11_fits_36
  ·
    refine s_aloadq 0 dX11_fits_25 rfl ?_
    refine s_ifnull x4 (tgt := 34) (fun qq => [(5, rq g 1 qq), (4, rv g 6 b5), (0, rv g 9 0), (1, .int l1), (2, .int l2), (3, .int l3)]) dX11_fits_27 (by decide) ?_ (fun b6 => ?_)
    ·
      refine s_bipush (v := (-2)) dX11_fits_34 rfl ?_
      exact s_iret rfl dX11_fits_36
    ·
      refine s_iload_n 5 dX11_fits_30 rfl rfl ?_
      refine s_if_ge (tgt := 37) dX11_fits_31 (by decide) ?_ ?_
      ·
        refine s_iload_n 5 dX11_fits_37 rfl rfl ?_
        refine s_iconst (v := 5) dX11_fits_38 rfl ?_
        refine s_jn (fun (k51_6 : Hp → Option (Int32 × Hp)) => ∀ (h8 : Hp), Sim cvi 0 g mX11_fits 5 51 [(0, rv g 9 0), (3, .int l3), (4, rv g 6 b5), (5, rv g 1 b6)] [] h8 (k51_6 h8)) (fun h8 => ?_) (fun k51_6 Hk51_6 => ?_)
        ·
          refine s_aload_n 0 dX11_fits_51 rfl rfl ?_
          refine s_getr (s0 := 0) dX11_fits_52 fl_X11_53 ?_
          refine s_aload 2 dX11_fits_55 rfl ?_
          refine s_aload 3 dX11_fits_57 rfl ?_
          refine s_iload_n 1 dX11_fits_59 rfl rfl ?_
          refine s_bipush (v := 10) dX11_fits_60 rfl ?_
          refine s_isub dX11_fits_62 ?_
          refine s_callVv (s0 := 0) (As := [rv g 6 b5, rv g 1 b6, .int (l3 - (10 : Int32))]) (rest := []) (cX6_tally_ok g b5 b6 (l3 - (10 : Int32)) h8) vl_X11_229 rfl (Nat.le_of_ble_eq_true rfl) (Nat.le_of_ble_eq_true rfl) dX11_fits_63 rfl (fun h9 => ?_)
          refine s_iload_n 1 dX11_fits_66 rfl rfl ?_
          refine s_if_ne (tgt := 78) dX11_fits_67 (by decide) ?_ ?_
          ·
            refine s_aload_n 0 dX11_fits_70 rfl rfl ?_
            refine s_getr (s0 := 0) dX11_fits_71 fl_X11_53 ?_
            refine s_geti (s0 := 0) dX11_fits_74 fl_X11_233 ?_
            exact s_iret rfl dX11_fits_77
          ·
            refine s_iload_n 1 dX11_fits_78 rfl rfl ?_
            refine s_iconst (v := 1) dX11_fits_79 rfl ?_
            refine s_icmp_ne (tgt := 96) dX11_fits_80 (by decide) ?_ ?_
            ·
              refine s_aload_n 0 dX11_fits_83 rfl rfl ?_
              refine s_getr (s0 := 0) dX11_fits_84 fl_X11_53 ?_
              refine s_aload 2 dX11_fits_87 rfl ?_
              refine s_geti (s0 := b5) dX11_fits_89 fl_X11_97 ?_
              refine s_callVi (s0 := 0) (As := [.int (rd h9 6 b5 2)]) (rest := []) (cX6_bestQuestion_ok g (rd h9 6 b5 2) h9) vl_X11_236 rfl (Nat.le_of_ble_eq_true rfl) (Nat.le_of_ble_eq_true rfl) dX11_fits_92 rfl (fun x11 h10 => ?_)
              exact s_iret rfl dX11_fits_95
            ·
              refine s_iload_n 1 dX11_fits_96 rfl rfl ?_
              refine s_bipush (v := 10) dX11_fits_97 rfl ?_
              refine s_icmp_ge (tgt := 115) dX11_fits_99 (by decide) ?_ ?_
              ·
                refine s_aload_n 0 dX11_fits_115 rfl rfl ?_
                refine s_getr (s0 := 0) dX11_fits_116 fl_X11_53 ?_
                refine s_geti (s0 := 0) dX11_fits_119 fl_X11_242 ?_
                exact s_iret rfl dX11_fits_122
              ·
                refine s_aload_n 0 dX11_fits_102 rfl rfl ?_
                refine s_getr (s0 := 0) dX11_fits_103 fl_X11_53 ?_
                refine s_iload_n 1 dX11_fits_106 rfl rfl ?_
                refine s_iconst (v := 2) dX11_fits_107 rfl ?_
                refine s_isub dX11_fits_108 ?_
                refine s_callVi (s0 := 0) (As := [.int (l3 - (2 : Int32))]) (rest := []) (cX6_sureRun_ok g (l3 - (2 : Int32)) h9) vl_X11_239 rfl (Nat.le_of_ble_eq_true rfl) (Nat.le_of_ble_eq_true rfl) dX11_fits_109 rfl (fun x13 h12 => ?_)
                refine s_goto (tgt := 122) dX11_fits_112 (by decide) ?_
                exact s_iret rfl dX11_fits_122
        refine s_icmp_le (tgt := 51) dX11_fits_39 (by decide) ?_ ?_
        ·
          refine s_sub [2, 5, 1, 0] rfl ?_
          exact Hk51_6 h3
        ·
          refine s_iload_n 5 dX11_fits_42 rfl rfl ?_
          refine s_bipush (v := 10) dX11_fits_43 rfl ?_
          refine s_icmp_ge (tgt := 51) dX11_fits_45 (by decide) ?_ ?_
          ·
            refine s_sub [2, 5, 1, 0] rfl ?_
            exact Hk51_6 h3
          ·
            refine s_bipush (v := (-2)) dX11_fits_48 rfl ?_
            exact s_iret rfl dX11_fits_50
      ·
        refine s_bipush (v := (-2)) dX11_fits_34 rfl ?_
        exact s_iret rfl dX11_fits_36
def fX11_image (l1 : Int32) (h : Hp) : Option (Int32 × Hp) :=
  if l1 < 0 then (ck (zk 0) (some (0, h)))
  else (if (3 : Int32) ≤ l1 then (ck (zk 0) (some (0, h)))
  else (if l1 < 3 then (ck (ib l1 3) (
  bnd (fX9_copyFrom (0 * (0 % cnt 41) + 1 * l1.toNatClampNeg + 1) 0 h) fun _ h1 =>
  ck (ib l1 3) (lt (wa h1 42 0 l1 (vp_nar .boolean 1)) fun h2 =>
  ck (zk 1) (some (1, h2)))))
  else (ck (zk 0) (some (0, h)))))
set_option maxHeartbeats 4000000 in
set_option maxRecDepth 100000 in
theorem cX11_image_ok (g : GE) (l1 : Int32) (h : Hp) : Con cvi 0 g mX11_image 4 [rv g 9 0, .int l1] h (fX11_image l1 h) := by
  refine Con.of (by decide +kernel) (Nat.le_of_ble_eq_true rfl) ?_
  show Sim cvi 0 g mX11_image 4 0 [(0, rv g 9 0), (1, .int l1)] [] h _
  unfold fX11_image
  refine s_iload_n 1 dX11_image_0 rfl rfl ?_
  refine s_if_lt (tgt := 22) dX11_image_1 (by decide) ?_ ?_
  ·
    refine s_iconst (v := 0) dX11_image_22 rfl ?_
    exact s_zret rfl dX11_image_23
  ·
    refine s_iload_n 1 dX11_image_4 rfl rfl ?_
    refine s_aload_n 0 dX11_image_5 rfl rfl ?_
    refine s_getr (s0 := 0) dX11_image_6 fl_X11_16 ?_
    refine s_ralen7 (v := 3) kr_41 rfl dX11_image_9 ?_
    refine s_icmp_ge (tgt := 22) dX11_image_10 (by decide) ?_ ?_
    ·
      refine s_iconst (v := 0) dX11_image_22 rfl ?_
      exact s_zret rfl dX11_image_23
    ·
      refine s_iload_n 1 dX11_image_13 rfl rfl ?_
      refine s_aload_n 0 dX11_image_14 rfl rfl ?_
      refine s_getr (s0 := 0) dX11_image_15 fl_X11_20 ?_
      refine s_alen3 (v := 3) ka_42 rfl dX11_image_18 ?_
      refine s_icmp_lt (tgt := 24) dX11_image_19 (by decide) ?_ ?_
      ·
        refine s_aload_n 0 dX11_image_24 rfl rfl ?_
        refine s_getr (s0 := 0) dX11_image_25 fl_X11_16 ?_
        refine s_iload_n 1 dX11_image_28 rfl rfl ?_
        refine s_aald7 (s0 := 0) kr_41 dX11_image_29 ?_
        refine s_aload_n 0 dX11_image_30 rfl rfl ?_
        refine s_getr (s0 := 0) dX11_image_31 fl_X11_10 ?_
        refine s_callVv (s0 := 0 * (0 % cnt 41) + 1 * l1.toNatClampNeg + 1) (As := [rv g 7 0]) (rest := []) (cX9_copyFrom_ok g (0 * (0 % cnt 41) + 1 * l1.toNatClampNeg + 1) 0 h) vl_X11_322 rfl (Nat.le_of_ble_eq_true rfl) (Nat.le_of_ble_eq_true rfl) dX11_image_34 rfl (fun h1 => ?_)
        refine s_aload_n 0 dX11_image_37 rfl rfl ?_
        refine s_getr (s0 := 0) dX11_image_38 fl_X11_20 ?_
        refine s_iload_n 1 dX11_image_41 rfl rfl ?_
        refine s_iconst (v := 1) dX11_image_42 rfl ?_
        refine s_zast (s0 := 0) ka_42 dX11_image_43 (fun h2 => ?_)
        refine s_iconst (v := 1) dX11_image_44 rfl ?_
        exact s_zret rfl dX11_image_45
      ·
        refine s_iconst (v := 0) dX11_image_22 rfl ?_
        exact s_zret rfl dX11_image_23
