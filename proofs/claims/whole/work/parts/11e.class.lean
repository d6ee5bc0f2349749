def fX9_has (a0 : Nat) (l1 : Int32) (h : Hp) : Option (Int32 × Hp) :=
  jn (κ := Hp → Option (Int32 × Hp)) (fun h2 => ck (zk 0) (some (0, h2))) fun k17_0 =>
  if l1 < 0 then (k17_0 h)
  else (if (3 : Int32) ≤ l1 then (k17_0 h)
  else (ck (zk 1) (some (1, h))))
set_option maxHeartbeats 4000000 in
set_option maxRecDepth 100000 in
theorem cX9_has_ok (g : GE) (a0 : Nat) (l1 : Int32) (h : Hp) : Con cvi 0 g mX9_has 2 [rv g 7 a0, .int l1] h (fX9_has a0 l1 h) := by
  refine Con.of (by decide +kernel) (Nat.le_of_ble_eq_true rfl) ?_
  show Sim cvi 0 g mX9_has 2 0 [(0, rv g 7 a0), (1, .int l1)] [] h _
  unfold fX9_has
  refine s_iload_n 1 dX9_has_0 rfl rfl ?_
  refine s_jn (fun (k17_0 : Hp → Option (Int32 × Hp)) => ∀ (h2 : Hp), Sim cvi 0 g mX9_has 2 17 [] [] h2 (k17_0 h2)) (fun h2 => ?_) (fun k17_0 Hk17_0 => ?_)
  ·
    refine s_iconst (v := 0) dX9_has_17 rfl ?_
    exact s_zret rfl dX9_has_18
  refine s_if_lt (tgt := 17) dX9_has_1 (by decide) ?_ ?_
  ·
    refine s_sub [] rfl ?_
    exact Hk17_0 h
  ·
    refine s_iload_n 1 dX9_has_4 rfl rfl ?_
    refine s_aload_n 0 dX9_has_5 rfl rfl ?_
    refine s_getr1 (k2 := 37) (s0 := a0) rfl dX9_has_6 fl_X9_25 ?_
    refine s_alen0 (v := 3) ka_37 rfl dX9_has_9 ?_
    refine s_icmp_ge (tgt := 17) dX9_has_10 (by decide) ?_ ?_
    ·
      refine s_sub [] rfl ?_
      exact Hk17_0 h
    ·
      refine s_iconst (v := 1) dX9_has_13 rfl ?_
      refine s_goto (tgt := 18) dX9_has_14 (by decide) ?_
      exact s_zret rfl dX9_has_18
def fX11_count (l1 : Int32) (h : Hp) : Option (Int32 × Hp) :=
  bnd (fX9_has 0 l1 h) fun x2 h1 =>
  if x2 = 0 then (some ((-2), h1))
  else (ck (ib l1 3) (
  some (ra h1 37 0 l1, h1)))
set_option maxHeartbeats 4000000 in
set_option maxRecDepth 100000 in
theorem cX11_count_ok (g : GE) (l1 : Int32) (h : Hp) : Con cvi 0 g mX11_count 3 [rv g 9 0, .int l1] h (fX11_count l1 h) := by
  refine Con.of (by decide +kernel) (Nat.le_of_ble_eq_true rfl) ?_
  show Sim cvi 0 g mX11_count 3 0 [(0, rv g 9 0), (1, .int l1)] [] h _
  unfold fX11_count
  refine s_aload_n 0 dX11_count_0 rfl rfl ?_
  refine s_getr (s0 := 0) dX11_count_1 fl_X11_10 ?_
  refine s_iload_n 1 dX11_count_4 rfl rfl ?_
  refine s_callVi (s0 := 0) (As := [.int l1]) (rest := []) (cX9_has_ok g 0 l1 h) vl_X11_318 rfl (Nat.le_of_ble_eq_true rfl) (Nat.le_of_ble_eq_true rfl) dX11_count_5 rfl (fun x2 h1 => ?_)
  refine s_if_eq (tgt := 23) dX11_count_8 (by decide) ?_ ?_
  ·
    refine s_bipush (v := (-2)) dX11_count_23 rfl ?_
    exact s_iret rfl dX11_count_25
  ·
    refine s_aload_n 0 dX11_count_11 rfl rfl ?_
    refine s_getr (s0 := 0) dX11_count_12 fl_X11_10 ?_
    refine s_getr1 (k2 := 37) (s0 := 0) rfl dX11_count_15 fl_X11_319 ?_
    refine s_iload_n 1 dX11_count_18 rfl rfl ?_
    refine s_iald (s0 := 0) ka_37 dX11_count_19 ?_
    refine s_goto (tgt := 25) dX11_count_20 (by decide) ?_
    exact s_iret rfl dX11_count_25
def fX11_deed (l1 : Int32) (l2 : Int32) (l3 : Int32) (h : Hp) : Option (Int32 × Hp) :=
  bnd (fX9_showAt 0 l1 h) fun x2 h1 =>
  nl x2 (some ((-2), h1))
  fun b3 => (if l2 = (-1) then (if l3 = 0 then (some (rd h1 5 b3 0, h1))
  else (some ((-2), h1)))
  else (bnd (fX7_has b3 l2 h1) fun x5 h4 =>
  if x5 = 0 then (some ((-2), h4))
  else (if l3 = 0 then (ck (ib l2 40) (
  some (ra h4 31 b3 l2, h4)))
  else if l3 = 1 then (ck (ib l2 40) (
  some (ra h4 32 b3 l2, h4)))
  else (some ((-2), h4)))))
set_option maxHeartbeats 4000000 in
set_option maxRecDepth 100000 in
theorem cX11_deed_ok (g : GE) (l1 : Int32) (l2 : Int32) (l3 : Int32) (h : Hp) : Con cvi 0 g mX11_deed 3 [rv g 9 0, .int l1, .int l2, .int l3] h (fX11_deed l1 l2 l3 h) := by
  refine Con.of (by decide +kernel) (Nat.le_of_ble_eq_true rfl) ?_
  show Sim cvi 0 g mX11_deed 3 0 [(0, rv g 9 0), (1, .int l1), (2, .int l2), (3, .int l3)] [] h _
  unfold fX11_deed
  refine s_aload_n 0 dX11_deed_0 rfl rfl ?_
  refine s_getr (s0 := 0) dX11_deed_1 fl_X11_10 ?_
  refine s_iload_n 1 dX11_deed_4 rfl rfl ?_
  refine s_callVq (s0 := 0) (As := [.int l1]) (rest := []) (cX9_showAt_ok g 0 l1 h) vl_X11_104 rfl (Nat.le_of_ble_eq_true rfl) (Nat.le_of_ble_eq_true rfl) dX11_deed_5 rfl (fun x2 h1 => ?_)
  refine s_astoreq (ls' := [(4, rq g 5 x2), (0, rv g 9 0), (1, .int l1), (2, .int l2), (3, .int l3)]) dX11_deed_8 (by decide) (List.forall_mem_cons.mpr ⟨rfl, (List.forall_mem_cons.mpr ⟨rfl, (List.forall_mem_cons.mpr ⟨rfl, (List.forall_mem_cons.mpr ⟨rfl, (fun _ h => absurd h List.not_mem_nil)⟩)⟩)⟩)⟩) rfl ?_
  refine s_aloadq 0 dX11_deed_10 rfl ?_
  refine s_ifnonnull x2 (tgt := 18) (fun qq => [(4, rq g 5 qq), (0, rv g 9 0), (1, .int l1), (2, .int l2), (3, .int l3)]) dX11_deed_12 (by decide) ?_ (fun b3 => ?_)
  ·
    refine s_bipush (v := (-2)) dX11_deed_15 rfl ?_
    exact s_iret rfl dX11_deed_17
  ·
    refine s_iload_n 3 dX11_deed_18 rfl rfl ?_
    refine s_iconst (v := (-1)) dX11_deed_19 rfl ?_
    refine s_icmp_ne (tgt := 38) dX11_deed_20 (by decide) ?_ ?_
    ·
      refine s_iload_n 4 dX11_deed_23 rfl rfl ?_
      refine s_if_ne (tgt := 35) dX11_deed_24 (by decide) ?_ ?_
      ·
        refine s_aload 0 dX11_deed_27 rfl ?_
        refine s_geti (s0 := b3) dX11_deed_29 fl_X11_108 ?_
        refine s_goto (tgt := 37) dX11_deed_32 (by decide) ?_
        exact s_iret rfl dX11_deed_37
      ·
        refine s_bipush (v := (-2)) dX11_deed_35 rfl ?_
        exact s_iret rfl dX11_deed_37
    ·
      refine s_aload 0 dX11_deed_38 rfl ?_
      refine s_iload_n 3 dX11_deed_40 rfl rfl ?_
      refine s_callVi (s0 := b3) (As := [.int l2]) (rest := []) (cX7_has_ok g b3 l2 h1) vl_X11_113 rfl (Nat.le_of_ble_eq_true rfl) (Nat.le_of_ble_eq_true rfl) dX11_deed_41 rfl (fun x5 h4 => ?_)
      refine s_if_ne (tgt := 50) dX11_deed_44 (by decide) ?_ ?_
      ·
        refine s_bipush (v := (-2)) dX11_deed_47 rfl ?_
        exact s_iret rfl dX11_deed_49
      ·
        refine s_iload_n 4 dX11_deed_50 rfl rfl ?_
        refine s_lk 0 (tgt := 76) dX11_deed_51 (by decide) rfl (by decide) ?_ (fun e6 => ?_)
        ·
          refine s_aload 0 dX11_deed_76 rfl ?_
          refine s_getr1 (k2 := 31) (s0 := b3) rfl dX11_deed_78 fl_X11_117 ?_
          refine s_iload_n 3 dX11_deed_81 rfl rfl ?_
          refine s_iald (s0 := b3) ka_31 dX11_deed_82 ?_
          exact s_iret rfl dX11_deed_83
        refine s_lk 1 (tgt := 84) dX11_deed_51 (by decide) rfl (by decide) ?_ (fun e7 => ?_)
        ·
          refine s_aload 0 dX11_deed_84 rfl ?_
          refine s_getr1 (k2 := 32) (s0 := b3) rfl dX11_deed_86 fl_X11_121 ?_
          refine s_iload_n 3 dX11_deed_89 rfl rfl ?_
          refine s_iald (s0 := b3) ka_32 dX11_deed_90 ?_
          exact s_iret rfl dX11_deed_91
        refine s_lkd (tgt := 92) dX11_deed_51 (by decide) ((lv_osw e6 rfl).trans ((lv_osw e7 rfl).trans rfl)) (by decide) ?_
        refine s_bipush (v := (-2)) dX11_deed_92 rfl ?_
        exact s_iret rfl dX11_deed_94
def fX4_draw (l1 : Int32) (h : Hp) : Option (Int32 × Hp) :=
  lt (wr h 2 0 7 (((rd h 2 0 7) * (1103515245 : Int32)) + (12345 : Int32))) fun h1 =>
  lt (if 1 < l1 then l1 else 1) fun x2 =>
  ck (!decide (x2 = 0)) (
  some (irm (((rd h1 2 0 7).toUInt32 >>> ((16 : Int32).toUInt32 &&& Int32.toUInt32 31)).toInt32) x2, h1))
set_option maxHeartbeats 4000000 in
set_option maxRecDepth 100000 in
theorem cX4_draw_ok (g : GE) (l1 : Int32) (h : Hp) : Con cvi 0 g mX4_draw 2 [rv g 2 0, .int l1] h (fX4_draw l1 h) := by
  refine Con.of (by decide +kernel) (Nat.le_of_ble_eq_true rfl) ?_
  show Sim cvi 0 g mX4_draw 2 0 [(0, rv g 2 0), (1, .int l1)] [] h _
  unfold fX4_draw
  refine s_aload_n 0 dX4_draw_0 rfl rfl ?_
  refine s_aload_n 0 dX4_draw_1 rfl rfl ?_
  refine s_geti (s0 := 0) dX4_draw_2 fl_X4_38 ?_
  refine s_ldc dX4_draw_5 w_5_76 ?_
  refine s_imul dX4_draw_7 ?_
  refine s_sipush (v := 12345) dX4_draw_8 rfl ?_
  refine s_iadd dX4_draw_11 ?_
  refine s_puti (s0 := 0) dX4_draw_12 fl_X4_38 (fun h1 => ?_)
  refine s_aload_n 0 dX4_draw_15 rfl rfl ?_
  refine s_geti (s0 := 0) dX4_draw_16 fl_X4_38 ?_
  refine s_bipush (v := 16) dX4_draw_19 rfl ?_
  refine s_iushr dX4_draw_21 ?_
  refine s_iconst (v := 1) dX4_draw_22 rfl ?_
  refine s_iload_n 1 dX4_draw_23 rfl rfl ?_
  refine s_mmax w_3_221 mw_max (Nat.le_of_ble_eq_true rfl) (Nat.le_of_ble_eq_true rfl) dX4_draw_24 ?_
  refine s_leti (fun x2 => ?_)
  refine s_irem dX4_draw_27 ?_
  exact s_iret rfl dX4_draw_28
def fX4_kindDrawn (l0 : Int32) (h : Hp) : Option (Int32 × Hp) :=
  if l0 = 5 then (some (2, h))
  else if l0 = 6 then (some (3, h))
  else if l0 = 7 then (some (4, h))
  else if l0 = 8 then (some (0, h))
  else if l0 = 9 then (some (0, h))
  else (some (1, h))
set_option maxHeartbeats 4000000 in
set_option maxRecDepth 100000 in
theorem cX4_kindDrawn_ok (g : GE) (l0 : Int32) (h : Hp) : Con cvi 0 g mX4_kindDrawn 2 [.int l0] h (fX4_kindDrawn l0 h) := by
  refine Con.of (by decide +kernel) (Nat.le_of_ble_eq_true rfl) ?_
  show Sim cvi 0 g mX4_kindDrawn 2 0 [(0, .int l0)] [] h _
  unfold fX4_kindDrawn
  refine s_iload_n 0 dX4_kindDrawn_0 rfl rfl ?_
  refine s_tab 5 (tgt := 36) dX4_kindDrawn_1 (by decide) (by decide) rfl (by decide) ?_ (fun e1 => ?_)
  ·
    refine s_iconst (v := 2) dX4_kindDrawn_36 rfl ?_
    exact s_iret rfl dX4_kindDrawn_37
  refine s_tab 6 (tgt := 38) dX4_kindDrawn_1 (by decide) (by decide) rfl (by decide) ?_ (fun e2 => ?_)
  ·
    refine s_iconst (v := 3) dX4_kindDrawn_38 rfl ?_
    exact s_iret rfl dX4_kindDrawn_39
  refine s_tab 7 (tgt := 40) dX4_kindDrawn_1 (by decide) (by decide) rfl (by decide) ?_ (fun e3 => ?_)
  ·
    refine s_iconst (v := 4) dX4_kindDrawn_40 rfl ?_
    exact s_iret rfl dX4_kindDrawn_41
  refine s_tab 8 (tgt := 42) dX4_kindDrawn_1 (by decide) (by decide) rfl (by decide) ?_ (fun e4 => ?_)
  ·
    refine s_iconst (v := 0) dX4_kindDrawn_42 rfl ?_
    exact s_iret rfl dX4_kindDrawn_43
  refine s_tab 9 (tgt := 42) dX4_kindDrawn_1 (by decide) (by decide) rfl (by decide) ?_ (fun e5 => ?_)
  ·
    refine s_iconst (v := 0) dX4_kindDrawn_42 rfl ?_
    exact s_iret rfl dX4_kindDrawn_43
  have e1 := lv_neT e1 (show (5 : Int32).toInt = 5 from rfl)
  have e2 := lv_neT e2 (show (6 : Int32).toInt = 6 from rfl)
  have e3 := lv_neT e3 (show (7 : Int32).toInt = 7 from rfl)
  have e4 := lv_neT e4 (show (8 : Int32).toInt = 8 from rfl)
  have e5 := lv_neT e5 (show (9 : Int32).toInt = 9 from rfl)
  refine s_tabd (tgt := 44) dX4_kindDrawn_1 (by omega) (by decide) ?_
  refine s_iconst (v := 1) dX4_kindDrawn_44 rfl ?_
  exact s_iret rfl dX4_kindDrawn_45
def fX4_playDrawn_l13 (l3 : Int32) (K : Hp → Option (Unit × Hp)) (rec : Int32 → Hp → Option (Unit × Hp)) (l4 : Int32) (h : Hp) : Option (Unit × Hp) :=
  if l3 ≤ l4 then (K h)
  else (bnd (fX4_draw 10 h) fun x4 h3 =>
  bnd (fX4_kindDrawn x4 h3) fun x6 h5 =>
  jn (κ := Int32 → Hp → Option (Unit × Hp)) (fun y6_6 h8 => bnd (fX4_may x6 y6_6 h8) fun x10 h9 =>
  jn (κ := Hp → Option (Unit × Hp)) (fun h12 => lt (l4 + 1) fun x13 =>
  rec x13 h12) fun k80_10 =>
  if x10 = 0 then (k80_10 h9)
  else (bnd (fX4_perform x6 y6_6 h9) fun _ h14 =>
  k80_10 h14)) fun k61_6 =>
  if x6 = 0 then (k61_6 (-1) h5)
  else (if (rd h5 6 9 2) ≤ 0 then (k61_6 (-1) h5)
  else (bnd (fX4_draw (rd h5 6 9 2) h5) fun x16 h15 =>
  k61_6 x16 h15)))
def fX4_playDrawn (a1 : Nat) (l2 : Int32) (l3 : Int32) (h : Hp) : Option (Unit × Hp) :=
  bnd (fX4_begin a1 h) fun _ h1 =>
  lt (wr h1 2 0 7 l2) fun h2 =>
  itr1 (fX4_playDrawn_l13 l3 (fun h17 => some ((), h17))) FU 0 h2
set_option maxHeartbeats 4000000 in
set_option maxRecDepth 100000 in
theorem sX4_playDrawn_l13 (g : GE) (l3 : Int32) (K : Hp → Option (Unit × Hp)) (hK : ∀ (h : Hp), Sim cvv 0 g mX4_playDrawn 6 86 [] [] h (K  h)) : ∀ (n : Nat) (l4 : Int32) (h : Hp), Sim cvv 0 g mX4_playDrawn 6 13 [(0, rv g 2 0), (3, .int l3), (4, .int l4)] [] h (itr1 (fX4_playDrawn_l13 l3 K) n l4 h) := by
  refine s_itr1 (fun l4 h o => Sim cvv 0 g mX4_playDrawn 6 13 [(0, rv g 2 0), (3, .int l3), (4, .int l4)] [] h o) (fun _ _ => s_none) ?_
  intro rec hrec l4 h
  unfold fX4_playDrawn_l13
  refine s_iload 2 dX4_playDrawn_13 rfl ?_
  refine s_iload_n 1 dX4_playDrawn_15 rfl rfl ?_
  refine s_icmp_ge (tgt := 86) dX4_playDrawn_16 (by decide) ?_ ?_
  ·
    refine s_sub [] rfl ?_
    exact hK h
  ·
    refine s_aload_n 0 dX4_playDrawn_19 rfl rfl ?_
    refine s_bipush (v := 10) dX4_playDrawn_20 rfl ?_
    refine s_callVi (s0 := 0) (As := [.int 10]) (rest := []) (cX4_draw_ok g 10 h) vl_X4_80 rfl (Nat.le_of_ble_eq_true rfl) (Nat.le_of_ble_eq_true rfl) dX4_playDrawn_22 rfl (fun x4 h3 => ?_)
    refine s_callSi (As := [.int x4]) (rest := []) (cX4_kindDrawn_ok g x4 h3) sl_X4_84 rfl (Nat.le_of_ble_eq_true rfl) (Nat.le_of_ble_eq_true rfl) dX4_playDrawn_25 rfl (fun x6 h5 => ?_)
    refine s_istore (ls' := [(5, .int x6), (0, rv g 2 0), (3, .int l3), (4, .int l4)]) dX4_playDrawn_28 (by decide) rfl ?_
    refine s_iconst (v := (-1)) dX4_playDrawn_30 rfl ?_
    refine s_istore (ls' := [(6, .int (-1)), (5, .int x6), (0, rv g 2 0), (3, .int l3), (4, .int l4)]) dX4_playDrawn_31 (by decide) rfl ?_
    refine s_iload 1 dX4_playDrawn_33 rfl ?_
    refine s_jn (fun (k61_6 : Int32 → Hp → Option (Unit × Hp)) => ∀ (y6_6 : Int32) (h8 : Hp), Sim cvv 0 g mX4_playDrawn 6 61 [(0, rv g 2 0), (3, .int l3), (4, .int l4), (5, .int x6), (6, .int y6_6)] [] h8 (k61_6 y6_6 h8)) (fun y6_6 h8 => ?_) (fun k61_6 Hk61_6 => ?_)
    ·
      refine s_aload_n 0 dX4_playDrawn_61 rfl rfl ?_
      refine s_iload 3 dX4_playDrawn_62 rfl ?_
      refine s_iload 4 dX4_playDrawn_64 rfl ?_
      refine s_callVi (s0 := 0) (As := [.int x6, .int y6_6]) (rest := []) (cX4_may_ok g x6 y6_6 h8) vl_X4_72 rfl (Nat.le_of_ble_eq_true rfl) (Nat.le_of_ble_eq_true rfl) dX4_playDrawn_66 rfl (fun x10 h9 => ?_)
      refine s_jn (fun (k80_10 : Hp → Option (Unit × Hp)) => ∀ (h12 : Hp), Sim cvv 0 g mX4_playDrawn 6 80 [(0, rv g 2 0), (3, .int l3), (4, .int l4)] [] h12 (k80_10 h12)) (fun h12 => ?_) (fun k80_10 Hk80_10 => ?_)
      ·
        refine s_iincl 2 (w := 1) (fun x13 => [(4, .int x13), (0, rv g 2 0), (3, .int l3)]) dX4_playDrawn_80 rfl rfl (by decide) (fun _ => rfl) (fun x13 => ?_)
        refine s_goto (tgt := 13) dX4_playDrawn_83 (by decide) ?_
        refine s_sub [1, 2, 0] rfl ?_
        exact hrec x13 h12
      refine s_if_eq (tgt := 80) dX4_playDrawn_69 (by decide) ?_ ?_
      ·
        refine s_sub [0, 1, 2] rfl ?_
        exact Hk80_10 h9
      ·
        refine s_aload_n 0 dX4_playDrawn_72 rfl rfl ?_
        refine s_iload 3 dX4_playDrawn_73 rfl ?_
        refine s_iload 4 dX4_playDrawn_75 rfl ?_
        refine s_callVv (s0 := 0) (As := [.int x6, .int y6_6]) (rest := []) (cX4_perform_ok g x6 y6_6 h9) vl_X4_76 rfl (Nat.le_of_ble_eq_true rfl) (Nat.le_of_ble_eq_true rfl) dX4_playDrawn_77 rfl (fun h14 => ?_)
        refine s_sub [0, 1, 2] rfl ?_
        exact Hk80_10 h14
    refine s_if_eq (tgt := 61) dX4_playDrawn_35 (by decide) ?_ ?_
    ·
      refine s_sub [2, 3, 4, 1, 0] rfl ?_
      exact Hk61_6 (-1) h5
    ·
      refine s_aload_n 2 dX4_playDrawn_38 rfl rfl ?_
      refine s_getr (s0 := 0) dX4_playDrawn_39 fl_X4_12 ?_
      refine s_geti (s0 := 9) dX4_playDrawn_42 fl_X4_87 ?_
      refine s_if_le (tgt := 61) dX4_playDrawn_45 (by decide) ?_ ?_
      ·
        refine s_sub [2, 3, 4, 1, 0] rfl ?_
        exact Hk61_6 (-1) h5
      ·
        refine s_aload_n 2 dX4_playDrawn_48 rfl rfl ?_
        refine s_aload_n 2 dX4_playDrawn_49 rfl rfl ?_
        refine s_getr (s0 := 0) dX4_playDrawn_50 fl_X4_12 ?_
        refine s_geti (s0 := 9) dX4_playDrawn_53 fl_X4_87 ?_
        refine s_callVi (s0 := 0) (As := [.int (rd h5 6 9 2)]) (rest := []) (cX4_draw_ok g (rd h5 6 9 2) h5) vl_X4_80 rfl (Nat.le_of_ble_eq_true rfl) (Nat.le_of_ble_eq_true rfl) dX4_playDrawn_56 rfl (fun x16 h15 => ?_)
        refine s_istore (ls' := [(6, .int x16), (5, .int x6), (0, rv g 2 0), (3, .int l3), (4, .int l4)]) dX4_playDrawn_59 (by decide) rfl ?_
        refine s_sub [2, 3, 4, 1, 0] rfl ?_
        exact Hk61_6 x16 h15
set_option maxHeartbeats 4000000 in
set_option maxRecDepth 100000 in
theorem cX4_playDrawn_ok (g : GE) (a1 : Nat) (l2 : Int32) (l3 : Int32) (h : Hp) : Con cvv 0 g mX4_playDrawn 6 [rv g 2 0, rv g 6 a1, .int l2, .int l3] h (fX4_playDrawn a1 l2 l3 h) := by
  refine Con.of (by decide +kernel) (Nat.le_of_ble_eq_true rfl) ?_
  show Sim cvv 0 g mX4_playDrawn 6 0 [(0, rv g 2 0), (1, rv g 6 a1), (2, .int l2), (3, .int l3)] [] h _
  unfold fX4_playDrawn
  refine s_aload_n 0 dX4_playDrawn_0 rfl rfl ?_
  refine s_aload_n 1 dX4_playDrawn_1 rfl rfl ?_
  refine s_callVv (s0 := 0) (As := [rv g 6 a1]) (rest := []) (cX4_begin_ok g a1 h) vl_X4_56 rfl (Nat.le_of_ble_eq_true rfl) (Nat.le_of_ble_eq_true rfl) dX4_playDrawn_2 rfl (fun h1 => ?_)
  refine s_aload_n 0 dX4_playDrawn_5 rfl rfl ?_
  refine s_iload_n 2 dX4_playDrawn_6 rfl rfl ?_
  refine s_puti (s0 := 0) dX4_playDrawn_7 fl_X4_38 (fun h2 => ?_)
  refine s_iconst (v := 0) dX4_playDrawn_10 rfl ?_
  refine s_istore (ls' := [(4, .int 0), (0, rv g 2 0), (1, rv g 6 a1), (2, .int l2), (3, .int l3)]) dX4_playDrawn_11 (by decide) rfl ?_
  refine s_sub (ls' := [(0, rv g 2 0), (3, .int l3), (4, .int 0)]) [1, 4, 0] rfl ?_
  refine sX4_playDrawn_l13 g l3 _ (fun h17 => ?_) FU 0 h2
  exact s_vret rfl dX4_playDrawn_86
def fX4_standingBits_l4 (K : Int32 → Hp → Option (Int32 × Hp)) (rec : Int32 → Int32 → Hp → Option (Int32 × Hp)) (l1 l2 : Int32) (h : Hp) : Option (Int32 × Hp) :=
  if (rd h 6 9 2) ≤ l2 then (K l1 h)
  else (ck (ib l2 5) (
  jn (κ := Int32 → Hp → Option (Int32 × Hp)) (fun y1_0 h2 => lt (l2 + 1) fun x3 =>
  rec y1_0 x3 h2) fun k33_0 =>
  if (ra h 35 9 l2) ≤ 0 then (k33_0 l1 h)
  else (lt (l1 ||| ((1 : Int32) <<< (l2 &&& 31))) fun x4 =>
  k33_0 x4 h)))
def fX4_standingBits (h : Hp) : Option (Int32 × Hp) :=
  itr2 (fX4_standingBits_l4 (fun y5 h6 => some (y5, h6))) FU 0 0 h
set_option maxHeartbeats 4000000 in
set_option maxRecDepth 100000 in
theorem sX4_standingBits_l4 (g : GE) (K : Int32 → Hp → Option (Int32 × Hp)) (hK : ∀ (y1 : Int32) (h : Hp), Sim cvi 0 g mX4_standingBits 2 39 [(1, .int y1)] [] h (K y1 h)) : ∀ (n : Nat) (l1 l2 : Int32) (h : Hp), Sim cvi 0 g mX4_standingBits 2 4 [(0, rv g 2 0), (1, .int l1), (2, .int l2)] [] h (itr2 (fX4_standingBits_l4 K) n l1 l2 h) := by
  refine s_itr2 (fun l1 l2 h o => Sim cvi 0 g mX4_standingBits 2 4 [(0, rv g 2 0), (1, .int l1), (2, .int l2)] [] h o) (fun _ _ _ => s_none) ?_
  intro rec hrec l1 l2 h
  unfold fX4_standingBits_l4
  refine s_iload_n 2 dX4_standingBits_4 rfl rfl ?_
  refine s_aload_n 0 dX4_standingBits_5 rfl rfl ?_
  refine s_getr (s0 := 0) dX4_standingBits_6 fl_X4_12 ?_
  refine s_geti (s0 := 9) dX4_standingBits_9 fl_X4_87 ?_
  refine s_icmp_ge (tgt := 39) dX4_standingBits_12 (by decide) ?_ ?_
  ·
    refine s_sub [1] rfl ?_
    exact hK l1 h
  ·
    refine s_aload_n 0 dX4_standingBits_15 rfl rfl ?_
    refine s_getr (s0 := 0) dX4_standingBits_16 fl_X4_12 ?_
    refine s_getr1 (k2 := 35) (s0 := 9) rfl dX4_standingBits_19 fl_X4_104 ?_
    refine s_iload_n 2 dX4_standingBits_22 rfl rfl ?_
    refine s_iald (s0 := 9) ka_35 dX4_standingBits_23 ?_
    refine s_jn (fun (k33_0 : Int32 → Hp → Option (Int32 × Hp)) => ∀ (y1_0 : Int32) (h2 : Hp), Sim cvi 0 g mX4_standingBits 2 33 [(0, rv g 2 0), (1, .int y1_0), (2, .int l2)] [] h2 (k33_0 y1_0 h2)) (fun y1_0 h2 => ?_) (fun k33_0 Hk33_0 => ?_)
    ·
      refine s_iincl 2 (w := 1) (fun x3 => [(2, .int x3), (0, rv g 2 0), (1, .int y1_0)]) dX4_standingBits_33 rfl rfl (by decide) (fun _ => rfl) (fun x3 => ?_)
      refine s_goto (tgt := 4) dX4_standingBits_36 (by decide) ?_
      refine s_sub [1, 2, 0] rfl ?_
      exact hrec y1_0 x3 h2
    refine s_if_le (tgt := 33) dX4_standingBits_24 (by decide) ?_ ?_
    ·
      exact Hk33_0 l1 h
    ·
      refine s_iload_n 1 dX4_standingBits_27 rfl rfl ?_
      refine s_iconst (v := 1) dX4_standingBits_28 rfl ?_
      refine s_iload_n 2 dX4_standingBits_29 rfl rfl ?_
      refine s_ishl dX4_standingBits_30 ?_
      refine s_ior dX4_standingBits_31 ?_
      refine s_leti (fun x4 => ?_)
      refine s_istore_n (ls' := [(1, .int x4), (0, rv g 2 0), (2, .int l2)]) dX4_standingBits_32 rfl (by decide) rfl ?_
      refine s_sub [1, 0, 2] rfl ?_
      exact Hk33_0 x4 h
set_option maxHeartbeats 4000000 in
set_option maxRecDepth 100000 in
theorem cX4_standingBits_ok (g : GE) (h : Hp) : Con cvi 0 g mX4_standingBits 2 [rv g 2 0] h (fX4_standingBits h) := by
  refine Con.of (by decide +kernel) (Nat.le_of_ble_eq_true rfl) ?_
  show Sim cvi 0 g mX4_standingBits 2 0 [(0, rv g 2 0)] [] h _
  unfold fX4_standingBits
  refine s_iconst (v := 0) dX4_standingBits_0 rfl ?_
  refine s_istore_n (ls' := [(1, .int 0), (0, rv g 2 0)]) dX4_standingBits_1 rfl (by decide) rfl ?_
  refine s_iconst (v := 0) dX4_standingBits_2 rfl ?_
  refine s_istore_n (ls' := [(2, .int 0), (1, .int 0), (0, rv g 2 0)]) dX4_standingBits_3 rfl (by decide) rfl ?_
  refine s_sub (ls' := [(0, rv g 2 0), (1, .int 0), (2, .int 0)]) [2, 1, 0] rfl ?_
  refine sX4_standingBits_l4 g _ (fun y5 h6 => ?_) FU 0 0 h
  refine s_iload_n 0 dX4_standingBits_39 rfl rfl ?_
  exact s_iret rfl dX4_standingBits_40
def fX4_view (l1 : Int32) (h : Hp) : Option (Int32 × Hp) :=
  if l1 = 0 then (some (rd h 2 0 3, h))
  else if l1 = 1 then (some (rd h 2 0 2, h))
  else if l1 = 2 then (bnd (fX4_standingBits h) fun x5 h4 =>
  some (x5, h4))
  else if l1 = 3 then (some (rd h 2 0 4, h))
  else if l1 = 4 then (some (rd h 2 0 5, h))
  else (bnd (fX8_has 9 (l1 - (10 : Int32)) h) fun x9 h8 =>
  if x9 = 0 then (bnd (fX8_has 9 (l1 - (20 : Int32)) h8) fun x11 h10 =>
  if x11 = 0 then (some ((-1), h10))
  else (ck (ib (l1 - (20 : Int32)) 5) (
  some (ra h10 34 9 (l1 - (20 : Int32)), h10))))
  else (ck (ib (l1 - (10 : Int32)) 5) (
  some (ra h8 35 9 (l1 - (10 : Int32)), h8))))
set_option maxHeartbeats 4000000 in
set_option maxRecDepth 100000 in
theorem cX4_view_ok (g : GE) (l1 : Int32) (h : Hp) : Con cvi 0 g mX4_view 3 [rv g 2 0, .int l1] h (fX4_view l1 h) := by
  refine Con.of (by decide +kernel) (Nat.le_of_ble_eq_true rfl) ?_
  show Sim cvi 0 g mX4_view 3 0 [(0, rv g 2 0), (1, .int l1)] [] h _
  unfold fX4_view
  refine s_iload_n 1 dX4_view_0 rfl rfl ?_
  refine s_tab 0 (tgt := 36) dX4_view_1 (by decide) (by decide) rfl (by decide) ?_ (fun e1 => ?_)
  ·
    refine s_aload_n 0 dX4_view_36 rfl rfl ?_
    refine s_geti (s0 := 0) dX4_view_37 fl_X4_26 ?_
    exact s_iret rfl dX4_view_40
  refine s_tab 1 (tgt := 41) dX4_view_1 (by decide) (by decide) rfl (by decide) ?_ (fun e2 => ?_)
  ·
    refine s_aload_n 0 dX4_view_41 rfl rfl ?_
    refine s_geti (s0 := 0) dX4_view_42 fl_X4_22 ?_
    exact s_iret rfl dX4_view_45
  refine s_tab 2 (tgt := 46) dX4_view_1 (by decide) (by decide) rfl (by decide) ?_ (fun e3 => ?_)
  ·
    refine s_aload_n 0 dX4_view_46 rfl rfl ?_
    refine s_callVi (s0 := 0) (As := []) (rest := []) (cX4_standingBits_ok g h) vl_X4_132 rfl (Nat.le_of_ble_eq_true rfl) (Nat.le_of_ble_eq_true rfl) dX4_view_47 rfl (fun x5 h4 => ?_)
    exact s_iret rfl dX4_view_50
  refine s_tab 3 (tgt := 51) dX4_view_1 (by decide) (by decide) rfl (by decide) ?_ (fun e6 => ?_)
  ·
    refine s_aload_n 0 dX4_view_51 rfl rfl ?_
    refine s_geti (s0 := 0) dX4_view_52 fl_X4_29 ?_
    exact s_iret rfl dX4_view_55
  refine s_tab 4 (tgt := 56) dX4_view_1 (by decide) (by decide) rfl (by decide) ?_ (fun e7 => ?_)
  ·
    refine s_aload_n 0 dX4_view_56 rfl rfl ?_
    refine s_geti (s0 := 0) dX4_view_57 fl_X4_32 ?_
    exact s_iret rfl dX4_view_60
  have e1 := lv_neT e1 (show (0 : Int32).toInt = 0 from rfl)
  have e2 := lv_neT e2 (show (1 : Int32).toInt = 1 from rfl)
  have e3 := lv_neT e3 (show (2 : Int32).toInt = 2 from rfl)
  have e6 := lv_neT e6 (show (3 : Int32).toInt = 3 from rfl)
  have e7 := lv_neT e7 (show (4 : Int32).toInt = 4 from rfl)
  refine s_tabd (tgt := 61) dX4_view_1 (by omega) (by decide) ?_
  refine s_aload_n 0 dX4_view_61 rfl rfl ?_
  refine s_getr (s0 := 0) dX4_view_62 fl_X4_12 ?_
  refine s_iload_n 1 dX4_view_65 rfl rfl ?_
  refine s_bipush (v := 10) dX4_view_66 rfl ?_
  refine s_isub dX4_view_68 ?_
  refine s_callVi (s0 := 9) (As := [.int (l1 - (10 : Int32))]) (rest := []) (cX8_has_ok g 9 (l1 - (10 : Int32)) h) vl_X4_103 rfl (Nat.le_of_ble_eq_true rfl) (Nat.le_of_ble_eq_true rfl) dX4_view_69 rfl (fun x9 h8 => ?_)
  refine s_if_eq (tgt := 88) dX4_view_72 (by decide) ?_ ?_
  ·
    refine s_aload_n 0 dX4_view_88 rfl rfl ?_
    refine s_getr (s0 := 0) dX4_view_89 fl_X4_12 ?_
    refine s_iload_n 1 dX4_view_92 rfl rfl ?_
    refine s_bipush (v := 20) dX4_view_93 rfl ?_
    refine s_isub dX4_view_95 ?_
    refine s_callVi (s0 := 9) (As := [.int (l1 - (20 : Int32))]) (rest := []) (cX8_has_ok g 9 (l1 - (20 : Int32)) h8) vl_X4_103 rfl (Nat.le_of_ble_eq_true rfl) (Nat.le_of_ble_eq_true rfl) dX4_view_96 rfl (fun x11 h10 => ?_)
    refine s_if_eq (tgt := 117) dX4_view_99 (by decide) ?_ ?_
    ·
      refine s_iconst (v := (-1)) dX4_view_117 rfl ?_
      exact s_iret rfl dX4_view_118
    ·
      refine s_aload_n 0 dX4_view_102 rfl rfl ?_
      refine s_getr (s0 := 0) dX4_view_103 fl_X4_12 ?_
      refine s_getr1 (k2 := 34) (s0 := 9) rfl dX4_view_106 fl_X4_113 ?_
      refine s_iload_n 1 dX4_view_109 rfl rfl ?_
      refine s_bipush (v := 20) dX4_view_110 rfl ?_
      refine s_isub dX4_view_112 ?_
      refine s_iald (s0 := 9) ka_34 dX4_view_113 ?_
      refine s_goto (tgt := 118) dX4_view_114 (by decide) ?_
      exact s_iret rfl dX4_view_118
  ·
    refine s_aload_n 0 dX4_view_75 rfl rfl ?_
    refine s_getr (s0 := 0) dX4_view_76 fl_X4_12 ?_
    refine s_getr1 (k2 := 35) (s0 := 9) rfl dX4_view_79 fl_X4_104 ?_
    refine s_iload_n 1 dX4_view_82 rfl rfl ?_
    refine s_bipush (v := 10) dX4_view_83 rfl ?_
    refine s_isub dX4_view_85 ?_
    refine s_iald (s0 := 9) ka_35 dX4_view_86 ?_
    exact s_iret rfl dX4_view_87
def fX11_drawn (l1 : Int32) (l2 : Int32) (l3 : Int32) (l4 : Int32) (h : Hp) : Option (Int32 × Hp) :=
  bnd (fX9_stageAt 0 l1 h) fun x2 h1 =>
  nl x2 (some ((-1), h1))
  fun b3 => (if l3 < 0 then (some ((-1), h1))
  else (if l3 ≤ 60 then (bnd (fX4_playDrawn b3 l2 l3 h1) fun _ h4 =>
  bnd (fX4_view l4 h4) fun x6 h5 =>
  some (x6, h5))
  else (some ((-1), h1))))
set_option maxHeartbeats 4000000 in
set_option maxRecDepth 100000 in
theorem cX11_drawn_ok (g : GE) (l1 : Int32) (l2 : Int32) (l3 : Int32) (l4 : Int32) (h : Hp) : Con cvi 0 g mX11_drawn 7 [rv g 9 0, .int l1, .int l2, .int l3, .int l4] h (fX11_drawn l1 l2 l3 l4 h) := by
  refine Con.of (by decide +kernel) (Nat.le_of_ble_eq_true rfl) ?_
  show Sim cvi 0 g mX11_drawn 7 0 [(0, rv g 9 0), (1, .int l1), (2, .int l2), (3, .int l3), (4, .int l4)] [] h _
  unfold fX11_drawn
  refine s_aload_n 0 dX11_drawn_0 rfl rfl ?_
  refine s_getr (s0 := 0) dX11_drawn_1 fl_X11_10 ?_
  refine s_iload_n 1 dX11_drawn_4 rfl rfl ?_
  refine s_callVq (s0 := 0) (As := [.int l1]) (rest := []) (cX9_stageAt_ok g 0 l1 h) vl_X11_85 rfl (Nat.le_of_ble_eq_true rfl) (Nat.le_of_ble_eq_true rfl) dX11_drawn_5 rfl (fun x2 h1 => ?_)
  refine s_astoreq (ls' := [(5, rq g 6 x2), (0, rv g 9 0), (1, .int l1), (2, .int l2), (3, .int l3), (4, .int l4)]) dX11_drawn_8 (by decide) (List.forall_mem_cons.mpr ⟨rfl, (List.forall_mem_cons.mpr ⟨rfl, (List.forall_mem_cons.mpr ⟨rfl, (List.forall_mem_cons.mpr ⟨rfl, (List.forall_mem_cons.mpr ⟨rfl, (fun _ h => absurd h List.not_mem_nil)⟩)⟩)⟩)⟩)⟩) rfl ?_
  refine s_aloadq 0 dX11_drawn_10 rfl ?_
  refine s_ifnull x2 (tgt := 25) (fun qq => [(5, rq g 6 qq), (0, rv g 9 0), (1, .int l1), (2, .int l2), (3, .int l3), (4, .int l4)]) dX11_drawn_12 (by decide) ?_ (fun b3 => ?_)
  ·
    refine s_iconst (v := (-1)) dX11_drawn_25 rfl ?_
    exact s_iret rfl dX11_drawn_26
  ·
    refine s_iload_n 4 dX11_drawn_15 rfl rfl ?_
    refine s_if_lt (tgt := 25) dX11_drawn_16 (by decide) ?_ ?_
    ·
      refine s_iconst (v := (-1)) dX11_drawn_25 rfl ?_
      exact s_iret rfl dX11_drawn_26
    ·
      refine s_iload_n 4 dX11_drawn_19 rfl rfl ?_
      refine s_bipush (v := 60) dX11_drawn_20 rfl ?_
      refine s_icmp_le (tgt := 27) dX11_drawn_22 (by decide) ?_ ?_
      ·
        refine s_aload_n 1 dX11_drawn_27 rfl rfl ?_
        refine s_getr (s0 := 0) dX11_drawn_28 fl_X11_34 ?_
        refine s_aload 0 dX11_drawn_31 rfl ?_
        refine s_iload_n 3 dX11_drawn_33 rfl rfl ?_
        refine s_iload_n 4 dX11_drawn_34 rfl rfl ?_
        refine s_callVv (s0 := 0) (As := [rv g 6 b3, .int l2, .int l3]) (rest := []) (cX4_playDrawn_ok g b3 l2 l3 h1) vl_X11_245 rfl (Nat.le_of_ble_eq_true rfl) (Nat.le_of_ble_eq_true rfl) dX11_drawn_35 rfl (fun h4 => ?_)
        refine s_aload_n 1 dX11_drawn_38 rfl rfl ?_
        refine s_getr (s0 := 0) dX11_drawn_39 fl_X11_34 ?_
        refine s_iload 5 dX11_drawn_42 rfl ?_
        refine s_callVi (s0 := 0) (As := [.int l4]) (rest := []) (cX4_view_ok g l4 h4) vl_X11_128 rfl (Nat.le_of_ble_eq_true rfl) (Nat.le_of_ble_eq_true rfl) dX11_drawn_44 rfl (fun x6 h5 => ?_)
        exact s_iret rfl dX11_drawn_47
      ·
        refine s_iconst (v := (-1)) dX11_drawn_25 rfl ?_
        exact s_iret rfl dX11_drawn_26
def fX1_choiceOf (l0 : Int32) (h : Hp) : Option (Int32 × Hp) :=
  some ((5 : Int32) - (irm l0 8), h)
set_option maxHeartbeats 4000000 in
set_option maxRecDepth 100000 in
theorem cX1_choiceOf_ok (g : GE) (l0 : Int32) (h : Hp) : Con cvi 0 g mX1_choiceOf 2 [.int l0] h (fX1_choiceOf l0 h) := by
  refine Con.of (by decide +kernel) (Nat.le_of_ble_eq_true rfl) ?_
  show Sim cvi 0 g mX1_choiceOf 2 0 [(0, .int l0)] [] h _
  unfold fX1_choiceOf
  refine s_iconst (v := 5) dX1_choiceOf_0 rfl ?_
  refine s_iload_n 0 dX1_choiceOf_1 rfl rfl ?_
  refine s_bipush (v := 8) dX1_choiceOf_2 rfl ?_
  refine s_iremc dX1_choiceOf_4 (by decide) ?_
  refine s_isub dX1_choiceOf_5 ?_
  exact s_iret rfl dX1_choiceOf_6
def fX1_rated (l0 : Int32) (l1 : Int32) (h : Hp) : Option (Int32 × Hp) :=
  some (((l0 * (8 : Int32)) + (5 : Int32)) - l1, h)
set_option maxHeartbeats 4000000 in
set_option maxRecDepth 100000 in
theorem cX1_rated_ok (g : GE) (l0 : Int32) (l1 : Int32) (h : Hp) : Con cvi 0 g mX1_rated 2 [.int l0, .int l1] h (fX1_rated l0 l1 h) := by
  refine Con.of (by decide +kernel) (Nat.le_of_ble_eq_true rfl) ?_
  show Sim cvi 0 g mX1_rated 2 0 [(0, .int l0), (1, .int l1)] [] h _
  unfold fX1_rated
  refine s_iload_n 0 dX1_rated_0 rfl rfl ?_
  refine s_bipush (v := 8) dX1_rated_1 rfl ?_
  refine s_imul dX1_rated_3 ?_
  refine s_iconst (v := 5) dX1_rated_4 rfl ?_
  refine s_iadd dX1_rated_5 ?_
  refine s_iload_n 1 dX1_rated_6 rfl rfl ?_
  refine s_isub dX1_rated_7 ?_
  exact s_iret rfl dX1_rated_8
def fX1_valueOf (l0 : Int32) (h : Hp) : Option (Int32 × Hp) :=
  some (l0 / 8, h)
set_option maxHeartbeats 4000000 in
set_option maxRecDepth 100000 in
theorem cX1_valueOf_ok (g : GE) (l0 : Int32) (h : Hp) : Con cvi 0 g mX1_valueOf 2 [.int l0] h (fX1_valueOf l0 h) := by
  refine Con.of (by decide +kernel) (Nat.le_of_ble_eq_true rfl) ?_
  show Sim cvi 0 g mX1_valueOf 2 0 [(0, .int l0)] [] h _
  unfold fX1_valueOf
  refine s_iload_n 0 dX1_valueOf_0 rfl rfl ?_
  refine s_bipush (v := 8) dX1_valueOf_1 rfl ?_
  refine s_idivc dX1_valueOf_3 (by decide) ?_
  exact s_iret rfl dX1_valueOf_4
def fX1_worstOf_l26 (self : Nat → Int32 → Int32 → Int32 → Hp → Option (Int32 × Hp)) (a0 : Nat) (l1 : Int32) (l2 : Int32) (l3 : Int32) (K : Int32 → Hp → Option (Int32 × Hp)) (rec : Int32 → Int32 → Hp → Option (Int32 × Hp)) (l4 l5 : Int32) (h : Hp) : Option (Int32 × Hp) :=
  if (rd h 6 a0 2) ≤ l5 then (K l4 h)
  else (bnd (fX0_leftOf l2 l5 h) fun x6 h5 =>
  jn (κ := Int32 → Hp → Option (Int32 × Hp)) (fun y4_6 h8 => lt (l5 + 1) fun x9 =>
  rec y4_6 x9 h8) fun k80_6 =>
  if x6 ≤ 0 then (k80_6 l4 h5)
  else (bnd (fX0_with l2 l5 (x6 - (1 : Int32)) h5) fun x11 h10 =>
  bnd (self a0 l1 x11 (l3 - (1 : Int32)) h10) fun x13 h12 =>
  bnd (fX1_valueOf x13 h12) fun x15 h14 =>
  lt (if x15 < l4 then x15 else l4) fun x16 =>
  k80_6 x16 h14))
def fX1_worstOf (self : Nat → Int32 → Int32 → Int32 → Hp → Option (Int32 × Hp)) (a0 : Nat) (l1 : Int32) (l2 : Int32) (l3 : Int32) (h : Hp) : Option (Int32 × Hp) :=
  if (0 : Int32) < l3 then (bnd (self a0 l1 l2 (l3 - (1 : Int32)) h) fun x2 h1 =>
  bnd (fX1_valueOf x2 h1) fun x4 h3 =>
  itr2 (fX1_worstOf_l26 self a0 l1 l2 l3 (fun y17 h18 => some (y17, h18))) FU x4 0 h3)
  else (bnd (fX0_standing l2 h) fun x20 h19 =>
  some (x20, h19))
set_option maxHeartbeats 4000000 in
set_option maxRecDepth 100000 in
theorem sX1_worstOf_l26 (g : GE) (e : Nat) (he : 6 ≤ e) (self : Nat → Int32 → Int32 → Int32 → Hp → Option (Int32 × Hp)) (hself : ∀ (a0 : Nat) (l1 l2 l3 : Int32) (h : Hp), Con cvi 0 g mX1_bestAgainst e [rv g 6 a0, .int l1, .int l2, .int l3] h (self a0 l1 l2 l3 h)) (a0 : Nat) (l1 : Int32) (l2 : Int32) (l3 : Int32) (K : Int32 → Hp → Option (Int32 × Hp)) (hK : ∀ (y4 : Int32) (h : Hp), Sim cvi 0 g mX1_worstOf (e + 1) 86 [(4, .int y4)] [] h (K y4 h)) : ∀ (n : Nat) (l4 l5 : Int32) (h : Hp), Sim cvi 0 g mX1_worstOf (e + 1) 26 [(0, rv g 6 a0), (1, .int l1), (2, .int l2), (3, .int l3), (4, .int l4), (5, .int l5)] [] h (itr2 (fX1_worstOf_l26 self a0 l1 l2 l3 K) n l4 l5 h) := by
  refine s_itr2 (fun l4 l5 h o => Sim cvi 0 g mX1_worstOf (e + 1) 26 [(0, rv g 6 a0), (1, .int l1), (2, .int l2), (3, .int l3), (4, .int l4), (5, .int l5)] [] h o) (fun _ _ _ => s_none) ?_
  intro rec hrec l4 l5 h
  unfold fX1_worstOf_l26
  refine s_iload 5 dX1_worstOf_26 rfl ?_
  refine s_aload_n 0 dX1_worstOf_28 rfl rfl ?_
  refine s_geti (s0 := a0) dX1_worstOf_29 fl_X1_43 ?_
  refine s_icmp_ge (tgt := 86) dX1_worstOf_32 (by decide) ?_ ?_
  ·
    refine s_sub [4] rfl ?_
    exact hK l4 h
  ·
    refine s_iload_n 2 dX1_worstOf_35 rfl rfl ?_
    refine s_iload 5 dX1_worstOf_36 rfl ?_
    refine s_callSi (As := [.int l2, .int l5]) (rest := []) (cX0_leftOf_ok g l2 l5 h) sl_X1_56 rfl (by omega) (Nat.le_of_ble_eq_true rfl) dX1_worstOf_38 rfl (fun x6 h5 => ?_)
    refine s_istore (ls' := [(6, .int x6), (0, rv g 6 a0), (1, .int l1), (2, .int l2), (3, .int l3), (4, .int l4), (5, .int l5)]) dX1_worstOf_41 (by decide) rfl ?_
    refine s_iload 0 dX1_worstOf_43 rfl ?_
    refine s_jn (fun (k80_6 : Int32 → Hp → Option (Int32 × Hp)) => ∀ (y4_6 : Int32) (h8 : Hp), Sim cvi 0 g mX1_worstOf (e + 1) 80 [(0, rv g 6 a0), (1, .int l1), (2, .int l2), (3, .int l3), (4, .int y4_6), (5, .int l5)] [] h8 (k80_6 y4_6 h8)) (fun y4_6 h8 => ?_) (fun k80_6 Hk80_6 => ?_)
    ·
      refine s_iincl 5 (w := 1) (fun x9 => [(5, .int x9), (0, rv g 6 a0), (1, .int l1), (2, .int l2), (3, .int l3), (4, .int y4_6)]) dX1_worstOf_80 rfl rfl (by decide) (fun _ => rfl) (fun x9 => ?_)
      refine s_goto (tgt := 26) dX1_worstOf_83 (by decide) ?_
      refine s_sub [1, 2, 3, 4, 5, 0] rfl ?_
      exact hrec y4_6 x9 h8
    refine s_if_le (tgt := 80) dX1_worstOf_45 (by decide) ?_ ?_
    ·
      refine s_sub [1, 2, 3, 4, 5, 6] rfl ?_
      exact Hk80_6 l4 h5
    ·
      refine s_iload_n 3 dX1_worstOf_48 rfl rfl ?_
      refine s_iload 6 dX1_worstOf_49 rfl ?_
      refine s_iload 0 dX1_worstOf_51 rfl ?_
      refine s_iconst (v := 1) dX1_worstOf_53 rfl ?_
      refine s_isub dX1_worstOf_54 ?_
      refine s_callSi (As := [.int l2, .int l5, .int (x6 - (1 : Int32))]) (rest := []) (cX0_with_ok g l2 l5 (x6 - (1 : Int32)) h5) sl_X1_71 rfl (by omega) (Nat.le_of_ble_eq_true rfl) dX1_worstOf_55 rfl (fun x11 h10 => ?_)
      refine s_istore (ls' := [(7, .int x11), (6, .int x6), (0, rv g 6 a0), (1, .int l1), (2, .int l2), (3, .int l3), (4, .int l4), (5, .int l5)]) dX1_worstOf_58 (by decide) rfl ?_
      refine s_iload 6 dX1_worstOf_60 rfl ?_
      refine s_aload_n 2 dX1_worstOf_62 rfl rfl ?_
      refine s_iload_n 3 dX1_worstOf_63 rfl rfl ?_
      refine s_iload 0 dX1_worstOf_64 rfl ?_
      refine s_iload_n 5 dX1_worstOf_66 rfl rfl ?_
      refine s_iconst (v := 1) dX1_worstOf_67 rfl ?_
      refine s_isub dX1_worstOf_68 ?_
      refine s_callSi (As := [rv g 6 a0, .int l1, .int x11, .int (l3 - (1 : Int32))]) (rest := [.int l4]) (hself a0 l1 x11 (l3 - (1 : Int32)) h10) sl_X1_31 rfl (by omega) (Nat.le_of_ble_eq_true rfl) dX1_worstOf_69 rfl (fun x13 h12 => ?_)
      refine s_callSi (As := [.int x13]) (rest := [.int l4]) (cX1_valueOf_ok g x13 h12) sl_X1_46 rfl (by omega) (Nat.le_of_ble_eq_true rfl) dX1_worstOf_72 rfl (fun x15 h14 => ?_)
      refine s_mmin w_4_197 mw_min (by omega) (Nat.le_of_ble_eq_true rfl) dX1_worstOf_75 ?_
      refine s_leti (fun x16 => ?_)
      refine s_istore (ls' := [(4, .int x16), (7, .int x11), (6, .int x6), (0, rv g 6 a0), (1, .int l1), (2, .int l2), (3, .int l3), (5, .int l5)]) dX1_worstOf_78 (by decide) rfl ?_
      refine s_sub [3, 4, 5, 6, 0, 7] rfl ?_
      exact Hk80_6 x16 h14
set_option maxHeartbeats 4000000 in
set_option maxRecDepth 100000 in
theorem cX1_worstOf_ok (g : GE) (e : Nat) (he : 6 ≤ e) (self : Nat → Int32 → Int32 → Int32 → Hp → Option (Int32 × Hp)) (hself : ∀ (a0 : Nat) (l1 l2 l3 : Int32) (h : Hp), Con cvi 0 g mX1_bestAgainst e [rv g 6 a0, .int l1, .int l2, .int l3] h (self a0 l1 l2 l3 h)) (a0 : Nat) (l1 : Int32) (l2 : Int32) (l3 : Int32) (h : Hp) : Con cvi 0 g mX1_worstOf (e + 1) [rv g 6 a0, .int l1, .int l2, .int l3] h (fX1_worstOf self a0 l1 l2 l3 h) := by
  refine Con.of (by decide +kernel) (Nat.le_of_ble_eq_true rfl) ?_
  show Sim cvi 0 g mX1_worstOf (e + 1) 0 [(0, rv g 6 a0), (1, .int l1), (2, .int l2), (3, .int l3)] [] h _
  unfold fX1_worstOf
  refine s_iload_n 3 dX1_worstOf_0 rfl rfl ?_
  refine s_if_gt (tgt := 9) dX1_worstOf_1 (by decide) ?_ ?_
  ·
    refine s_aload_n 0 dX1_worstOf_9 rfl rfl ?_
    refine s_iload_n 1 dX1_worstOf_10 rfl rfl ?_
    refine s_iload_n 2 dX1_worstOf_11 rfl rfl ?_
    refine s_iload_n 3 dX1_worstOf_12 rfl rfl ?_
    refine s_iconst (v := 1) dX1_worstOf_13 rfl ?_
    refine s_isub dX1_worstOf_14 ?_
    refine s_callSi (As := [rv g 6 a0, .int l1, .int l2, .int (l3 - (1 : Int32))]) (rest := []) (hself a0 l1 l2 (l3 - (1 : Int32)) h) sl_X1_31 rfl (by omega) (Nat.le_of_ble_eq_true rfl) dX1_worstOf_15 rfl (fun x2 h1 => ?_)
    refine s_callSi (As := [.int x2]) (rest := []) (cX1_valueOf_ok g x2 h1) sl_X1_46 rfl (by omega) (Nat.le_of_ble_eq_true rfl) dX1_worstOf_18 rfl (fun x4 h3 => ?_)
    refine s_istore (ls' := [(4, .int x4), (0, rv g 6 a0), (1, .int l1), (2, .int l2), (3, .int l3)]) dX1_worstOf_21 (by decide) rfl ?_
    refine s_iconst (v := 0) dX1_worstOf_23 rfl ?_
    refine s_istore (ls' := [(5, .int 0), (4, .int x4), (0, rv g 6 a0), (1, .int l1), (2, .int l2), (3, .int l3)]) dX1_worstOf_24 (by decide) rfl ?_
    refine s_sub (ls' := [(0, rv g 6 a0), (1, .int l1), (2, .int l2), (3, .int l3), (4, .int x4), (5, .int 0)]) [2, 3, 4, 5, 1, 0] rfl ?_
    refine sX1_worstOf_l26 g e he self hself a0 l1 l2 l3 _ (fun y17 h18 => ?_) FU x4 0 h3
    refine s_iload 0 dX1_worstOf_86 rfl ?_
    exact s_iret rfl dX1_worstOf_88
  ·
    refine s_iload_n 2 dX1_worstOf_4 rfl rfl ?_
    refine s_callSi (As := [.int l2]) (rest := []) (cX0_standing_ok g l2 h) sl_X1_34 rfl (by omega) (Nat.le_of_ble_eq_true rfl) dX1_worstOf_5 rfl (fun x20 h19 => ?_)
    exact s_iret rfl dX1_worstOf_8
def fX1_bestAgainst_l35 (self : Nat → Int32 → Int32 → Int32 → Hp → Option (Int32 × Hp)) (a0 : Nat) (l1 : Int32) (l2 : Int32) (l3 : Int32) (K : Int32 → Hp → Option (Int32 × Hp)) (rec : Int32 → Int32 → Hp → Option (Int32 × Hp)) (l4 l5 : Int32) (h : Hp) : Option (Int32 × Hp) :=
  if (rd h 6 a0 2) ≤ l5 then (K l4 h)
  else (bnd (fX0_leftOf l2 l5 h) fun x8 h7 =>
  jn (κ := Int32 → Hp → Option (Int32 × Hp)) (fun y4_8 h10 => lt (l5 + 1) fun x11 =>
  rec y4_8 x11 h10) fun k95_8 =>
  if x8 ≤ 0 then (k95_8 l4 h7)
  else (bnd (fX0_behindRun a0 l1 l2 l5 h7) fun x13 h12 =>
  ck (ib l5 5) (
  bnd (self a0 (ra h12 33 a0 l5) x13 (l3 - (1 : Int32)) h12) fun x15 h14 =>
  bnd (fX1_rated x15 l5 h14) fun x17 h16 =>
  lt (if l4 < x17 then x17 else l4) fun x18 =>
  k95_8 x18 h16)))
def fX1_bestAgainst (self : Nat → Int32 → Int32 → Int32 → Hp → Option (Int32 × Hp)) (a0 : Nat) (l1 : Int32) (l2 : Int32) (l3 : Int32) (h : Hp) : Option (Int32 × Hp) :=
  if (0 : Int32) < l3 then (bnd (fX0_passed l2 1 h) fun x2 h1 =>
  bnd (self a0 l1 x2 (l3 - (1 : Int32)) h1) fun x4 h3 =>
  bnd (fX1_rated x4 5 h3) fun x6 h5 =>
  itr2 (fX1_bestAgainst_l35 self a0 l1 l2 l3 (fun y19 h20 => some (y19, h20))) FU x6 0 h5)
  else (bnd (fX0_standing l2 h) fun x22 h21 =>
  bnd (fX1_rated x22 5 h21) fun x24 h23 =>
  some (x24, h23))
set_option maxHeartbeats 4000000 in
set_option maxRecDepth 100000 in
theorem sX1_bestAgainst_l35 (g : GE) (e : Nat) (he : 6 ≤ e) (self : Nat → Int32 → Int32 → Int32 → Hp → Option (Int32 × Hp)) (hself : ∀ (a0 : Nat) (l1 l2 l3 : Int32) (h : Hp), Con cvi 0 g mX1_worstOf e [rv g 6 a0, .int l1, .int l2, .int l3] h (self a0 l1 l2 l3 h)) (a0 : Nat) (l1 : Int32) (l2 : Int32) (l3 : Int32) (K : Int32 → Hp → Option (Int32 × Hp)) (hK : ∀ (y4 : Int32) (h : Hp), Sim cvi 0 g mX1_bestAgainst (e + 1) 101 [(4, .int y4)] [] h (K y4 h)) : ∀ (n : Nat) (l4 l5 : Int32) (h : Hp), Sim cvi 0 g mX1_bestAgainst (e + 1) 35 [(0, rv g 6 a0), (1, .int l1), (2, .int l2), (3, .int l3), (4, .int l4), (5, .int l5)] [] h (itr2 (fX1_bestAgainst_l35 self a0 l1 l2 l3 K) n l4 l5 h) := by
  refine s_itr2 (fun l4 l5 h o => Sim cvi 0 g mX1_bestAgainst (e + 1) 35 [(0, rv g 6 a0), (1, .int l1), (2, .int l2), (3, .int l3), (4, .int l4), (5, .int l5)] [] h o) (fun _ _ _ => s_none) ?_
  intro rec hrec l4 l5 h
  unfold fX1_bestAgainst_l35
  refine s_iload 5 dX1_bestAgainst_35 rfl ?_
  refine s_aload_n 0 dX1_bestAgainst_37 rfl rfl ?_
  refine s_geti (s0 := a0) dX1_bestAgainst_38 fl_X1_43 ?_
  refine s_icmp_ge (tgt := 101) dX1_bestAgainst_41 (by decide) ?_ ?_
  ·
    refine s_sub [4] rfl ?_
    exact hK l4 h
  ·
    refine s_iload_n 2 dX1_bestAgainst_44 rfl rfl ?_
    refine s_iload 5 dX1_bestAgainst_45 rfl ?_
    refine s_callSi (As := [.int l2, .int l5]) (rest := []) (cX0_leftOf_ok g l2 l5 h) sl_X1_56 rfl (by omega) (Nat.le_of_ble_eq_true rfl) dX1_bestAgainst_47 rfl (fun x8 h7 => ?_)
    refine s_jn (fun (k95_8 : Int32 → Hp → Option (Int32 × Hp)) => ∀ (y4_8 : Int32) (h10 : Hp), Sim cvi 0 g mX1_bestAgainst (e + 1) 95 [(0, rv g 6 a0), (1, .int l1), (2, .int l2), (3, .int l3), (4, .int y4_8), (5, .int l5)] [] h10 (k95_8 y4_8 h10)) (fun y4_8 h10 => ?_) (fun k95_8 Hk95_8 => ?_)
    ·
      refine s_iincl 5 (w := 1) (fun x11 => [(5, .int x11), (0, rv g 6 a0), (1, .int l1), (2, .int l2), (3, .int l3), (4, .int y4_8)]) dX1_bestAgainst_95 rfl rfl (by decide) (fun _ => rfl) (fun x11 => ?_)
      refine s_goto (tgt := 35) dX1_bestAgainst_98 (by decide) ?_
      refine s_sub [1, 2, 3, 4, 5, 0] rfl ?_
      exact hrec y4_8 x11 h10
    refine s_if_le (tgt := 95) dX1_bestAgainst_50 (by decide) ?_ ?_
    ·
      exact Hk95_8 l4 h7
    ·
      refine s_aload_n 0 dX1_bestAgainst_53 rfl rfl ?_
      refine s_iload_n 1 dX1_bestAgainst_54 rfl rfl ?_
      refine s_iload_n 2 dX1_bestAgainst_55 rfl rfl ?_
      refine s_iload 5 dX1_bestAgainst_56 rfl ?_
      refine s_callSi (As := [rv g 6 a0, .int l1, .int l2, .int l5]) (rest := []) (cX0_behindRun_ok g a0 l1 l2 l5 h7) sl_X1_59 rfl (by omega) (Nat.le_of_ble_eq_true rfl) dX1_bestAgainst_58 rfl (fun x13 h12 => ?_)
      refine s_istore (ls' := [(6, .int x13), (0, rv g 6 a0), (1, .int l1), (2, .int l2), (3, .int l3), (4, .int l4), (5, .int l5)]) dX1_bestAgainst_61 (by decide) rfl ?_
      refine s_aload_n 1 dX1_bestAgainst_63 rfl rfl ?_
      refine s_aload_n 1 dX1_bestAgainst_64 rfl rfl ?_
      refine s_getr1 (k2 := 33) (s0 := a0) rfl dX1_bestAgainst_65 fl_X1_49 ?_
      refine s_iload 6 dX1_bestAgainst_68 rfl ?_
      refine s_iald (s0 := a0) ka_33 dX1_bestAgainst_70 ?_
      refine s_iload 0 dX1_bestAgainst_71 rfl ?_
      refine s_iload_n 4 dX1_bestAgainst_73 rfl rfl ?_
      refine s_iconst (v := 1) dX1_bestAgainst_74 rfl ?_
      refine s_isub dX1_bestAgainst_75 ?_
      refine s_callSi (As := [rv g 6 a0, .int (ra h12 33 a0 l5), .int x13, .int (l3 - (1 : Int32))]) (rest := []) (hself a0 (ra h12 33 a0 l5) x13 (l3 - (1 : Int32)) h12) sl_X1_68 rfl (by omega) (Nat.le_of_ble_eq_true rfl) dX1_bestAgainst_76 rfl (fun x15 h14 => ?_)
      refine s_istore (ls' := [(7, .int x15), (6, .int x13), (0, rv g 6 a0), (1, .int l1), (2, .int l2), (3, .int l3), (4, .int l4), (5, .int l5)]) dX1_bestAgainst_79 (by decide) rfl ?_
      refine s_iload 6 dX1_bestAgainst_81 rfl ?_
      refine s_iload 0 dX1_bestAgainst_83 rfl ?_
      refine s_iload 7 dX1_bestAgainst_85 rfl ?_
      refine s_callSi (As := [.int x15, .int l5]) (rest := [.int l4]) (cX1_rated_ok g x15 l5 h14) sl_X1_40 rfl (by omega) (Nat.le_of_ble_eq_true rfl) dX1_bestAgainst_87 rfl (fun x17 h16 => ?_)
      refine s_mmax w_4_213 mw_max (by omega) (Nat.le_of_ble_eq_true rfl) dX1_bestAgainst_90 ?_
      refine s_leti (fun x18 => ?_)
      refine s_istore (ls' := [(4, .int x18), (7, .int x15), (6, .int x13), (0, rv g 6 a0), (1, .int l1), (2, .int l2), (3, .int l3), (5, .int l5)]) dX1_bestAgainst_93 (by decide) rfl ?_
      refine s_sub [3, 4, 5, 6, 0, 7] rfl ?_
      exact Hk95_8 x18 h16
set_option maxHeartbeats 4000000 in
set_option maxRecDepth 100000 in
theorem cX1_bestAgainst_ok (g : GE) (e : Nat) (he : 6 ≤ e) (self : Nat → Int32 → Int32 → Int32 → Hp → Option (Int32 × Hp)) (hself : ∀ (a0 : Nat) (l1 l2 l3 : Int32) (h : Hp), Con cvi 0 g mX1_worstOf e [rv g 6 a0, .int l1, .int l2, .int l3] h (self a0 l1 l2 l3 h)) (a0 : Nat) (l1 : Int32) (l2 : Int32) (l3 : Int32) (h : Hp) : Con cvi 0 g mX1_bestAgainst (e + 1) [rv g 6 a0, .int l1, .int l2, .int l3] h (fX1_bestAgainst self a0 l1 l2 l3 h) := by
  refine Con.of (by decide +kernel) (Nat.le_of_ble_eq_true rfl) ?_
  show Sim cvi 0 g mX1_bestAgainst (e + 1) 0 [(0, rv g 6 a0), (1, .int l1), (2, .int l2), (3, .int l3)] [] h _
  unfold fX1_bestAgainst
  refine s_iload_n 3 dX1_bestAgainst_0 rfl rfl ?_
  refine s_if_gt (tgt := 13) dX1_bestAgainst_1 (by decide) ?_ ?_
  ·
    refine s_aload_n 0 dX1_bestAgainst_13 rfl rfl ?_
    refine s_iload_n 1 dX1_bestAgainst_14 rfl rfl ?_
    refine s_iload_n 2 dX1_bestAgainst_15 rfl rfl ?_
    refine s_iconst (v := 1) dX1_bestAgainst_16 rfl ?_
    refine s_callSi (As := [.int l2, .int 1]) (rest := [.int l1, rv g 6 a0]) (cX0_passed_ok g l2 1 h) sl_X1_65 rfl (by omega) (Nat.le_of_ble_eq_true rfl) dX1_bestAgainst_17 rfl (fun x2 h1 => ?_)
    refine s_iload_n 3 dX1_bestAgainst_20 rfl rfl ?_
    refine s_iconst (v := 1) dX1_bestAgainst_21 rfl ?_
    refine s_isub dX1_bestAgainst_22 ?_
    refine s_callSi (As := [rv g 6 a0, .int l1, .int x2, .int (l3 - (1 : Int32))]) (rest := []) (hself a0 l1 x2 (l3 - (1 : Int32)) h1) sl_X1_68 rfl (by omega) (Nat.le_of_ble_eq_true rfl) dX1_bestAgainst_23 rfl (fun x4 h3 => ?_)
    refine s_iconst (v := 5) dX1_bestAgainst_26 rfl ?_
    refine s_callSi (As := [.int x4, .int 5]) (rest := []) (cX1_rated_ok g x4 5 h3) sl_X1_40 rfl (by omega) (Nat.le_of_ble_eq_true rfl) dX1_bestAgainst_27 rfl (fun x6 h5 => ?_)
    refine s_istore (ls' := [(4, .int x6), (0, rv g 6 a0), (1, .int l1), (2, .int l2), (3, .int l3)]) dX1_bestAgainst_30 (by decide) rfl ?_
    refine s_iconst (v := 0) dX1_bestAgainst_32 rfl ?_
    refine s_istore (ls' := [(5, .int 0), (4, .int x6), (0, rv g 6 a0), (1, .int l1), (2, .int l2), (3, .int l3)]) dX1_bestAgainst_33 (by decide) rfl ?_
    refine s_sub (ls' := [(0, rv g 6 a0), (1, .int l1), (2, .int l2), (3, .int l3), (4, .int x6), (5, .int 0)]) [2, 3, 4, 5, 1, 0] rfl ?_
    refine sX1_bestAgainst_l35 g e he self hself a0 l1 l2 l3 _ (fun y19 h20 => ?_) FU x6 0 h5
    refine s_iload 0 dX1_bestAgainst_101 rfl ?_
    exact s_iret rfl dX1_bestAgainst_103
  ·
    refine s_iload_n 2 dX1_bestAgainst_4 rfl rfl ?_
    refine s_callSi (As := [.int l2]) (rest := []) (cX0_standing_ok g l2 h) sl_X1_34 rfl (by omega) (Nat.le_of_ble_eq_true rfl) dX1_bestAgainst_5 rfl (fun x22 h21 => ?_)
    refine s_iconst (v := 5) dX1_bestAgainst_8 rfl ?_
    refine s_callSi (As := [.int x22, .int 5]) (rest := []) (cX1_rated_ok g x22 5 h21) sl_X1_40 rfl (by omega) (Nat.le_of_ble_eq_true rfl) dX1_bestAgainst_9 rfl (fun x24 h23 => ?_)
    exact s_iret rfl dX1_bestAgainst_12
def fxX1_bestAgainst : Nat → Nat → Int32 → Int32 → Int32 → Hp → Option (Int32 × Hp)
  | 0 => fun _ _ _ _ _ => none
  | n + 1 => fX1_bestAgainst (fX1_worstOf (fxX1_bestAgainst n))
theorem cxX1_bestAgainst (g : GE) : ∀ (n : Nat) (a0 : Nat) (l1 l2 l3 : Int32) (h : Hp), Con cvi 0 g mX1_bestAgainst (6 + 2 * n) [rv g 6 a0, .int l1, .int l2, .int l3] h (fxX1_bestAgainst n a0 l1 l2 l3 h) := by
  intro n
  induction n with
  | zero => intro a0 l1 l2 l3 h r h' ho; cases ho
  | succ n ih => exact fun a0 l1 l2 l3 h => cX1_bestAgainst_ok g (6 + 2 * n + 1) (by omega) _ (fun a0 l1 l2 l3 h => cX1_worstOf_ok g (6 + 2 * n) (by omega) _ ih a0 l1 l2 l3 h) a0 l1 l2 l3 h
def fX1_duelling (a0 : Nat) (l1 : Int32) (h : Hp) : Option (Int32 × Hp) :=
  bnd (fX8_packed a0 h) fun x2 h1 =>
  lt (if 3 < l1 then 3 else l1) fun x3 =>
  bnd (fxX1_bestAgainst 4 a0 (rd h 6 a0 1) x2 x3 h1) fun x5 h4 =>
  some (x5, h4)
set_option maxHeartbeats 4000000 in
set_option maxRecDepth 100000 in
theorem cX1_duelling_ok (g : GE) (a0 : Nat) (l1 : Int32) (h : Hp) : Con cvi 0 g mX1_duelling 15 [rv g 6 a0, .int l1] h (fX1_duelling a0 l1 h) := by
  refine Con.of (by decide +kernel) (Nat.le_of_ble_eq_true rfl) ?_
  show Sim cvi 0 g mX1_duelling 15 0 [(0, rv g 6 a0), (1, .int l1)] [] h _
  unfold fX1_duelling
  refine s_aload_n 0 dX1_duelling_0 rfl rfl ?_
  refine s_aload_n 0 dX1_duelling_1 rfl rfl ?_
  refine s_geti (s0 := a0) dX1_duelling_2 fl_X1_11 ?_
  refine s_aload_n 0 dX1_duelling_5 rfl rfl ?_
  refine s_callVi (s0 := a0) (As := []) (rest := [.int (rd h 6 a0 1), rv g 6 a0]) (cX8_packed_ok g a0 h) vl_X1_17 rfl (Nat.le_of_ble_eq_true rfl) (Nat.le_of_ble_eq_true rfl) dX1_duelling_6 rfl (fun x2 h1 => ?_)
  refine s_iload_n 1 dX1_duelling_9 rfl rfl ?_
  refine s_iconst (v := 3) dX1_duelling_10 rfl ?_
  refine s_mmin w_4_197 mw_min (Nat.le_of_ble_eq_true rfl) (Nat.le_of_ble_eq_true rfl) dX1_duelling_11 ?_
  refine s_leti (fun x3 => ?_)
  refine s_callSi (As := [rv g 6 a0, .int (rd h 6 a0 1), .int x2, .int x3]) (rest := []) (cxX1_bestAgainst g 4 a0 (rd h 6 a0 1) x2 x3 h1) sl_X1_31 rfl (Nat.le_of_ble_eq_true rfl) (Nat.le_of_ble_eq_true rfl) dX1_duelling_14 rfl (fun x5 h4 => ?_)
  exact s_iret rfl dX1_duelling_17
def fX11_duel (l1 : Int32) (l2 : Int32) (l3 : Int32) (h : Hp) : Option (Int32 × Hp) :=
  bnd (fX9_stageAt 0 l1 h) fun x2 h1 =>
  nl x2 (some ((-9), h1))
  fun b3 => (if l2 < 0 then (some ((-9), h1))
  else (if l2 ≤ 3 then (jn (κ := Hp → Option (Int32 × Hp)) (fun h5 => bnd (fX1_duelling b3 l2 h5) fun x7 h6 =>
  if l3 = 0 then (bnd (fX1_valueOf x7 h6) fun x9 h8 =>
  some (x9, h8))
  else (bnd (fX1_choiceOf x7 h6) fun x11 h10 =>
  some (x11, h10))) fun k37_3 =>
  if l3 = 0 then (k37_3 h1)
  else (if l2 = 0 then (some ((-1), h1))
  else (k37_3 h1)))
  else (some ((-9), h1))))
set_option maxHeartbeats 4000000 in
set_option maxRecDepth 100000 in
theorem cX11_duel_ok (g : GE) (l1 : Int32) (l2 : Int32) (l3 : Int32) (h : Hp) : Con cvi 0 g mX11_duel 16 [rv g 9 0, .int l1, .int l2, .int l3] h (fX11_duel l1 l2 l3 h) := by
  refine Con.of (by decide +kernel) (Nat.le_of_ble_eq_true rfl) ?_
  show Sim cvi 0 g mX11_duel 16 0 [(0, rv g 9 0), (1, .int l1), (2, .int l2), (3, .int l3)] [] h _
  unfold fX11_duel
  refine s_aload_n 0 dX11_duel_0 rfl rfl ?_
  refine s_getr (s0 := 0) dX11_duel_1 fl_X11_10 ?_
  refine s_iload_n 1 dX11_duel_4 rfl rfl ?_
  refine s_callVq (s0 := 0) (As := [.int l1]) (rest := []) (cX9_stageAt_ok g 0 l1 h) vl_X11_85 rfl (Nat.le_of_ble_eq_true rfl) (Nat.le_of_ble_eq_true rfl) dX11_duel_5 rfl (fun x2 h1 => ?_)
  refine s_astoreq (ls' := [(4, rq g 6 x2), (0, rv g 9 0), (1, .int l1), (2, .int l2), (3, .int l3)]) dX11_duel_8 (by decide) (List.forall_mem_cons.mpr ⟨rfl, (List.forall_mem_cons.mpr ⟨rfl, (List.forall_mem_cons.mpr ⟨rfl, (List.forall_mem_cons.mpr ⟨rfl, (fun _ h => absurd h List.not_mem_nil)⟩)⟩)⟩)⟩) rfl ?_
  refine s_aloadq 0 dX11_duel_10 rfl ?_
  refine s_ifnull x2 (tgt := 24) (fun qq => [(4, rq g 6 qq), (0, rv g 9 0), (1, .int l1), (2, .int l2), (3, .int l3)]) dX11_duel_12 (by decide) ?_ (fun b3 => ?_)
  ·
    refine s_bipush (v := (-9)) dX11_duel_24 rfl ?_
    exact s_iret rfl dX11_duel_26
  ·
    refine s_iload_n 3 dX11_duel_15 rfl rfl ?_
    refine s_if_lt (tgt := 24) dX11_duel_16 (by decide) ?_ ?_
    ·
      refine s_bipush (v := (-9)) dX11_duel_24 rfl ?_
      exact s_iret rfl dX11_duel_26
    ·
      refine s_iload_n 3 dX11_duel_19 rfl rfl ?_
      refine s_iconst (v := 3) dX11_duel_20 rfl ?_
      refine s_icmp_le (tgt := 27) dX11_duel_21 (by decide) ?_ ?_
      ·
        refine s_iload_n 4 dX11_duel_27 rfl rfl ?_
        refine s_jn (fun (k37_3 : Hp → Option (Int32 × Hp)) => ∀ (h5 : Hp), Sim cvi 0 g mX11_duel 16 37 [(2, .int l2), (3, .int l3), (4, rv g 6 b3)] [] h5 (k37_3 h5)) (fun h5 => ?_) (fun k37_3 Hk37_3 => ?_)
        ·
          refine s_aload 2 dX11_duel_37 rfl ?_
          refine s_iload_n 0 dX11_duel_39 rfl rfl ?_
          refine s_callSi (As := [rv g 6 b3, .int l2]) (rest := []) (cX1_duelling_ok g b3 l2 h5) sl_X11_193 rfl (Nat.le_of_ble_eq_true rfl) (Nat.le_of_ble_eq_true rfl) dX11_duel_40 rfl (fun x7 h6 => ?_)
          refine s_istore (ls' := [(5, .int x7), (2, .int l2), (3, .int l3), (4, rv g 6 b3)]) dX11_duel_43 (by decide) rfl ?_
          refine s_iload_n 2 dX11_duel_45 rfl rfl ?_
          refine s_if_eq (tgt := 57) dX11_duel_46 (by decide) ?_ ?_
          ·
            refine s_iload 0 dX11_duel_57 rfl ?_
            refine s_callSi (As := [.int x7]) (rest := []) (cX1_valueOf_ok g x7 h6) sl_X11_190 rfl (Nat.le_of_ble_eq_true rfl) (Nat.le_of_ble_eq_true rfl) dX11_duel_59 rfl (fun x9 h8 => ?_)
            exact s_iret rfl dX11_duel_62
          ·
            refine s_iload 0 dX11_duel_49 rfl ?_
            refine s_callSi (As := [.int x7]) (rest := []) (cX1_choiceOf_ok g x7 h6) sl_X11_187 rfl (Nat.le_of_ble_eq_true rfl) (Nat.le_of_ble_eq_true rfl) dX11_duel_51 rfl (fun x11 h10 => ?_)
            refine s_goto (tgt := 62) dX11_duel_54 (by decide) ?_
            exact s_iret rfl dX11_duel_62
        refine s_if_eq (tgt := 37) dX11_duel_28 (by decide) ?_ ?_
        ·
          refine s_sub [3, 4, 0] rfl ?_
          exact Hk37_3 h1
        ·
          refine s_iload_n 3 dX11_duel_31 rfl rfl ?_
          refine s_if_ne (tgt := 37) dX11_duel_32 (by decide) ?_ ?_
          ·
            refine s_iconst (v := (-1)) dX11_duel_35 rfl ?_
            exact s_iret rfl dX11_duel_36
          ·
            refine s_sub [3, 4, 0] rfl ?_
            exact Hk37_3 h1
      ·
        refine s_bipush (v := (-9)) dX11_duel_24 rfl ?_
        exact s_iret rfl dX11_duel_26
def fX11_end (l1 : Int32) (h : Hp) : Option (Int32 × Hp) :=
  if l1 < 0 then (some ((-1), h))
  else (if l1 ≤ (rd h 7 0 1) then (lt (wr h 7 0 1 l1) fun h1 =>
  some (l1, h1))
  else (some ((-1), h)))
set_option maxHeartbeats 4000000 in
set_option maxRecDepth 100000 in
theorem cX11_end_ok (g : GE) (l1 : Int32) (h : Hp) : Con cvi 0 g mX11_end 2 [rv g 9 0, .int l1] h (fX11_end l1 h) := by
  refine Con.of (by decide +kernel) (Nat.le_of_ble_eq_true rfl) ?_
  show Sim cvi 0 g mX11_end 2 0 [(0, rv g 9 0), (1, .int l1)] [] h _
  unfold fX11_end
  refine s_iload_n 1 dX11_end_0 rfl rfl ?_
  refine s_if_lt (tgt := 15) dX11_end_1 (by decide) ?_ ?_
  ·
    refine s_iconst (v := (-1)) dX11_end_15 rfl ?_
    exact s_iret rfl dX11_end_16
  ·
    refine s_iload_n 1 dX11_end_4 rfl rfl ?_
    refine s_aload_n 0 dX11_end_5 rfl rfl ?_
    refine s_getr (s0 := 0) dX11_end_6 fl_X11_10 ?_
    refine s_geti (s0 := 0) dX11_end_9 fl_X11_57 ?_
    refine s_icmp_le (tgt := 17) dX11_end_12 (by decide) ?_ ?_
    ·
      refine s_aload_n 0 dX11_end_17 rfl rfl ?_
      refine s_getr (s0 := 0) dX11_end_18 fl_X11_10 ?_
      refine s_iload_n 1 dX11_end_21 rfl rfl ?_
      refine s_puti (s0 := 0) dX11_end_22 fl_X11_57 (fun h1 => ?_)
      refine s_iload_n 1 dX11_end_25 rfl rfl ?_
      exact s_iret rfl dX11_end_26
    ·
      refine s_iconst (v := (-1)) dX11_end_15 rfl ?_
      exact s_iret rfl dX11_end_16
def fX11_fault (l1 : Int32) (h : Hp) : Option (Int32 × Hp) :=
  if l1 = 0 then (some (rd h 7 0 2, h))
  else if l1 = 1 then (some (rd h 7 0 3, h))
  else (some ((-1), h))
set_option maxHeartbeats 4000000 in
set_option maxRecDepth 100000 in
theorem cX11_fault_ok (g : GE) (l1 : Int32) (h : Hp) : Con cvi 0 g mX11_fault 2 [rv g 9 0, .int l1] h (fX11_fault l1 h) := by
  refine Con.of (by decide +kernel) (Nat.le_of_ble_eq_true rfl) ?_
  show Sim cvi 0 g mX11_fault 2 0 [(0, rv g 9 0), (1, .int l1)] [] h _
  unfold fX11_fault
  refine s_iload_n 1 dX11_fault_0 rfl rfl ?_
  refine s_lk 0 (tgt := 28) dX11_fault_1 (by decide) rfl (by decide) ?_ (fun e1 => ?_)
  ·
    refine s_aload_n 0 dX11_fault_28 rfl rfl ?_
    refine s_getr (s0 := 0) dX11_fault_29 fl_X11_10 ?_
    refine s_geti (s0 := 0) dX11_fault_32 fl_X11_69 ?_
    exact s_iret rfl dX11_fault_35
  refine s_lk 1 (tgt := 36) dX11_fault_1 (by decide) rfl (by decide) ?_ (fun e2 => ?_)
  ·
    refine s_aload_n 0 dX11_fault_36 rfl rfl ?_
    refine s_getr (s0 := 0) dX11_fault_37 fl_X11_10 ?_
    refine s_geti (s0 := 0) dX11_fault_40 fl_X11_72 ?_
    exact s_iret rfl dX11_fault_43
  refine s_lkd (tgt := 44) dX11_fault_1 (by decide) ((lv_osw e1 rfl).trans ((lv_osw e2 rfl).trans rfl)) (by decide) ?_
  refine s_iconst (v := (-1)) dX11_fault_44 rfl ?_
  exact s_iret rfl dX11_fault_45
def fX9_addBytes_l3 (a0 : Nat) (l1 : Int32) (K : Hp → Option (Unit × Hp)) (rec : Int32 → Hp → Option (Unit × Hp)) (l2 : Int32) (h : Hp) : Option (Unit × Hp) :=
  if l2 < 0 then (K h)
  else (if (600 : Int32) ≤ (rd h 7 a0 1) then (K h)
  else (ck (ib (rd h 7 a0 1) 600) (lt (wa h 36 a0 (rd h 7 a0 1) (vp_nar .byte (((l1.toUInt32 >>> (l2.toUInt32 &&& Int32.toUInt32 31)).toInt32).toInt8.toInt32))) fun h1 =>
  lt (wr h1 7 a0 1 ((rd h1 7 a0 1) + (1 : Int32))) fun h2 =>
  lt (l2 + (-8)) fun x3 =>
  rec x3 h2)))
def fX9_addBytes (a0 : Nat) (l1 : Int32) (h : Hp) : Option (Unit × Hp) :=
  itr1 (fX9_addBytes_l3 a0 l1 (fun h4 => some ((), h4))) FU 24 h
set_option maxHeartbeats 4000000 in
set_option maxRecDepth 100000 in
theorem sX9_addBytes_l3 (g : GE) (a0 : Nat) (l1 : Int32) (K : Hp → Option (Unit × Hp)) (hK : ∀ (h : Hp), Sim cvv 0 g mX9_addBytes 2 48 [] [] h (K  h)) : ∀ (n : Nat) (l2 : Int32) (h : Hp), Sim cvv 0 g mX9_addBytes 2 3 [(0, rv g 7 a0), (1, .int l1), (2, .int l2)] [] h (itr1 (fX9_addBytes_l3 a0 l1 K) n l2 h) := by
  refine s_itr1 (fun l2 h o => Sim cvv 0 g mX9_addBytes 2 3 [(0, rv g 7 a0), (1, .int l1), (2, .int l2)] [] h o) (fun _ _ => s_none) ?_
  intro rec hrec l2 h
  unfold fX9_addBytes_l3
  refine s_iload_n 2 dX9_addBytes_3 rfl rfl ?_
  refine s_if_lt (tgt := 48) dX9_addBytes_4 (by decide) ?_ ?_
  ·
    refine s_sub [] rfl ?_
    exact hK h
  ·
    refine s_aload_n 0 dX9_addBytes_7 rfl rfl ?_
    refine s_geti (s0 := a0) dX9_addBytes_8 fl_X9_15 ?_
    refine s_aload_n 0 dX9_addBytes_11 rfl rfl ?_
    refine s_getr1 (k2 := 36) (s0 := a0) rfl dX9_addBytes_12 fl_X9_9 ?_
    refine s_alen1 (v := 600) ka_36 rfl dX9_addBytes_15 ?_
    refine s_icmp_ge (tgt := 48) dX9_addBytes_16 (by decide) ?_ ?_
    ·
      refine s_sub [] rfl ?_
      exact hK h
    ·
      refine s_aload_n 0 dX9_addBytes_19 rfl rfl ?_
      refine s_getr1 (k2 := 36) (s0 := a0) rfl dX9_addBytes_20 fl_X9_9 ?_
      refine s_aload_n 0 dX9_addBytes_23 rfl rfl ?_
      refine s_geti (s0 := a0) dX9_addBytes_24 fl_X9_15 ?_
      refine s_iload_n 1 dX9_addBytes_27 rfl rfl ?_
      refine s_iload_n 2 dX9_addBytes_28 rfl rfl ?_
      refine s_iushr dX9_addBytes_29 ?_
      refine s_i2b dX9_addBytes_30 ?_
      refine s_bast (s0 := a0) ka_36 dX9_addBytes_31 (fun h1 => ?_)
      refine s_aload_n 0 dX9_addBytes_32 rfl rfl ?_
      refine s_dup dX9_addBytes_33 rfl ?_
      refine s_geti (s0 := a0) dX9_addBytes_34 fl_X9_15 ?_
      refine s_iconst (v := 1) dX9_addBytes_37 rfl ?_
      refine s_iadd dX9_addBytes_38 ?_
      refine s_puti (s0 := a0) dX9_addBytes_39 fl_X9_15 (fun h2 => ?_)
      refine s_iincl 2 (w := (-8)) (fun x3 => [(2, .int x3), (0, rv g 7 a0), (1, .int l1)]) dX9_addBytes_42 rfl rfl (by decide) (fun _ => rfl) (fun x3 => ?_)
      refine s_goto (tgt := 3) dX9_addBytes_45 (by decide) ?_
      refine s_sub [1, 2, 0] rfl ?_
      exact hrec x3 h2
set_option maxHeartbeats 4000000 in
set_option maxRecDepth 100000 in
theorem cX9_addBytes_ok (g : GE) (a0 : Nat) (l1 : Int32) (h : Hp) : Con cvv 0 g mX9_addBytes 2 [rv g 7 a0, .int l1] h (fX9_addBytes a0 l1 h) := by
  refine Con.of (by decide +kernel) (Nat.le_of_ble_eq_true rfl) ?_
  show Sim cvv 0 g mX9_addBytes 2 0 [(0, rv g 7 a0), (1, .int l1)] [] h _
  unfold fX9_addBytes
  refine s_bipush (v := 24) dX9_addBytes_0 rfl ?_
  refine s_istore_n (ls' := [(2, .int 24), (0, rv g 7 a0), (1, .int l1)]) dX9_addBytes_2 rfl (by decide) rfl ?_
  refine s_sub (ls' := [(0, rv g 7 a0), (1, .int l1), (2, .int 24)]) [1, 2, 0] rfl ?_
  refine sX9_addBytes_l3 g a0 l1 _ (fun h4 => ?_) FU 24 h
  exact s_vret rfl dX9_addBytes_48
def fX11_feed (l1 : Int32) (l2 : Int32) (l3 : Int32) (l4 : Int32) (l5 : Int32) (h : Hp) : Option (Int32 × Hp) :=
  if ((rd h 7 0 1) + (20 : Int32)) ≤ 600 then (bnd (fX9_addBytes 0 l1 h) fun _ h1 =>
  bnd (fX9_addBytes 0 l2 h1) fun _ h2 =>
  bnd (fX9_addBytes 0 l3 h2) fun _ h3 =>
  bnd (fX9_addBytes 0 l4 h3) fun _ h4 =>
  bnd (fX9_addBytes 0 l5 h4) fun _ h5 =>
  some (rd h5 7 0 1, h5))
  else (some ((-1), h))
set_option maxHeartbeats 4000000 in
set_option maxRecDepth 100000 in
theorem cX11_feed_ok (g : GE) (l1 : Int32) (l2 : Int32) (l3 : Int32) (l4 : Int32) (l5 : Int32) (h : Hp) : Con cvi 0 g mX11_feed 3 [rv g 9 0, .int l1, .int l2, .int l3, .int l4, .int l5] h (fX11_feed l1 l2 l3 l4 l5 h) := by
  refine Con.of (by decide +kernel) (Nat.le_of_ble_eq_true rfl) ?_
  show Sim cvi 0 g mX11_feed 3 0 [(0, rv g 9 0), (1, .int l1), (2, .int l2), (3, .int l3), (4, .int l4), (5, .int l5)] [] h _
  unfold fX11_feed
  refine s_aload_n 0 dX11_feed_0 rfl rfl ?_
  refine s_getr (s0 := 0) dX11_feed_1 fl_X11_10 ?_
  refine s_geti (s0 := 0) dX11_feed_4 fl_X11_57 ?_
  refine s_bipush (v := 20) dX11_feed_7 rfl ?_
  refine s_iadd dX11_feed_9 ?_
  refine s_sipush (v := 600) dX11_feed_10 rfl ?_
  refine s_icmp_le (tgt := 18) dX11_feed_13 (by decide) ?_ ?_
  ·
    refine s_aload_n 0 dX11_feed_18 rfl rfl ?_
    refine s_getr (s0 := 0) dX11_feed_19 fl_X11_10 ?_
    refine s_iload_n 1 dX11_feed_22 rfl rfl ?_
    refine s_callVv (s0 := 0) (As := [.int l1]) (rest := []) (cX9_addBytes_ok g 0 l1 h) vl_X11_61 rfl (Nat.le_of_ble_eq_true rfl) (Nat.le_of_ble_eq_true rfl) dX11_feed_23 rfl (fun h1 => ?_)
    refine s_aload_n 0 dX11_feed_26 rfl rfl ?_
    refine s_getr (s0 := 0) dX11_feed_27 fl_X11_10 ?_
    refine s_iload_n 2 dX11_feed_30 rfl rfl ?_
    refine s_callVv (s0 := 0) (As := [.int l2]) (rest := []) (cX9_addBytes_ok g 0 l2 h1) vl_X11_61 rfl (Nat.le_of_ble_eq_true rfl) (Nat.le_of_ble_eq_true rfl) dX11_feed_31 rfl (fun h2 => ?_)
    refine s_aload_n 0 dX11_feed_34 rfl rfl ?_
    refine s_getr (s0 := 0) dX11_feed_35 fl_X11_10 ?_
    refine s_iload_n 3 dX11_feed_38 rfl rfl ?_
    refine s_callVv (s0 := 0) (As := [.int l3]) (rest := []) (cX9_addBytes_ok g 0 l3 h2) vl_X11_61 rfl (Nat.le_of_ble_eq_true rfl) (Nat.le_of_ble_eq_true rfl) dX11_feed_39 rfl (fun h3 => ?_)
    refine s_aload_n 0 dX11_feed_42 rfl rfl ?_
    refine s_getr (s0 := 0) dX11_feed_43 fl_X11_10 ?_
    refine s_iload 4 dX11_feed_46 rfl ?_
    refine s_callVv (s0 := 0) (As := [.int l4]) (rest := []) (cX9_addBytes_ok g 0 l4 h3) vl_X11_61 rfl (Nat.le_of_ble_eq_true rfl) (Nat.le_of_ble_eq_true rfl) dX11_feed_48 rfl (fun h4 => ?_)
    refine s_aload_n 0 dX11_feed_51 rfl rfl ?_
    refine s_getr (s0 := 0) dX11_feed_52 fl_X11_10 ?_
    refine s_iload 5 dX11_feed_55 rfl ?_
    refine s_callVv (s0 := 0) (As := [.int l5]) (rest := []) (cX9_addBytes_ok g 0 l5 h4) vl_X11_61 rfl (Nat.le_of_ble_eq_true rfl) (Nat.le_of_ble_eq_true rfl) dX11_feed_57 rfl (fun h5 => ?_)
    refine s_aload_n 0 dX11_feed_60 rfl rfl ?_
    refine s_getr (s0 := 0) dX11_feed_61 fl_X11_10 ?_
    refine s_geti (s0 := 0) dX11_feed_64 fl_X11_57 ?_
    exact s_iret rfl dX11_feed_67
  ·
    refine s_iconst (v := (-1)) dX11_feed_16 rfl ?_
    exact s_iret rfl dX11_feed_17
def fX6_bestQuestion_l29 (l1 : Int32) (l4 : Int32) (K : Int32 → Int32 → Hp → Option (Int32 × Hp)) (rec : Int32 → Int32 → Int32 → Hp → Option (Int32 × Hp)) (l2 l3 l5 : Int32) (h : Hp) : Option (Int32 × Hp) :=
  if l1 ≤ l5 then (K l2 l3 h)
  else (ck (ib ((l4 * (5 : Int32)) + l5) 105) (
  lt (ra h 30 0 ((l4 * (5 : Int32)) + l5)) fun x2 =>
  lt (if x2 < ((rd h 4 0 0) - x2) then ((rd h 4 0 0) - x2) else x2) fun x3 =>
  jn (κ := Int32 → Int32 → Hp → Option (Int32 × Hp)) (fun y2_3 y3_3 h5 => lt (l5 + 1) fun x6 =>
  rec y2_3 y3_3 x6 h5) fun k81_3 =>
  if l3 ≤ x3 then (k81_3 l2 l3 h)
  else (lt (((10 : Int32) * l4) + l5) fun x7 =>
  k81_3 x7 x3 h)))
def fX6_bestQuestion_l12 (l1 : Int32) (K : Int32 → Hp → Option (Int32 × Hp)) (rec : Int32 → Int32 → Int32 → Hp → Option (Int32 × Hp)) (l2 l3 l4 : Int32) (h : Hp) : Option (Int32 × Hp) :=
  if (21 : Int32) ≤ l4 then (K l2 h)
  else (if (rd h 4 0 0) ≤ 0 then (K l2 h)
  else (itr3 (fX6_bestQuestion_l29 l1 l4 (fun y8 y9 h10 => lt (l4 + 1) fun x11 =>
  rec y8 y9 x11 h10)) FU l2 l3 0 h))
def fX6_bestQuestion (l1 : Int32) (h : Hp) : Option (Int32 × Hp) :=
  lt ((rd h 4 0 0) + (1 : Int32)) fun x1 =>
  itr3 (fX6_bestQuestion_l12 l1 (fun y12 h13 => some (y12, h13))) FU (-1) x1 0 h
set_option maxHeartbeats 4000000 in
set_option maxRecDepth 100000 in
theorem sX6_bestQuestion_l29 (g : GE) (l1 : Int32) (l4 : Int32) (K : Int32 → Int32 → Hp → Option (Int32 × Hp)) (hK : ∀ (y2 y3 : Int32) (h : Hp), Sim cvi 0 g mX6_bestQuestion 2 87 [(0, rv g 4 0), (1, .int l1), (2, .int y2), (3, .int y3), (4, .int l4)] [] h (K y2 y3 h)) : ∀ (n : Nat) (l2 l3 l5 : Int32) (h : Hp), Sim cvi 0 g mX6_bestQuestion 2 29 [(0, rv g 4 0), (1, .int l1), (2, .int l2), (3, .int l3), (4, .int l4), (5, .int l5)] [] h (itr3 (fX6_bestQuestion_l29 l1 l4 K) n l2 l3 l5 h) := by
  refine s_itr3 (fun l2 l3 l5 h o => Sim cvi 0 g mX6_bestQuestion 2 29 [(0, rv g 4 0), (1, .int l1), (2, .int l2), (3, .int l3), (4, .int l4), (5, .int l5)] [] h o) (fun _ _ _ _ => s_none) ?_
  intro rec hrec l2 l3 l5 h
  unfold fX6_bestQuestion_l29
  refine s_iload 5 dX6_bestQuestion_29 rfl ?_
  refine s_iload_n 1 dX6_bestQuestion_31 rfl rfl ?_
  refine s_icmp_ge (tgt := 87) dX6_bestQuestion_32 (by decide) ?_ ?_
  ·
    refine s_sub [0, 1, 2, 3, 4] rfl ?_
    exact hK l2 l3 h
  ·
    refine s_aload_n 0 dX6_bestQuestion_35 rfl rfl ?_
    refine s_getr (s0 := 0) dX6_bestQuestion_36 fl_X6_37 ?_
    refine s_iload 4 dX6_bestQuestion_39 rfl ?_
    refine s_iconst (v := 5) dX6_bestQuestion_41 rfl ?_
    refine s_imul dX6_bestQuestion_42 ?_
    refine s_iload 5 dX6_bestQuestion_43 rfl ?_
    refine s_iadd dX6_bestQuestion_45 ?_
    refine s_iald (s0 := 0) ka_30 dX6_bestQuestion_46 ?_
    refine s_leti (fun x2 => ?_)
    refine s_istore (ls' := [(6, .int x2), (0, rv g 4 0), (1, .int l1), (2, .int l2), (3, .int l3), (4, .int l4), (5, .int l5)]) dX6_bestQuestion_47 (by decide) rfl ?_
    refine s_iload 0 dX6_bestQuestion_49 rfl ?_
    refine s_aload_n 1 dX6_bestQuestion_51 rfl rfl ?_
    refine s_geti (s0 := 0) dX6_bestQuestion_52 fl_X6_9 ?_
    refine s_iload 0 dX6_bestQuestion_55 rfl ?_
    refine s_isub dX6_bestQuestion_57 ?_
    refine s_mmax w_5_37 mw_max (Nat.le_of_ble_eq_true rfl) (Nat.le_of_ble_eq_true rfl) dX6_bestQuestion_58 ?_
    refine s_leti (fun x3 => ?_)
    refine s_istore (ls' := [(7, .int x3), (6, .int x2), (0, rv g 4 0), (1, .int l1), (2, .int l2), (3, .int l3), (4, .int l4), (5, .int l5)]) dX6_bestQuestion_61 (by decide) rfl ?_
    refine s_iload 0 dX6_bestQuestion_63 rfl ?_
    refine s_iload_n 5 dX6_bestQuestion_65 rfl rfl ?_
    refine s_jn (fun (k81_3 : Int32 → Int32 → Hp → Option (Int32 × Hp)) => ∀ (y2_3 : Int32) (y3_3 : Int32) (h5 : Hp), Sim cvi 0 g mX6_bestQuestion 2 81 [(0, rv g 4 0), (1, .int l1), (2, .int y2_3), (3, .int y3_3), (4, .int l4), (5, .int l5)] [] h5 (k81_3 y2_3 y3_3 h5)) (fun y2_3 y3_3 h5 => ?_) (fun k81_3 Hk81_3 => ?_)
    ·
      refine s_iincl 5 (w := 1) (fun x6 => [(5, .int x6), (0, rv g 4 0), (1, .int l1), (2, .int y2_3), (3, .int y3_3), (4, .int l4)]) dX6_bestQuestion_81 rfl rfl (by decide) (fun _ => rfl) (fun x6 => ?_)
      refine s_goto (tgt := 29) dX6_bestQuestion_84 (by decide) ?_
      refine s_sub [1, 2, 3, 4, 5, 0] rfl ?_
      exact hrec y2_3 y3_3 x6 h5
    refine s_icmp_ge (tgt := 81) dX6_bestQuestion_66 (by decide) ?_ ?_
    ·
      refine s_sub [2, 3, 4, 5, 6, 7] rfl ?_
      exact Hk81_3 l2 l3 h
    ·
      refine s_iload 0 dX6_bestQuestion_69 rfl ?_
      refine s_istore_n (ls' := [(3, .int x3), (7, .int x3), (6, .int x2), (0, rv g 4 0), (1, .int l1), (2, .int l2), (4, .int l4), (5, .int l5)]) dX6_bestQuestion_71 rfl (by decide) rfl ?_
      refine s_bipush (v := 10) dX6_bestQuestion_72 rfl ?_
      refine s_iload 6 dX6_bestQuestion_74 rfl ?_
      refine s_imul dX6_bestQuestion_76 ?_
      refine s_iload 7 dX6_bestQuestion_77 rfl ?_
      refine s_iadd dX6_bestQuestion_79 ?_
      refine s_leti (fun x7 => ?_)
      refine s_istore_n (ls' := [(2, .int x7), (3, .int x3), (7, .int x3), (6, .int x2), (0, rv g 4 0), (1, .int l1), (4, .int l4), (5, .int l5)]) dX6_bestQuestion_80 rfl (by decide) rfl ?_
      refine s_sub [4, 5, 0, 1, 6, 7] rfl ?_
      exact Hk81_3 x7 x3 h
set_option maxHeartbeats 4000000 in
set_option maxRecDepth 100000 in
theorem sX6_bestQuestion_l12 (g : GE) (l1 : Int32) (K : Int32 → Hp → Option (Int32 × Hp)) (hK : ∀ (y2 : Int32) (h : Hp), Sim cvi 0 g mX6_bestQuestion 2 93 [(2, .int y2)] [] h (K y2 h)) : ∀ (n : Nat) (l2 l3 l4 : Int32) (h : Hp), Sim cvi 0 g mX6_bestQuestion 2 12 [(0, rv g 4 0), (1, .int l1), (2, .int l2), (3, .int l3), (4, .int l4)] [] h (itr3 (fX6_bestQuestion_l12 l1 K) n l2 l3 l4 h) := by
  refine s_itr3 (fun l2 l3 l4 h o => Sim cvi 0 g mX6_bestQuestion 2 12 [(0, rv g 4 0), (1, .int l1), (2, .int l2), (3, .int l3), (4, .int l4)] [] h o) (fun _ _ _ _ => s_none) ?_
  intro rec hrec l2 l3 l4 h
  unfold fX6_bestQuestion_l12
  refine s_iload 4 dX6_bestQuestion_12 rfl ?_
  refine s_bipush (v := 21) dX6_bestQuestion_14 rfl ?_
  refine s_icmp_ge (tgt := 93) dX6_bestQuestion_16 (by decide) ?_ ?_
  ·
    refine s_sub [2] rfl ?_
    exact hK l2 h
  ·
    refine s_aload_n 0 dX6_bestQuestion_19 rfl rfl ?_
    refine s_geti (s0 := 0) dX6_bestQuestion_20 fl_X6_9 ?_
    refine s_if_le (tgt := 93) dX6_bestQuestion_23 (by decide) ?_ ?_
    ·
      refine s_sub [2] rfl ?_
      exact hK l2 h
    ·
      refine s_iconst (v := 0) dX6_bestQuestion_26 rfl ?_
      refine s_istore (ls' := [(5, .int 0), (0, rv g 4 0), (1, .int l1), (2, .int l2), (3, .int l3), (4, .int l4)]) dX6_bestQuestion_27 (by decide) rfl ?_
      refine s_sub (ls' := [(0, rv g 4 0), (1, .int l1), (2, .int l2), (3, .int l3), (4, .int l4), (5, .int 0)]) [1, 2, 3, 4, 5, 0] rfl ?_
      refine sX6_bestQuestion_l29 g l1 l4 _ (fun y8 y9 h10 => ?_) FU l2 l3 0 h
      refine s_iincl 4 (w := 1) (fun x11 => [(4, .int x11), (0, rv g 4 0), (1, .int l1), (2, .int y8), (3, .int y9)]) dX6_bestQuestion_87 rfl rfl (by decide) (fun _ => rfl) (fun x11 => ?_)
      refine s_goto (tgt := 12) dX6_bestQuestion_90 (by decide) ?_
      refine s_sub [1, 2, 3, 4, 0] rfl ?_
      exact hrec y8 y9 x11 h10
set_option maxHeartbeats 4000000 in
set_option maxRecDepth 100000 in
theorem cX6_bestQuestion_ok (g : GE) (l1 : Int32) (h : Hp) : Con cvi 0 g mX6_bestQuestion 2 [rv g 4 0, .int l1] h (fX6_bestQuestion l1 h) := by
  refine Con.of (by decide +kernel) (Nat.le_of_ble_eq_true rfl) ?_
  show Sim cvi 0 g mX6_bestQuestion 2 0 [(0, rv g 4 0), (1, .int l1)] [] h _
  unfold fX6_bestQuestion
  refine s_iconst (v := (-1)) dX6_bestQuestion_0 rfl ?_
  refine s_istore_n (ls' := [(2, .int (-1)), (0, rv g 4 0), (1, .int l1)]) dX6_bestQuestion_1 rfl (by decide) rfl ?_
  refine s_aload_n 1 dX6_bestQuestion_2 rfl rfl ?_
  refine s_geti (s0 := 0) dX6_bestQuestion_3 fl_X6_9 ?_
  refine s_iconst (v := 1) dX6_bestQuestion_6 rfl ?_
  refine s_iadd dX6_bestQuestion_7 ?_
  refine s_leti (fun x1 => ?_)
  refine s_istore_n (ls' := [(3, .int x1), (2, .int (-1)), (0, rv g 4 0), (1, .int l1)]) dX6_bestQuestion_8 rfl (by decide) rfl ?_
  refine s_iconst (v := 0) dX6_bestQuestion_9 rfl ?_
  refine s_istore (ls' := [(4, .int 0), (3, .int x1), (2, .int (-1)), (0, rv g 4 0), (1, .int l1)]) dX6_bestQuestion_10 (by decide) rfl ?_
  refine s_sub (ls' := [(0, rv g 4 0), (1, .int l1), (2, .int (-1)), (3, .int x1), (4, .int 0)]) [3, 4, 2, 1, 0] rfl ?_
  refine sX6_bestQuestion_l12 g l1 _ (fun y12 h13 => ?_) FU (-1) x1 0 h
  refine s_iload_n 0 dX6_bestQuestion_93 rfl rfl ?_
  exact s_iret rfl dX6_bestQuestion_94
