def fX1_saving (a0 : Nat) (l1 : Int32) (h : Hp) : Option (Int32 × Hp) :=
  bnd (fX8_packed a0 h) fun x2 h1 =>
  lt (if 6 < l1 then 6 else l1) fun x3 =>
  bnd (fxX1_bestSaving 8 a0 (rd h 6 a0 1) x2 x3 h1) fun x5 h4 =>
  some (x5, h4)
set_option maxHeartbeats 4000000 in
set_option maxRecDepth 100000 in
theorem cX1_saving_ok (g : GE) (a0 : Nat) (l1 : Int32) (h : Hp) : Con cvi 0 g mX1_saving 15 [rv g 6 a0, .int l1] h (fX1_saving a0 l1 h) := by
  refine Con.of (by decide +kernel) (Nat.le_of_ble_eq_true rfl) ?_
  show Sim cvi 0 g mX1_saving 15 0 [(0, rv g 6 a0), (1, .int l1)] [] h _
  unfold fX1_saving
  refine s_aload_n 0 dX1_saving_0 rfl rfl ?_
  refine s_aload_n 0 dX1_saving_1 rfl rfl ?_
  refine s_geti (s0 := a0) dX1_saving_2 fl_X1_11 ?_
  refine s_aload_n 0 dX1_saving_5 rfl rfl ?_
  refine s_callVi (s0 := a0) (As := []) (rest := [.int (rd h 6 a0 1), rv g 6 a0]) (cX8_packed_ok g a0 h) vl_X1_17 rfl (Nat.le_of_ble_eq_true rfl) (Nat.le_of_ble_eq_true rfl) dX1_saving_6 rfl (fun x2 h1 => ?_)
  refine s_iload_n 1 dX1_saving_9 rfl rfl ?_
  refine s_bipush (v := 6) dX1_saving_10 rfl ?_
  refine s_mmin w_4_197 mw_min (Nat.le_of_ble_eq_true rfl) (Nat.le_of_ble_eq_true rfl) dX1_saving_12 ?_
  refine s_leti (fun x3 => ?_)
  refine s_callSi (As := [rv g 6 a0, .int (rd h 6 a0 1), .int x2, .int x3]) (rest := []) (cxX1_bestSaving g 8 a0 (rd h 6 a0 1) x2 x3 h1) sl_X1_27 rfl (Nat.le_of_ble_eq_true rfl) (Nat.le_of_ble_eq_true rfl) dX1_saving_15 rfl (fun x5 h4 => ?_)
  exact s_iret rfl dX1_saving_18
def fX11_save (l1 : Int32) (l2 : Int32) (l3 : Int32) (h : Hp) : Option (Int32 × Hp) :=
  bnd (fX9_stageAt 0 l1 h) fun x2 h1 =>
  nl x2 (some ((-9), h1))
  fun b3 => (if l2 < 0 then (some ((-9), h1))
  else (if l2 ≤ 6 then (jn (κ := Hp → Option (Int32 × Hp)) (fun h5 => bnd (fX1_saving b3 l2 h5) fun x7 h6 =>
  if l3 = 0 then (bnd (fX1_valueOf x7 h6) fun x9 h8 =>
  some (x9, h8))
  else (bnd (fX1_choiceOf x7 h6) fun x11 h10 =>
  some (x11, h10))) fun k38_3 =>
  if l3 = 0 then (k38_3 h1)
  else (if l2 = 0 then (some ((-1), h1))
  else (k38_3 h1)))
  else (some ((-9), h1))))
set_option maxHeartbeats 4000000 in
set_option maxRecDepth 100000 in
theorem cX11_save_ok (g : GE) (l1 : Int32) (l2 : Int32) (l3 : Int32) (h : Hp) : Con cvi 0 g mX11_save 16 [rv g 9 0, .int l1, .int l2, .int l3] h (fX11_save l1 l2 l3 h) := by
  refine Con.of (by decide +kernel) (Nat.le_of_ble_eq_true rfl) ?_
  show Sim cvi 0 g mX11_save 16 0 [(0, rv g 9 0), (1, .int l1), (2, .int l2), (3, .int l3)] [] h _
  unfold fX11_save
  refine s_aload_n 0 dX11_save_0 rfl rfl ?_
  refine s_getr (s0 := 0) dX11_save_1 fl_X11_10 ?_
  refine s_iload_n 1 dX11_save_4 rfl rfl ?_
  refine s_callVq (s0 := 0) (As := [.int l1]) (rest := []) (cX9_stageAt_ok g 0 l1 h) vl_X11_85 rfl (Nat.le_of_ble_eq_true rfl) (Nat.le_of_ble_eq_true rfl) dX11_save_5 rfl (fun x2 h1 => ?_)
  refine s_astoreq (ls' := [(4, rq g 6 x2), (0, rv g 9 0), (1, .int l1), (2, .int l2), (3, .int l3)]) dX11_save_8 (by decide) (List.forall_mem_cons.mpr ⟨rfl, (List.forall_mem_cons.mpr ⟨rfl, (List.forall_mem_cons.mpr ⟨rfl, (List.forall_mem_cons.mpr ⟨rfl, (fun _ h => absurd h List.not_mem_nil)⟩)⟩)⟩)⟩) rfl ?_
  refine s_aloadq 0 dX11_save_10 rfl ?_
  refine s_ifnull x2 (tgt := 25) (fun qq => [(4, rq g 6 qq), (0, rv g 9 0), (1, .int l1), (2, .int l2), (3, .int l3)]) dX11_save_12 (by decide) ?_ (fun b3 => ?_)
  ·
    refine s_bipush (v := (-9)) dX11_save_25 rfl ?_
    exact s_iret rfl dX11_save_27
  ·
    refine s_iload_n 3 dX11_save_15 rfl rfl ?_
    refine s_if_lt (tgt := 25) dX11_save_16 (by decide) ?_ ?_
    ·
      refine s_bipush (v := (-9)) dX11_save_25 rfl ?_
      exact s_iret rfl dX11_save_27
    ·
      refine s_iload_n 3 dX11_save_19 rfl rfl ?_
      refine s_bipush (v := 6) dX11_save_20 rfl ?_
      refine s_icmp_le (tgt := 28) dX11_save_22 (by decide) ?_ ?_
      ·
        refine s_iload_n 4 dX11_save_28 rfl rfl ?_
        refine s_jn (fun (k38_3 : Hp → Option (Int32 × Hp)) => ∀ (h5 : Hp), Sim cvi 0 g mX11_save 16 38 [(2, .int l2), (3, .int l3), (4, rv g 6 b3)] [] h5 (k38_3 h5)) (fun h5 => ?_) (fun k38_3 Hk38_3 => ?_)
        ·
          refine s_aload 2 dX11_save_38 rfl ?_
          refine s_iload_n 0 dX11_save_40 rfl rfl ?_
          refine s_callSi (As := [rv g 6 b3, .int l2]) (rest := []) (cX1_saving_ok g b3 l2 h5) sl_X11_182 rfl (Nat.le_of_ble_eq_true rfl) (Nat.le_of_ble_eq_true rfl) dX11_save_41 rfl (fun x7 h6 => ?_)
          refine s_istore (ls' := [(5, .int x7), (2, .int l2), (3, .int l3), (4, rv g 6 b3)]) dX11_save_44 (by decide) rfl ?_
          refine s_iload_n 2 dX11_save_46 rfl rfl ?_
          refine s_if_eq (tgt := 58) dX11_save_47 (by decide) ?_ ?_
          ·
            refine s_iload 0 dX11_save_58 rfl ?_
            refine s_callSi (As := [.int x7]) (rest := []) (cX1_valueOf_ok g x7 h6) sl_X11_190 rfl (Nat.le_of_ble_eq_true rfl) (Nat.le_of_ble_eq_true rfl) dX11_save_60 rfl (fun x9 h8 => ?_)
            exact s_iret rfl dX11_save_63
          ·
            refine s_iload 0 dX11_save_50 rfl ?_
            refine s_callSi (As := [.int x7]) (rest := []) (cX1_choiceOf_ok g x7 h6) sl_X11_187 rfl (Nat.le_of_ble_eq_true rfl) (Nat.le_of_ble_eq_true rfl) dX11_save_52 rfl (fun x11 h10 => ?_)
            refine s_goto (tgt := 63) dX11_save_55 (by decide) ?_
            exact s_iret rfl dX11_save_63
        refine s_if_eq (tgt := 38) dX11_save_29 (by decide) ?_ ?_
        ·
          refine s_sub [3, 4, 0] rfl ?_
          exact Hk38_3 h1
        ·
          refine s_iload_n 3 dX11_save_32 rfl rfl ?_
          refine s_if_ne (tgt := 38) dX11_save_33 (by decide) ?_ ?_
          ·
            refine s_iconst (v := (-1)) dX11_save_36 rfl ?_
            exact s_iret rfl dX11_save_37
          ·
            refine s_sub [3, 4, 0] rfl ?_
            exact Hk38_3 h1
      ·
        refine s_bipush (v := (-9)) dX11_save_25 rfl ?_
        exact s_iret rfl dX11_save_27
def fX8_plateFact (a0 : Nat) (l1 : Int32) (h : Hp) : Option (Int32 × Hp) :=
  lt (irm l1 10) fun x1 =>
  bnd (fX8_has a0 x1 h) fun x3 h2 =>
  if x3 = 0 then (some ((-1), h2))
  else (lt (l1 / 10) fun x4 =>
  if x4 = 1 then (ck (ib x1 5) (
  some (ra h2 33 a0 x1, h2)))
  else if x4 = 2 then (ck (ib x1 5) (
  some (ra h2 34 a0 x1, h2)))
  else if x4 = 3 then (ck (ib x1 5) (
  some (ra h2 35 a0 x1, h2)))
  else (some ((-1), h2)))
set_option maxHeartbeats 4000000 in
set_option maxRecDepth 100000 in
theorem cX8_plateFact_ok (g : GE) (a0 : Nat) (l1 : Int32) (h : Hp) : Con cvi 0 g mX8_plateFact 3 [rv g 6 a0, .int l1] h (fX8_plateFact a0 l1 h) := by
  refine Con.of (by decide +kernel) (Nat.le_of_ble_eq_true rfl) ?_
  show Sim cvi 0 g mX8_plateFact 3 0 [(0, rv g 6 a0), (1, .int l1)] [] h _
  unfold fX8_plateFact
  refine s_iload_n 1 dX8_plateFact_0 rfl rfl ?_
  refine s_bipush (v := 10) dX8_plateFact_1 rfl ?_
  refine s_iremc dX8_plateFact_3 (by decide) ?_
  refine s_leti (fun x1 => ?_)
  refine s_istore_n (ls' := [(2, .int x1), (0, rv g 6 a0), (1, .int l1)]) dX8_plateFact_4 rfl (by decide) rfl ?_
  refine s_aload_n 1 dX8_plateFact_5 rfl rfl ?_
  refine s_iload_n 0 dX8_plateFact_6 rfl rfl ?_
  refine s_callVi (s0 := a0) (As := [.int x1]) (rest := []) (cX8_has_ok g a0 x1 h) vl_X8_41 rfl (Nat.le_of_ble_eq_true rfl) (Nat.le_of_ble_eq_true rfl) dX8_plateFact_7 rfl (fun x3 h2 => ?_)
  refine s_if_ne (tgt := 15) dX8_plateFact_10 (by decide) ?_ ?_
  ·
    refine s_iconst (v := (-1)) dX8_plateFact_13 rfl ?_
    exact s_iret rfl dX8_plateFact_14
  ·
    refine s_iload_n 2 dX8_plateFact_15 rfl rfl ?_
    refine s_bipush (v := 10) dX8_plateFact_16 rfl ?_
    refine s_idivc dX8_plateFact_18 (by decide) ?_
    refine s_leti (fun x4 => ?_)
    refine s_tab 1 (tgt := 44) dX8_plateFact_19 (by decide) (by decide) rfl (by decide) ?_ (fun e5 => ?_)
    ·
      refine s_aload_n 1 dX8_plateFact_44 rfl rfl ?_
      refine s_getr1 (k2 := 33) (s0 := a0) rfl dX8_plateFact_45 fl_X8_21 ?_
      refine s_iload_n 0 dX8_plateFact_48 rfl rfl ?_
      refine s_iald (s0 := a0) ka_33 dX8_plateFact_49 ?_
      exact s_iret rfl dX8_plateFact_50
    refine s_tab 2 (tgt := 51) dX8_plateFact_19 (by decide) (by decide) rfl (by decide) ?_ (fun e6 => ?_)
    ·
      refine s_aload_n 1 dX8_plateFact_51 rfl rfl ?_
      refine s_getr1 (k2 := 34) (s0 := a0) rfl dX8_plateFact_52 fl_X8_25 ?_
      refine s_iload_n 0 dX8_plateFact_55 rfl rfl ?_
      refine s_iald (s0 := a0) ka_34 dX8_plateFact_56 ?_
      exact s_iret rfl dX8_plateFact_57
    refine s_tab 3 (tgt := 58) dX8_plateFact_19 (by decide) (by decide) rfl (by decide) ?_ (fun e7 => ?_)
    ·
      refine s_aload_n 1 dX8_plateFact_58 rfl rfl ?_
      refine s_getr1 (k2 := 35) (s0 := a0) rfl dX8_plateFact_59 fl_X8_28 ?_
      refine s_iload_n 0 dX8_plateFact_62 rfl rfl ?_
      refine s_iald (s0 := a0) ka_35 dX8_plateFact_63 ?_
      exact s_iret rfl dX8_plateFact_64
    have e5 := lv_neT e5 (show (1 : Int32).toInt = 1 from rfl)
    have e6 := lv_neT e6 (show (2 : Int32).toInt = 2 from rfl)
    have e7 := lv_neT e7 (show (3 : Int32).toInt = 3 from rfl)
    refine s_tabd (tgt := 65) dX8_plateFact_19 (by omega) (by decide) ?_
    refine s_iconst (v := (-1)) dX8_plateFact_65 rfl ?_
    exact s_iret rfl dX8_plateFact_66
def fX11_stage (l1 : Int32) (l2 : Int32) (h : Hp) : Option (Int32 × Hp) :=
  bnd (fX9_stageAt 0 l1 h) fun x2 h1 =>
  nl x2 (some ((-1), h1))
  fun b3 => (if l2 = 0 then (some (rd h1 6 b3 0, h1))
  else if l2 = 1 then (some (rd h1 6 b3 1, h1))
  else if l2 = 2 then (some (rd h1 6 b3 2, h1))
  else (bnd (fX8_plateFact b3 l2 h1) fun x8 h7 =>
  some (x8, h7)))
set_option maxHeartbeats 4000000 in
set_option maxRecDepth 100000 in
theorem cX11_stage_ok (g : GE) (l1 : Int32) (l2 : Int32) (h : Hp) : Con cvi 0 g mX11_stage 4 [rv g 9 0, .int l1, .int l2] h (fX11_stage l1 l2 h) := by
  refine Con.of (by decide +kernel) (Nat.le_of_ble_eq_true rfl) ?_
  show Sim cvi 0 g mX11_stage 4 0 [(0, rv g 9 0), (1, .int l1), (2, .int l2)] [] h _
  unfold fX11_stage
  refine s_aload_n 0 dX11_stage_0 rfl rfl ?_
  refine s_getr (s0 := 0) dX11_stage_1 fl_X11_10 ?_
  refine s_iload_n 1 dX11_stage_4 rfl rfl ?_
  refine s_callVq (s0 := 0) (As := [.int l1]) (rest := []) (cX9_stageAt_ok g 0 l1 h) vl_X11_85 rfl (Nat.le_of_ble_eq_true rfl) (Nat.le_of_ble_eq_true rfl) dX11_stage_5 rfl (fun x2 h1 => ?_)
  refine s_astoreq_n (ls' := [(3, rq g 6 x2), (0, rv g 9 0), (1, .int l1), (2, .int l2)]) dX11_stage_8 rfl (by decide) (List.forall_mem_cons.mpr ⟨rfl, (List.forall_mem_cons.mpr ⟨rfl, (List.forall_mem_cons.mpr ⟨rfl, (fun _ h => absurd h List.not_mem_nil)⟩)⟩)⟩) rfl ?_
  refine s_aloadq_n 0 dX11_stage_9 rfl rfl ?_
  refine s_ifnonnull x2 (tgt := 15) (fun qq => [(3, rq g 6 qq), (0, rv g 9 0), (1, .int l1), (2, .int l2)]) dX11_stage_10 (by decide) ?_ (fun b3 => ?_)
  ·
    refine s_iconst (v := (-1)) dX11_stage_13 rfl ?_
    exact s_iret rfl dX11_stage_14
  ·
    refine s_iload_n 3 dX11_stage_15 rfl rfl ?_
    refine s_tab 0 (tgt := 44) dX11_stage_16 (by decide) (by decide) rfl (by decide) ?_ (fun e4 => ?_)
    ·
      refine s_aload_n 0 dX11_stage_44 rfl rfl ?_
      refine s_geti (s0 := b3) dX11_stage_45 fl_X11_89 ?_
      exact s_iret rfl dX11_stage_48
    refine s_tab 1 (tgt := 49) dX11_stage_16 (by decide) (by decide) rfl (by decide) ?_ (fun e5 => ?_)
    ·
      refine s_aload_n 0 dX11_stage_49 rfl rfl ?_
      refine s_geti (s0 := b3) dX11_stage_50 fl_X11_94 ?_
      exact s_iret rfl dX11_stage_53
    refine s_tab 2 (tgt := 54) dX11_stage_16 (by decide) (by decide) rfl (by decide) ?_ (fun e6 => ?_)
    ·
      refine s_aload_n 0 dX11_stage_54 rfl rfl ?_
      refine s_geti (s0 := b3) dX11_stage_55 fl_X11_97 ?_
      exact s_iret rfl dX11_stage_58
    have e4 := lv_neT e4 (show (0 : Int32).toInt = 0 from rfl)
    have e5 := lv_neT e5 (show (1 : Int32).toInt = 1 from rfl)
    have e6 := lv_neT e6 (show (2 : Int32).toInt = 2 from rfl)
    refine s_tabd (tgt := 59) dX11_stage_16 (by omega) (by decide) ?_
    refine s_aload_n 0 dX11_stage_59 rfl rfl ?_
    refine s_iload_n 3 dX11_stage_60 rfl rfl ?_
    refine s_callVi (s0 := b3) (As := [.int l2]) (rest := []) (cX8_plateFact_ok g b3 l2 h1) vl_X11_100 rfl (Nat.le_of_ble_eq_true rfl) (Nat.le_of_ble_eq_true rfl) dX11_stage_61 rfl (fun x8 h7 => ?_)
    exact s_iret rfl dX11_stage_64
def fX11_state (l1 : Int32) (l2 : Int32) (l3 : Int32) (l4 : Int32) (h : Hp) : Option (Int32 × Hp) :=
  bnd (fX9_stageAt 0 l1 h) fun x2 h1 =>
  bnd (fX9_showAt 0 l2 h1) fun x4 h3 =>
  nl x2 (some ((-1), h3))
  fun b5 => (nl x4 (some ((-1), h3))
  fun b6 => (if (0 : Int32) ≤ l3 then (bnd (fX4_play b5 b6 l3 h3) fun x8 h7 =>
  if l3 ≤ x8 then (bnd (fX4_view l4 h7) fun x10 h9 =>
  some (x10, h9))
  else (some ((-1), h7)))
  else (some ((-1), h3))))
set_option maxHeartbeats 4000000 in
set_option maxRecDepth 100000 in
theorem cX11_state_ok (g : GE) (l1 : Int32) (l2 : Int32) (l3 : Int32) (l4 : Int32) (h : Hp) : Con cvi 0 g mX11_state 7 [rv g 9 0, .int l1, .int l2, .int l3, .int l4] h (fX11_state l1 l2 l3 l4 h) := by
  refine Con.of (by decide +kernel) (Nat.le_of_ble_eq_true rfl) ?_
  show Sim cvi 0 g mX11_state 7 0 [(0, rv g 9 0), (1, .int l1), (2, .int l2), (3, .int l3), (4, .int l4)] [] h _
  unfold fX11_state
  refine s_aload_n 0 dX11_state_0 rfl rfl ?_
  refine s_getr (s0 := 0) dX11_state_1 fl_X11_10 ?_
  refine s_iload_n 1 dX11_state_4 rfl rfl ?_
  refine s_callVq (s0 := 0) (As := [.int l1]) (rest := []) (cX9_stageAt_ok g 0 l1 h) vl_X11_85 rfl (Nat.le_of_ble_eq_true rfl) (Nat.le_of_ble_eq_true rfl) dX11_state_5 rfl (fun x2 h1 => ?_)
  refine s_astoreq (ls' := [(5, rq g 6 x2), (0, rv g 9 0), (1, .int l1), (2, .int l2), (3, .int l3), (4, .int l4)]) dX11_state_8 (by decide) (List.forall_mem_cons.mpr ⟨rfl, (List.forall_mem_cons.mpr ⟨rfl, (List.forall_mem_cons.mpr ⟨rfl, (List.forall_mem_cons.mpr ⟨rfl, (List.forall_mem_cons.mpr ⟨rfl, (fun _ h => absurd h List.not_mem_nil)⟩)⟩)⟩)⟩)⟩) rfl ?_
  refine s_aload_n 1 dX11_state_10 rfl rfl ?_
  refine s_getr (s0 := 0) dX11_state_11 fl_X11_10 ?_
  refine s_iload_n 3 dX11_state_14 rfl rfl ?_
  refine s_callVq (s0 := 0) (As := [.int l2]) (rest := []) (cX9_showAt_ok g 0 l2 h1) vl_X11_104 rfl (Nat.le_of_ble_eq_true rfl) (Nat.le_of_ble_eq_true rfl) dX11_state_15 rfl (fun x4 h3 => ?_)
  refine s_astoreq (ls' := [(6, rq g 5 x4), (5, rq g 6 x2), (0, rv g 9 0), (1, .int l1), (2, .int l2), (3, .int l3), (4, .int l4)]) dX11_state_18 (by decide) (List.forall_mem_cons.mpr ⟨cat_rq _ _ _, (List.forall_mem_cons.mpr ⟨rfl, (List.forall_mem_cons.mpr ⟨rfl, (List.forall_mem_cons.mpr ⟨rfl, (List.forall_mem_cons.mpr ⟨rfl, (List.forall_mem_cons.mpr ⟨rfl, (fun _ h => absurd h List.not_mem_nil)⟩)⟩)⟩)⟩)⟩)⟩) rfl ?_
  refine s_aloadq 1 dX11_state_20 rfl ?_
  refine s_ifnull x2 (tgt := 34) (fun qq => [(6, rq g 5 x4), (5, rq g 6 qq), (0, rv g 9 0), (1, .int l1), (2, .int l2), (3, .int l3), (4, .int l4)]) dX11_state_22 (by decide) ?_ (fun b5 => ?_)
  ·
    refine s_iconst (v := (-1)) dX11_state_34 rfl ?_
    exact s_iret rfl dX11_state_35
  ·
    refine s_aloadq 0 dX11_state_25 rfl ?_
    refine s_ifnull x4 (tgt := 34) (fun qq => [(6, rq g 5 qq), (5, rv g 6 b5), (0, rv g 9 0), (1, .int l1), (2, .int l2), (3, .int l3), (4, .int l4)]) dX11_state_27 (by decide) ?_ (fun b6 => ?_)
    ·
      refine s_iconst (v := (-1)) dX11_state_34 rfl ?_
      exact s_iret rfl dX11_state_35
    ·
      refine s_iload_n 5 dX11_state_30 rfl rfl ?_
      refine s_if_ge (tgt := 36) dX11_state_31 (by decide) ?_ ?_
      ·
        refine s_aload_n 2 dX11_state_36 rfl rfl ?_
        refine s_getr (s0 := 0) dX11_state_37 fl_X11_34 ?_
        refine s_aload 1 dX11_state_40 rfl ?_
        refine s_aload 0 dX11_state_42 rfl ?_
        refine s_iload_n 5 dX11_state_44 rfl rfl ?_
        refine s_callVi (s0 := 0) (As := [rv g 6 b5, rv g 5 b6, .int l3]) (rest := []) (cX4_play_ok g b5 b6 l3 h3) vl_X11_124 rfl (Nat.le_of_ble_eq_true rfl) (Nat.le_of_ble_eq_true rfl) dX11_state_45 rfl (fun x8 h7 => ?_)
        refine s_iload_n 5 dX11_state_48 rfl rfl ?_
        refine s_icmp_ge (tgt := 54) dX11_state_49 (by decide) ?_ ?_
        ·
          refine s_aload_n 2 dX11_state_54 rfl rfl ?_
          refine s_getr (s0 := 0) dX11_state_55 fl_X11_34 ?_
          refine s_iload 6 dX11_state_58 rfl ?_
          refine s_callVi (s0 := 0) (As := [.int l4]) (rest := []) (cX4_view_ok g l4 h7) vl_X11_128 rfl (Nat.le_of_ble_eq_true rfl) (Nat.le_of_ble_eq_true rfl) dX11_state_60 rfl (fun x10 h9 => ?_)
          exact s_iret rfl dX11_state_63
        ·
          refine s_iconst (v := (-1)) dX11_state_52 rfl ?_
          exact s_iret rfl dX11_state_53
      ·
        refine s_iconst (v := (-1)) dX11_state_34 rfl ?_
        exact s_iret rfl dX11_state_35
def fX11_stop (l1 : Int32) (l2 : Int32) (h : Hp) : Option (Int32 × Hp) :=
  bnd (fX9_stageAt 0 l1 h) fun x2 h1 =>
  bnd (fX9_showAt 0 l2 h1) fun x4 h3 =>
  nl x2 (some ((-1), h3))
  fun b5 => (nl x4 (some ((-1), h3))
  fun b6 => (bnd (fX4_play b5 b6 40 h3) fun x8 h7 =>
  some (x8, h7)))
set_option maxHeartbeats 4000000 in
set_option maxRecDepth 100000 in
theorem cX11_stop_ok (g : GE) (l1 : Int32) (l2 : Int32) (h : Hp) : Con cvi 0 g mX11_stop 7 [rv g 9 0, .int l1, .int l2] h (fX11_stop l1 l2 h) := by
  refine Con.of (by decide +kernel) (Nat.le_of_ble_eq_true rfl) ?_
  show Sim cvi 0 g mX11_stop 7 0 [(0, rv g 9 0), (1, .int l1), (2, .int l2)] [] h _
  unfold fX11_stop
  refine s_aload_n 0 dX11_stop_0 rfl rfl ?_
  refine s_getr (s0 := 0) dX11_stop_1 fl_X11_10 ?_
  refine s_iload_n 1 dX11_stop_4 rfl rfl ?_
  refine s_callVq (s0 := 0) (As := [.int l1]) (rest := []) (cX9_stageAt_ok g 0 l1 h) vl_X11_85 rfl (Nat.le_of_ble_eq_true rfl) (Nat.le_of_ble_eq_true rfl) dX11_stop_5 rfl (fun x2 h1 => ?_)
  refine s_astoreq_n (ls' := [(3, rq g 6 x2), (0, rv g 9 0), (1, .int l1), (2, .int l2)]) dX11_stop_8 rfl (by decide) (List.forall_mem_cons.mpr ⟨rfl, (List.forall_mem_cons.mpr ⟨rfl, (List.forall_mem_cons.mpr ⟨rfl, (fun _ h => absurd h List.not_mem_nil)⟩)⟩)⟩) rfl ?_
  refine s_aload_n 1 dX11_stop_9 rfl rfl ?_
  refine s_getr (s0 := 0) dX11_stop_10 fl_X11_10 ?_
  refine s_iload_n 3 dX11_stop_13 rfl rfl ?_
  refine s_callVq (s0 := 0) (As := [.int l2]) (rest := []) (cX9_showAt_ok g 0 l2 h1) vl_X11_104 rfl (Nat.le_of_ble_eq_true rfl) (Nat.le_of_ble_eq_true rfl) dX11_stop_14 rfl (fun x4 h3 => ?_)
  refine s_astoreq (ls' := [(4, rq g 5 x4), (3, rq g 6 x2), (0, rv g 9 0), (1, .int l1), (2, .int l2)]) dX11_stop_17 (by decide) (List.forall_mem_cons.mpr ⟨cat_rq _ _ _, (List.forall_mem_cons.mpr ⟨rfl, (List.forall_mem_cons.mpr ⟨rfl, (List.forall_mem_cons.mpr ⟨rfl, (fun _ h => absurd h List.not_mem_nil)⟩)⟩)⟩)⟩) rfl ?_
  refine s_aloadq_n 1 dX11_stop_19 rfl rfl ?_
  refine s_ifnull x2 (tgt := 28) (fun qq => [(4, rq g 5 x4), (3, rq g 6 qq), (0, rv g 9 0), (1, .int l1), (2, .int l2)]) dX11_stop_20 (by decide) ?_ (fun b5 => ?_)
  ·
    refine s_iconst (v := (-1)) dX11_stop_28 rfl ?_
    exact s_iret rfl dX11_stop_29
  ·
    refine s_aloadq 0 dX11_stop_23 rfl ?_
    refine s_ifnonnull x4 (tgt := 30) (fun qq => [(4, rq g 5 qq), (3, rv g 6 b5), (0, rv g 9 0), (1, .int l1), (2, .int l2)]) dX11_stop_25 (by decide) ?_ (fun b6 => ?_)
    ·
      refine s_iconst (v := (-1)) dX11_stop_28 rfl ?_
      exact s_iret rfl dX11_stop_29
    ·
      refine s_aload_n 2 dX11_stop_30 rfl rfl ?_
      refine s_getr (s0 := 0) dX11_stop_31 fl_X11_34 ?_
      refine s_aload_n 1 dX11_stop_34 rfl rfl ?_
      refine s_aload 0 dX11_stop_35 rfl ?_
      refine s_bipush (v := 40) dX11_stop_37 rfl ?_
      refine s_callVi (s0 := 0) (As := [rv g 6 b5, rv g 5 b6, .int 40]) (rest := []) (cX4_play_ok g b5 b6 40 h3) vl_X11_124 rfl (Nat.le_of_ble_eq_true rfl) (Nat.le_of_ble_eq_true rfl) dX11_stop_39 rfl (fun x8 h7 => ?_)
      exact s_iret rfl dX11_stop_42
def fX11_takeRead (l1 : Int32) (l2 : Int32) (h : Hp) : Option (Unit × Hp) :=
  bnd (fX9_has 0 l1 h) fun x2 h1 =>
  if x2 = 0 then (some ((), h1))
  else (if l2 < 0 then (some ((), h1))
  else (if l2 < 2 then (ck (ib l1 3) (
  jn (κ := Hp → Option (Unit × Hp)) (fun h4 => if l1 = 0 then (ck (ib l2 2) (
  bnd (fX8_copyFrom (2 * (0 % cnt 38) + 1 * l2.toNatClampNeg + 0) 8 h4) fun _ h6 =>
  some ((), h6)))
  else if l1 = 1 then (ck (ib l2 2) (
  bnd (fX7_copyFrom (2 * (0 % cnt 39) + 1 * l2.toNatClampNeg + 0) 8 h4) fun _ h8 =>
  some ((), h8)))
  else (ck (ib l2 2) (
  bnd (fX3_copyFrom (2 * (0 % cnt 40) + 1 * l2.toNatClampNeg + 0) 8 h4) fun _ h9 =>
  some ((), h9)))) fun k47_2 =>
  if l2 = (ra h1 37 0 l1) then (ck (ib l1 3) (
  ck (ib l1 3) (lt (wa h1 37 0 l1 ((ra h1 37 0 l1) + (1 : Int32))) fun h10 =>
  k47_2 h10)))
  else (k47_2 h1)))
  else (some ((), h1))))
set_option maxHeartbeats 4000000 in
set_option maxRecDepth 100000 in
theorem cX11_takeRead_ok (g : GE) (l1 : Int32) (l2 : Int32) (h : Hp) : Con cvv 0 g mX11_takeRead 3 [rv g 9 0, .int l1, .int l2] h (fX11_takeRead l1 l2 h) := by
  refine Con.of (by decide +kernel) (Nat.le_of_ble_eq_true rfl) ?_
  show Sim cvv 0 g mX11_takeRead 3 0 [(0, rv g 9 0), (1, .int l1), (2, .int l2)] [] h _
  unfold fX11_takeRead
  refine s_aload_n 0 dX11_takeRead_0 rfl rfl ?_
  refine s_getr (s0 := 0) dX11_takeRead_1 fl_X11_10 ?_
  refine s_iload_n 1 dX11_takeRead_4 rfl rfl ?_
  refine s_callVi (s0 := 0) (As := [.int l1]) (rest := []) (cX9_has_ok g 0 l1 h) vl_X11_318 rfl (Nat.le_of_ble_eq_true rfl) (Nat.le_of_ble_eq_true rfl) dX11_takeRead_5 rfl (fun x2 h1 => ?_)
  refine s_if_eq (tgt := 20) dX11_takeRead_8 (by decide) ?_ ?_
  ·
    exact s_vret rfl dX11_takeRead_20
  ·
    refine s_iload_n 2 dX11_takeRead_11 rfl rfl ?_
    refine s_if_lt (tgt := 20) dX11_takeRead_12 (by decide) ?_ ?_
    ·
      exact s_vret rfl dX11_takeRead_20
    ·
      refine s_iload_n 2 dX11_takeRead_15 rfl rfl ?_
      refine s_iconst (v := 2) dX11_takeRead_16 rfl ?_
      refine s_icmp_lt (tgt := 21) dX11_takeRead_17 (by decide) ?_ ?_
      ·
        refine s_iload_n 2 dX11_takeRead_21 rfl rfl ?_
        refine s_aload_n 0 dX11_takeRead_22 rfl rfl ?_
        refine s_getr (s0 := 0) dX11_takeRead_23 fl_X11_10 ?_
        refine s_getr1 (k2 := 37) (s0 := 0) rfl dX11_takeRead_26 fl_X11_319 ?_
        refine s_iload_n 1 dX11_takeRead_29 rfl rfl ?_
        refine s_iald (s0 := 0) ka_37 dX11_takeRead_30 ?_
        refine s_jn (fun (k47_2 : Hp → Option (Unit × Hp)) => ∀ (h4 : Hp), Sim cvv 0 g mX11_takeRead 3 47 [(0, rv g 9 0), (1, .int l1), (2, .int l2)] [] h4 (k47_2 h4)) (fun h4 => ?_) (fun k47_2 Hk47_2 => ?_)
        ·
          refine s_iload_n 1 dX11_takeRead_47 rfl rfl ?_
          refine s_lk 0 (tgt := 76) dX11_takeRead_48 (by decide) rfl (by decide) ?_ (fun e5 => ?_)
          ·
            refine s_aload_n 0 dX11_takeRead_76 rfl rfl ?_
            refine s_getr (s0 := 0) dX11_takeRead_77 fl_X11_10 ?_
            refine s_getr1 (k2 := 38) (s0 := 0) rfl dX11_takeRead_80 fl_X11_326 ?_
            refine s_iload_n 2 dX11_takeRead_83 rfl rfl ?_
            refine s_aald4 (s0 := 0) kr_38 dX11_takeRead_84 ?_
            refine s_aload_n 0 dX11_takeRead_85 rfl rfl ?_
            refine s_getr (s0 := 0) dX11_takeRead_86 fl_X11_27 ?_
            refine s_getr (s0 := 0) dX11_takeRead_89 fl_X11_330 ?_
            refine s_callVv (s0 := 2 * (0 % cnt 38) + 1 * l2.toNatClampNeg + 0) (As := [rv g 6 8]) (rest := []) (cX8_copyFrom_ok g (2 * (0 % cnt 38) + 1 * l2.toNatClampNeg + 0) 8 h4) vl_X11_334 rfl (Nat.le_of_ble_eq_true rfl) (Nat.le_of_ble_eq_true rfl) dX11_takeRead_92 rfl (fun h6 => ?_)
            refine s_goto (tgt := 139) dX11_takeRead_95 (by decide) ?_
            exact s_vret rfl dX11_takeRead_139
          refine s_lk 1 (tgt := 98) dX11_takeRead_48 (by decide) rfl (by decide) ?_ (fun e7 => ?_)
          ·
            refine s_aload_n 0 dX11_takeRead_98 rfl rfl ?_
            refine s_getr (s0 := 0) dX11_takeRead_99 fl_X11_10 ?_
            refine s_getr1 (k2 := 39) (s0 := 0) rfl dX11_takeRead_102 fl_X11_336 ?_
            refine s_iload_n 2 dX11_takeRead_105 rfl rfl ?_
            refine s_aald5 (s0 := 0) kr_39 dX11_takeRead_106 ?_
            refine s_aload_n 0 dX11_takeRead_107 rfl rfl ?_
            refine s_getr (s0 := 0) dX11_takeRead_108 fl_X11_27 ?_
            refine s_getr (s0 := 0) dX11_takeRead_111 fl_X11_340 ?_
            refine s_callVv (s0 := 2 * (0 % cnt 39) + 1 * l2.toNatClampNeg + 0) (As := [rv g 5 8]) (rest := []) (cX7_copyFrom_ok g (2 * (0 % cnt 39) + 1 * l2.toNatClampNeg + 0) 8 h4) vl_X11_344 rfl (Nat.le_of_ble_eq_true rfl) (Nat.le_of_ble_eq_true rfl) dX11_takeRead_114 rfl (fun h8 => ?_)
            refine s_goto (tgt := 139) dX11_takeRead_117 (by decide) ?_
            exact s_vret rfl dX11_takeRead_139
          refine s_lkd (tgt := 120) dX11_takeRead_48 (by decide) ((lv_osw e5 rfl).trans ((lv_osw e7 rfl).trans rfl)) (by decide) ?_
          refine s_aload_n 0 dX11_takeRead_120 rfl rfl ?_
          refine s_getr (s0 := 0) dX11_takeRead_121 fl_X11_10 ?_
          refine s_getr1 (k2 := 40) (s0 := 0) rfl dX11_takeRead_124 fl_X11_347 ?_
          refine s_iload_n 2 dX11_takeRead_127 rfl rfl ?_
          refine s_aald6 (s0 := 0) kr_40 dX11_takeRead_128 ?_
          refine s_aload_n 0 dX11_takeRead_129 rfl rfl ?_
          refine s_getr (s0 := 0) dX11_takeRead_130 fl_X11_27 ?_
          refine s_getr (s0 := 0) dX11_takeRead_133 fl_X11_351 ?_
          refine s_callVv (s0 := 2 * (0 % cnt 40) + 1 * l2.toNatClampNeg + 0) (As := [rv g 1 8]) (rest := []) (cX3_copyFrom_ok g (2 * (0 % cnt 40) + 1 * l2.toNatClampNeg + 0) 8 h4) vl_X11_355 rfl (Nat.le_of_ble_eq_true rfl) (Nat.le_of_ble_eq_true rfl) dX11_takeRead_136 rfl (fun h9 => ?_)
          exact s_vret rfl dX11_takeRead_139
        refine s_icmp_ne (tgt := 47) dX11_takeRead_31 (by decide) ?_ ?_
        ·
          refine s_aload_n 0 dX11_takeRead_34 rfl rfl ?_
          refine s_getr (s0 := 0) dX11_takeRead_35 fl_X11_10 ?_
          refine s_getr1 (k2 := 37) (s0 := 0) rfl dX11_takeRead_38 fl_X11_319 ?_
          refine s_iload_n 1 dX11_takeRead_41 rfl rfl ?_
          refine s_dup2 dX11_takeRead_42 rfl rfl ?_
          refine s_iald (s0 := 0) ka_37 dX11_takeRead_43 ?_
          refine s_iconst (v := 1) dX11_takeRead_44 rfl ?_
          refine s_iadd dX11_takeRead_45 ?_
          refine s_iast (s0 := 0) ka_37 dX11_takeRead_46 (fun h10 => ?_)
          exact Hk47_2 h10
        ·
          exact Hk47_2 h1
      ·
        exact s_vret rfl dX11_takeRead_20
def fX3_clear (a0 : Nat) (h : Hp) : Option (Unit × Hp) :=
  lt (wr h 1 a0 0 1) fun h1 =>
  lt (wr h1 1 a0 1 0) fun h2 =>
  some ((), h2)
set_option maxHeartbeats 4000000 in
set_option maxRecDepth 100000 in
theorem cX3_clear_ok (g : GE) (a0 : Nat) (h : Hp) : Con cvv 0 g mX3_clear 2 [rv g 1 a0] h (fX3_clear a0 h) := by
  refine Con.of (by decide +kernel) (Nat.le_of_ble_eq_true rfl) ?_
  show Sim cvv 0 g mX3_clear 2 0 [(0, rv g 1 a0)] [] h _
  unfold fX3_clear
  refine s_aload_n 0 dX3_clear_0 rfl rfl ?_
  refine s_iconst (v := 1) dX3_clear_1 rfl ?_
  refine s_puti (s0 := a0) dX3_clear_2 fl_X3_9 (fun h1 => ?_)
  refine s_aload_n 0 dX3_clear_5 rfl rfl ?_
  refine s_iconst (v := 0) dX3_clear_6 rfl ?_
  refine s_puti (s0 := a0) dX3_clear_7 fl_X3_15 (fun h2 => ?_)
  exact s_vret rfl dX3_clear_10
def fX5_byteAt (l1 : Int32) (h : Hp) : Option (Int32 × Hp) :=
  jn (κ := Hp → Option (Int32 × Hp)) (fun h2 => some ((-1), h2)) fun k34_0 =>
  if l1 < 0 then (k34_0 h)
  else (if (rd h 3 0 6) ≤ l1 then (k34_0 h)
  else (ck (decide (rd h 3 0 5 = 1)) (
  if (600 : Int32) ≤ l1 then (k34_0 h)
  else (ck (decide (rd h 3 0 5 = 1)) (
  ck (ib l1 600) (
  some ((ra h 36 0 l1) &&& (255 : Int32), h)))))))
set_option maxHeartbeats 4000000 in
set_option maxRecDepth 100000 in
theorem cX5_byteAt_ok (g : GE) (l1 : Int32) (h : Hp) : Con cvi 0 g mX5_byteAt 2 [rv g 3 0, .int l1] h (fX5_byteAt l1 h) := by
  refine Con.of (by decide +kernel) (Nat.le_of_ble_eq_true rfl) ?_
  show Sim cvi 0 g mX5_byteAt 2 0 [(0, rv g 3 0), (1, .int l1)] [] h _
  unfold fX5_byteAt
  refine s_iload_n 1 dX5_byteAt_0 rfl rfl ?_
  refine s_jn (fun (k34_0 : Hp → Option (Int32 × Hp)) => ∀ (h2 : Hp), Sim cvi 0 g mX5_byteAt 2 34 [] [] h2 (k34_0 h2)) (fun h2 => ?_) (fun k34_0 Hk34_0 => ?_)
  ·
    refine s_iconst (v := (-1)) dX5_byteAt_34 rfl ?_
    exact s_iret rfl dX5_byteAt_35
  refine s_if_lt (tgt := 34) dX5_byteAt_1 (by decide) ?_ ?_
  ·
    refine s_sub [] rfl ?_
    exact Hk34_0 h
  ·
    refine s_iload_n 1 dX5_byteAt_4 rfl rfl ?_
    refine s_aload_n 0 dX5_byteAt_5 rfl rfl ?_
    refine s_geti (s0 := 0) dX5_byteAt_6 fl_X5_43 ?_
    refine s_icmp_ge (tgt := 34) dX5_byteAt_9 (by decide) ?_ ?_
    ·
      refine s_sub [] rfl ?_
      exact Hk34_0 h
    ·
      refine s_iload_n 1 dX5_byteAt_12 rfl rfl ?_
      refine s_aload_n 0 dX5_byteAt_13 rfl rfl ?_
      refine s_gett (s0 := 0) dX5_byteAt_14 fl_X5_39 ?_
      refine s_alen1 (v := 600) ka_36 rfl dX5_byteAt_17 ?_
      refine s_icmp_ge (tgt := 34) dX5_byteAt_18 (by decide) ?_ ?_
      ·
        refine s_sub [] rfl ?_
        exact Hk34_0 h
      ·
        refine s_aload_n 0 dX5_byteAt_21 rfl rfl ?_
        refine s_gett (s0 := 0) dX5_byteAt_22 fl_X5_39 ?_
        refine s_iload_n 1 dX5_byteAt_25 rfl rfl ?_
        refine s_bald (s0 := 0) ka_36 dX5_byteAt_26 ?_
        refine s_sipush (v := 255) dX5_byteAt_27 rfl ?_
        refine s_iand dX5_byteAt_30 ?_
        refine s_goto (tgt := 35) dX5_byteAt_31 (by decide) ?_
        exact s_iret rfl dX5_byteAt_35
def fX5_isBlank (l0 : Int32) (h : Hp) : Option (Int32 × Hp) :=
  jn (κ := Hp → Option (Int32 × Hp)) (fun h2 => ck (zk 1) (some (1, h2))) fun k12_0 =>
  if l0 = 10 then (k12_0 h)
  else (if l0 = 32 then (k12_0 h)
  else (ck (zk 0) (some (0, h))))
set_option maxHeartbeats 4000000 in
set_option maxRecDepth 100000 in
theorem cX5_isBlank_ok (g : GE) (l0 : Int32) (h : Hp) : Con cvi 0 g mX5_isBlank 2 [.int l0] h (fX5_isBlank l0 h) := by
  refine Con.of (by decide +kernel) (Nat.le_of_ble_eq_true rfl) ?_
  show Sim cvi 0 g mX5_isBlank 2 0 [(0, .int l0)] [] h _
  unfold fX5_isBlank
  refine s_iload_n 0 dX5_isBlank_0 rfl rfl ?_
  refine s_bipush (v := 10) dX5_isBlank_1 rfl ?_
  refine s_jn (fun (k12_0 : Hp → Option (Int32 × Hp)) => ∀ (h2 : Hp), Sim cvi 0 g mX5_isBlank 2 12 [] [] h2 (k12_0 h2)) (fun h2 => ?_) (fun k12_0 Hk12_0 => ?_)
  ·
    refine s_iconst (v := 1) dX5_isBlank_12 rfl ?_
    refine s_goto (tgt := 17) dX5_isBlank_13 (by decide) ?_
    exact s_zret rfl dX5_isBlank_17
  refine s_icmp_eq (tgt := 12) dX5_isBlank_3 (by decide) ?_ ?_
  ·
    refine s_sub [] rfl ?_
    exact Hk12_0 h
  ·
    refine s_iload_n 0 dX5_isBlank_6 rfl rfl ?_
    refine s_bipush (v := 32) dX5_isBlank_7 rfl ?_
    refine s_icmp_ne (tgt := 16) dX5_isBlank_9 (by decide) ?_ ?_
    ·
      refine s_sub [] rfl ?_
      exact Hk12_0 h
    ·
      refine s_iconst (v := 0) dX5_isBlank_16 rfl ?_
      exact s_zret rfl dX5_isBlank_17
def fX5_isDigit (l0 : Int32) (h : Hp) : Option (Int32 × Hp) :=
  jn (κ := Hp → Option (Int32 × Hp)) (fun h2 => ck (zk 0) (some (0, h2))) fun k16_0 =>
  if l0 < 48 then (k16_0 h)
  else (if (57 : Int32) < l0 then (k16_0 h)
  else (ck (zk 1) (some (1, h))))
set_option maxHeartbeats 4000000 in
set_option maxRecDepth 100000 in
theorem cX5_isDigit_ok (g : GE) (l0 : Int32) (h : Hp) : Con cvi 0 g mX5_isDigit 2 [.int l0] h (fX5_isDigit l0 h) := by
  refine Con.of (by decide +kernel) (Nat.le_of_ble_eq_true rfl) ?_
  show Sim cvi 0 g mX5_isDigit 2 0 [(0, .int l0)] [] h _
  unfold fX5_isDigit
  refine s_iload_n 0 dX5_isDigit_0 rfl rfl ?_
  refine s_bipush (v := 48) dX5_isDigit_1 rfl ?_
  refine s_jn (fun (k16_0 : Hp → Option (Int32 × Hp)) => ∀ (h2 : Hp), Sim cvi 0 g mX5_isDigit 2 16 [] [] h2 (k16_0 h2)) (fun h2 => ?_) (fun k16_0 Hk16_0 => ?_)
  ·
    refine s_iconst (v := 0) dX5_isDigit_16 rfl ?_
    exact s_zret rfl dX5_isDigit_17
  refine s_icmp_lt (tgt := 16) dX5_isDigit_3 (by decide) ?_ ?_
  ·
    refine s_sub [] rfl ?_
    exact Hk16_0 h
  ·
    refine s_iload_n 0 dX5_isDigit_6 rfl rfl ?_
    refine s_bipush (v := 57) dX5_isDigit_7 rfl ?_
    refine s_icmp_gt (tgt := 16) dX5_isDigit_9 (by decide) ?_ ?_
    ·
      refine s_sub [] rfl ?_
      exact Hk16_0 h
    ·
      refine s_iconst (v := 1) dX5_isDigit_12 rfl ?_
      refine s_goto (tgt := 17) dX5_isDigit_13 (by decide) ?_
      exact s_zret rfl dX5_isDigit_17
def fX5_isLetter (l0 : Int32) (h : Hp) : Option (Int32 × Hp) :=
  jn (κ := Hp → Option (Int32 × Hp)) (fun h2 => ck (zk 0) (some (0, h2))) fun k16_0 =>
  if l0 < 97 then (k16_0 h)
  else (if (122 : Int32) < l0 then (k16_0 h)
  else (ck (zk 1) (some (1, h))))
set_option maxHeartbeats 4000000 in
set_option maxRecDepth 100000 in
theorem cX5_isLetter_ok (g : GE) (l0 : Int32) (h : Hp) : Con cvi 0 g mX5_isLetter 2 [.int l0] h (fX5_isLetter l0 h) := by
  refine Con.of (by decide +kernel) (Nat.le_of_ble_eq_true rfl) ?_
  show Sim cvi 0 g mX5_isLetter 2 0 [(0, .int l0)] [] h _
  unfold fX5_isLetter
  refine s_iload_n 0 dX5_isLetter_0 rfl rfl ?_
  refine s_bipush (v := 97) dX5_isLetter_1 rfl ?_
  refine s_jn (fun (k16_0 : Hp → Option (Int32 × Hp)) => ∀ (h2 : Hp), Sim cvi 0 g mX5_isLetter 2 16 [] [] h2 (k16_0 h2)) (fun h2 => ?_) (fun k16_0 Hk16_0 => ?_)
  ·
    refine s_iconst (v := 0) dX5_isLetter_16 rfl ?_
    exact s_zret rfl dX5_isLetter_17
  refine s_icmp_lt (tgt := 16) dX5_isLetter_3 (by decide) ?_ ?_
  ·
    refine s_sub [] rfl ?_
    exact Hk16_0 h
  ·
    refine s_iload_n 0 dX5_isLetter_6 rfl rfl ?_
    refine s_bipush (v := 122) dX5_isLetter_7 rfl ?_
    refine s_icmp_gt (tgt := 16) dX5_isLetter_9 (by decide) ?_ ?_
    ·
      refine s_sub [] rfl ?_
      exact Hk16_0 h
    ·
      refine s_iconst (v := 1) dX5_isLetter_12 rfl ?_
      refine s_goto (tgt := 17) dX5_isLetter_13 (by decide) ?_
      exact s_zret rfl dX5_isLetter_17
def fX5_nextToken_l0 (K : Hp → Option (Unit × Hp)) (rec : Hp → Option (Unit × Hp)) (h : Hp) : Option (Unit × Hp) :=
  if (rd h 3 0 6) ≤ (rd h 3 0 7) then (K h)
  else (bnd (fX5_byteAt (rd h 3 0 7) h) fun x2 h1 =>
  bnd (fX5_isBlank x2 h1) fun x4 h3 =>
  if x4 = 0 then (K h3)
  else (lt (wr h3 3 0 7 ((rd h3 3 0 7) + (1 : Int32))) fun h5 =>
  rec h5))
def fX5_nextToken_l149 (K : Hp → Option (Unit × Hp)) (rec : Hp → Option (Unit × Hp)) (h : Hp) : Option (Unit × Hp) :=
  if (rd h 3 0 6) ≤ (rd h 3 0 7) then (K h)
  else (bnd (fX5_byteAt (rd h 3 0 7) h) fun x19 h18 =>
  bnd (fX5_isDigit x19 h18) fun x21 h20 =>
  if x21 = 0 then (K h20)
  else (lt (wr h20 3 0 7 ((rd h20 3 0 7) + (1 : Int32))) fun h22 =>
  rec h22))
def fX5_nextToken_l104 (K : Hp → Option (Unit × Hp)) (rec : Hp → Option (Unit × Hp)) (h : Hp) : Option (Unit × Hp) :=
  if (rd h 3 0 6) ≤ (rd h 3 0 7) then (K h)
  else (bnd (fX5_byteAt (rd h 3 0 7) h) fun x29 h28 =>
  bnd (fX5_isLetter x29 h28) fun x31 h30 =>
  if x31 = 0 then (K h30)
  else (lt (wr h30 3 0 7 ((rd h30 3 0 7) + (1 : Int32))) fun h32 =>
  rec h32))
def fX5_nextToken (h : Hp) : Option (Unit × Hp) :=
  itr0 (fX5_nextToken_l0 (fun h6 => lt (wr h6 3 0 9 (rd h6 3 0 7)) fun h7 =>
  bnd (fX5_byteAt (rd h7 3 0 7) h7) fun x9 h8 =>
  if x9 = (-1) then (lt (wr h8 3 0 8 0) fun h10 =>
  some ((), h10))
  else (if x9 = 59 then (lt (wr h8 3 0 8 3) fun h11 =>
  lt (wr h11 3 0 7 ((rd h11 3 0 7) + (1 : Int32))) fun h12 =>
  some ((), h12))
  else (bnd (fX5_isLetter x9 h8) fun x14 h13 =>
  if x14 = 0 then (bnd (fX5_isDigit x9 h13) fun x16 h15 =>
  if x16 = 0 then (lt (wr h15 3 0 8 4) fun h17 =>
  some ((), h17))
  else (itr0 (fX5_nextToken_l149 (fun h23 => jn (κ := Int32 → Hp → Option (Unit × Hp)) (fun z0_23 h25 => lt (wr h25 3 0 8 z0_23) fun h26 =>
  some ((), h26)) fun k206_23 =>
  if (2 : Int32) < ((rd h23 3 0 7) - (rd h23 3 0 9)) then (k206_23 4 h23)
  else (k206_23 2 h23))) FU h15))
  else (lt (wr h13 3 0 8 1) fun h27 =>
  itr0 (fX5_nextToken_l104 (fun h33 => some ((), h33))) FU h27))))) FU h
set_option maxHeartbeats 4000000 in
set_option maxRecDepth 100000 in
theorem sX5_nextToken_l0 (g : GE) (K : Hp → Option (Unit × Hp)) (hK : ∀ (h : Hp), Sim cvv 0 g mX5_nextToken 3 38 [(0, rv g 3 0)] [] h (K  h)) : ∀ (n : Nat) (h : Hp), Sim cvv 0 g mX5_nextToken 3 0 [(0, rv g 3 0)] [] h (itr0 (fX5_nextToken_l0 K) n  h) := by
  refine s_itr0 (fun h o => Sim cvv 0 g mX5_nextToken 3 0 [(0, rv g 3 0)] [] h o) (fun _ => s_none) ?_
  intro rec hrec  h
  unfold fX5_nextToken_l0
  refine s_aload_n 0 dX5_nextToken_0 rfl rfl ?_
  refine s_geti (s0 := 0) dX5_nextToken_1 fl_X5_46 ?_
  refine s_aload_n 0 dX5_nextToken_4 rfl rfl ?_
  refine s_geti (s0 := 0) dX5_nextToken_5 fl_X5_43 ?_
  refine s_icmp_ge (tgt := 38) dX5_nextToken_8 (by decide) ?_ ?_
  ·
    exact hK h
  ·
    refine s_aload_n 0 dX5_nextToken_11 rfl rfl ?_
    refine s_aload_n 0 dX5_nextToken_12 rfl rfl ?_
    refine s_geti (s0 := 0) dX5_nextToken_13 fl_X5_46 ?_
    refine s_callVi (s0 := 0) (As := [.int (rd h 3 0 7)]) (rest := []) (cX5_byteAt_ok g (rd h 3 0 7) h) vl_X5_112 rfl (Nat.le_of_ble_eq_true rfl) (Nat.le_of_ble_eq_true rfl) dX5_nextToken_16 rfl (fun x2 h1 => ?_)
    refine s_callSi (As := [.int x2]) (rest := []) (cX5_isBlank_ok g x2 h1) sl_X5_115 rfl (Nat.le_of_ble_eq_true rfl) (Nat.le_of_ble_eq_true rfl) dX5_nextToken_19 rfl (fun x4 h3 => ?_)
    refine s_if_eq (tgt := 38) dX5_nextToken_22 (by decide) ?_ ?_
    ·
      exact hK h3
    ·
      refine s_aload_n 0 dX5_nextToken_25 rfl rfl ?_
      refine s_dup dX5_nextToken_26 rfl ?_
      refine s_geti (s0 := 0) dX5_nextToken_27 fl_X5_46 ?_
      refine s_iconst (v := 1) dX5_nextToken_30 rfl ?_
      refine s_iadd dX5_nextToken_31 ?_
      refine s_puti (s0 := 0) dX5_nextToken_32 fl_X5_46 (fun h5 => ?_)
      refine s_goto (tgt := 0) dX5_nextToken_35 (by decide) ?_
      exact hrec h5
set_option maxHeartbeats 4000000 in
set_option maxRecDepth 100000 in
theorem sX5_nextToken_l149 (g : GE) (K : Hp → Option (Unit × Hp)) (hK : ∀ (h : Hp), Sim cvv 0 g mX5_nextToken 3 187 [(0, rv g 3 0)] [] h (K  h)) : ∀ (n : Nat) (h : Hp), Sim cvv 0 g mX5_nextToken 3 149 [(0, rv g 3 0)] [] h (itr0 (fX5_nextToken_l149 K) n  h) := by
  refine s_itr0 (fun h o => Sim cvv 0 g mX5_nextToken 3 149 [(0, rv g 3 0)] [] h o) (fun _ => s_none) ?_
  intro rec hrec  h
  unfold fX5_nextToken_l149
  refine s_aload_n 0 dX5_nextToken_149 rfl rfl ?_
  refine s_geti (s0 := 0) dX5_nextToken_150 fl_X5_46 ?_
  refine s_aload_n 0 dX5_nextToken_153 rfl rfl ?_
  refine s_geti (s0 := 0) dX5_nextToken_154 fl_X5_43 ?_
  refine s_icmp_ge (tgt := 187) dX5_nextToken_157 (by decide) ?_ ?_
  ·
    exact hK h
  ·
    refine s_aload_n 0 dX5_nextToken_160 rfl rfl ?_
    refine s_aload_n 0 dX5_nextToken_161 rfl rfl ?_
    refine s_geti (s0 := 0) dX5_nextToken_162 fl_X5_46 ?_
    refine s_callVi (s0 := 0) (As := [.int (rd h 3 0 7)]) (rest := []) (cX5_byteAt_ok g (rd h 3 0 7) h) vl_X5_112 rfl (Nat.le_of_ble_eq_true rfl) (Nat.le_of_ble_eq_true rfl) dX5_nextToken_165 rfl (fun x19 h18 => ?_)
    refine s_callSi (As := [.int x19]) (rest := []) (cX5_isDigit_ok g x19 h18) sl_X5_121 rfl (Nat.le_of_ble_eq_true rfl) (Nat.le_of_ble_eq_true rfl) dX5_nextToken_168 rfl (fun x21 h20 => ?_)
    refine s_if_eq (tgt := 187) dX5_nextToken_171 (by decide) ?_ ?_
    ·
      exact hK h20
    ·
      refine s_aload_n 0 dX5_nextToken_174 rfl rfl ?_
      refine s_dup dX5_nextToken_175 rfl ?_
      refine s_geti (s0 := 0) dX5_nextToken_176 fl_X5_46 ?_
      refine s_iconst (v := 1) dX5_nextToken_179 rfl ?_
      refine s_iadd dX5_nextToken_180 ?_
      refine s_puti (s0 := 0) dX5_nextToken_181 fl_X5_46 (fun h22 => ?_)
      refine s_goto (tgt := 149) dX5_nextToken_184 (by decide) ?_
      exact hrec h22
set_option maxHeartbeats 4000000 in
set_option maxRecDepth 100000 in
theorem sX5_nextToken_l104 (g : GE) (K : Hp → Option (Unit × Hp)) (hK : ∀ (h : Hp), Sim cvv 0 g mX5_nextToken 3 217 [] [] h (K  h)) : ∀ (n : Nat) (h : Hp), Sim cvv 0 g mX5_nextToken 3 104 [(0, rv g 3 0)] [] h (itr0 (fX5_nextToken_l104 K) n  h) := by
  refine s_itr0 (fun h o => Sim cvv 0 g mX5_nextToken 3 104 [(0, rv g 3 0)] [] h o) (fun _ => s_none) ?_
  intro rec hrec  h
  unfold fX5_nextToken_l104
  refine s_aload_n 0 dX5_nextToken_104 rfl rfl ?_
  refine s_geti (s0 := 0) dX5_nextToken_105 fl_X5_46 ?_
  refine s_aload_n 0 dX5_nextToken_108 rfl rfl ?_
  refine s_geti (s0 := 0) dX5_nextToken_109 fl_X5_43 ?_
  refine s_icmp_ge (tgt := 217) dX5_nextToken_112 (by decide) ?_ ?_
  ·
    refine s_sub [] rfl ?_
    exact hK h
  ·
    refine s_aload_n 0 dX5_nextToken_115 rfl rfl ?_
    refine s_aload_n 0 dX5_nextToken_116 rfl rfl ?_
    refine s_geti (s0 := 0) dX5_nextToken_117 fl_X5_46 ?_
    refine s_callVi (s0 := 0) (As := [.int (rd h 3 0 7)]) (rest := []) (cX5_byteAt_ok g (rd h 3 0 7) h) vl_X5_112 rfl (Nat.le_of_ble_eq_true rfl) (Nat.le_of_ble_eq_true rfl) dX5_nextToken_120 rfl (fun x29 h28 => ?_)
    refine s_callSi (As := [.int x29]) (rest := []) (cX5_isLetter_ok g x29 h28) sl_X5_118 rfl (Nat.le_of_ble_eq_true rfl) (Nat.le_of_ble_eq_true rfl) dX5_nextToken_123 rfl (fun x31 h30 => ?_)
    refine s_if_eq (tgt := 217) dX5_nextToken_126 (by decide) ?_ ?_
    ·
      refine s_sub [] rfl ?_
      exact hK h30
    ·
      refine s_aload_n 0 dX5_nextToken_129 rfl rfl ?_
      refine s_dup dX5_nextToken_130 rfl ?_
      refine s_geti (s0 := 0) dX5_nextToken_131 fl_X5_46 ?_
      refine s_iconst (v := 1) dX5_nextToken_134 rfl ?_
      refine s_iadd dX5_nextToken_135 ?_
      refine s_puti (s0 := 0) dX5_nextToken_136 fl_X5_46 (fun h32 => ?_)
      refine s_goto (tgt := 104) dX5_nextToken_139 (by decide) ?_
      exact hrec h32
set_option maxHeartbeats 4000000 in
set_option maxRecDepth 100000 in
theorem cX5_nextToken_ok (g : GE) (h : Hp) : Con cvv 0 g mX5_nextToken 3 [rv g 3 0] h (fX5_nextToken h) := by
  refine Con.of (by decide +kernel) (Nat.le_of_ble_eq_true rfl) ?_
  show Sim cvv 0 g mX5_nextToken 3 0 [(0, rv g 3 0)] [] h _
  unfold fX5_nextToken
  refine s_sub (ls' := [(0, rv g 3 0)]) [0] rfl ?_
  refine sX5_nextToken_l0 g _ (fun h6 => ?_) FU h
  refine s_aload_n 0 dX5_nextToken_38 rfl rfl ?_
  refine s_aload_n 0 dX5_nextToken_39 rfl rfl ?_
  refine s_geti (s0 := 0) dX5_nextToken_40 fl_X5_46 ?_
  refine s_puti (s0 := 0) dX5_nextToken_43 fl_X5_52 (fun h7 => ?_)
  refine s_aload_n 0 dX5_nextToken_46 rfl rfl ?_
  refine s_aload_n 0 dX5_nextToken_47 rfl rfl ?_
  refine s_geti (s0 := 0) dX5_nextToken_48 fl_X5_46 ?_
  refine s_callVi (s0 := 0) (As := [.int (rd h7 3 0 7)]) (rest := []) (cX5_byteAt_ok g (rd h7 3 0 7) h7) vl_X5_112 rfl (Nat.le_of_ble_eq_true rfl) (Nat.le_of_ble_eq_true rfl) dX5_nextToken_51 rfl (fun x9 h8 => ?_)
  refine s_istore_n (ls' := [(1, .int x9), (0, rv g 3 0)]) dX5_nextToken_54 rfl (by decide) rfl ?_
  refine s_iload_n 0 dX5_nextToken_55 rfl rfl ?_
  refine s_iconst (v := (-1)) dX5_nextToken_56 rfl ?_
  refine s_icmp_ne (tgt := 68) dX5_nextToken_57 (by decide) ?_ ?_
  ·
    refine s_aload_n 1 dX5_nextToken_60 rfl rfl ?_
    refine s_iconst (v := 0) dX5_nextToken_61 rfl ?_
    refine s_puti (s0 := 0) dX5_nextToken_62 fl_X5_49 (fun h10 => ?_)
    refine s_goto (tgt := 217) dX5_nextToken_65 (by decide) ?_
    exact s_vret rfl dX5_nextToken_217
  ·
    refine s_iload_n 0 dX5_nextToken_68 rfl rfl ?_
    refine s_bipush (v := 59) dX5_nextToken_69 rfl ?_
    refine s_icmp_ne (tgt := 92) dX5_nextToken_71 (by decide) ?_ ?_
    ·
      refine s_aload_n 1 dX5_nextToken_74 rfl rfl ?_
      refine s_iconst (v := 3) dX5_nextToken_75 rfl ?_
      refine s_puti (s0 := 0) dX5_nextToken_76 fl_X5_49 (fun h11 => ?_)
      refine s_aload_n 1 dX5_nextToken_79 rfl rfl ?_
      refine s_dup dX5_nextToken_80 rfl ?_
      refine s_geti (s0 := 0) dX5_nextToken_81 fl_X5_46 ?_
      refine s_iconst (v := 1) dX5_nextToken_84 rfl ?_
      refine s_iadd dX5_nextToken_85 ?_
      refine s_puti (s0 := 0) dX5_nextToken_86 fl_X5_46 (fun h12 => ?_)
      refine s_goto (tgt := 217) dX5_nextToken_89 (by decide) ?_
      exact s_vret rfl dX5_nextToken_217
    ·
      refine s_iload_n 0 dX5_nextToken_92 rfl rfl ?_
      refine s_callSi (As := [.int x9]) (rest := []) (cX5_isLetter_ok g x9 h8) sl_X5_118 rfl (Nat.le_of_ble_eq_true rfl) (Nat.le_of_ble_eq_true rfl) dX5_nextToken_93 rfl (fun x14 h13 => ?_)
      refine s_if_eq (tgt := 142) dX5_nextToken_96 (by decide) ?_ ?_
      ·
        refine s_iload_n 0 dX5_nextToken_142 rfl rfl ?_
        refine s_callSi (As := [.int x9]) (rest := []) (cX5_isDigit_ok g x9 h13) sl_X5_121 rfl (Nat.le_of_ble_eq_true rfl) (Nat.le_of_ble_eq_true rfl) dX5_nextToken_143 rfl (fun x16 h15 => ?_)
        refine s_if_eq (tgt := 212) dX5_nextToken_146 (by decide) ?_ ?_
        ·
          refine s_aload_n 1 dX5_nextToken_212 rfl rfl ?_
          refine s_iconst (v := 4) dX5_nextToken_213 rfl ?_
          refine s_puti (s0 := 0) dX5_nextToken_214 fl_X5_49 (fun h17 => ?_)
          exact s_vret rfl dX5_nextToken_217
        ·
          refine s_sub (ls' := [(0, rv g 3 0)]) [1] rfl ?_
          refine sX5_nextToken_l149 g _ (fun h23 => ?_) FU h15
          refine s_aload_n 0 dX5_nextToken_187 rfl rfl ?_
          refine s_aload_n 0 dX5_nextToken_188 rfl rfl ?_
          refine s_geti (s0 := 0) dX5_nextToken_189 fl_X5_46 ?_
          refine s_aload_n 0 dX5_nextToken_192 rfl rfl ?_
          refine s_geti (s0 := 0) dX5_nextToken_193 fl_X5_52 ?_
          refine s_isub dX5_nextToken_196 ?_
          refine s_iconst (v := 2) dX5_nextToken_197 rfl ?_
          refine s_jn (fun (k206_23 : Int32 → Hp → Option (Unit × Hp)) => ∀ (z0_23 : Int32) (h25 : Hp), Sim cvv 0 g mX5_nextToken 3 206 [] [.int z0_23, rv g 3 0] h25 (k206_23 z0_23 h25)) (fun z0_23 h25 => ?_) (fun k206_23 Hk206_23 => ?_)
          ·
            refine s_puti (s0 := 0) dX5_nextToken_206 fl_X5_49 (fun h26 => ?_)
            refine s_goto (tgt := 217) dX5_nextToken_209 (by decide) ?_
            exact s_vret rfl dX5_nextToken_217
          refine s_icmp_gt (tgt := 205) dX5_nextToken_198 (by decide) ?_ ?_
          ·
            refine s_iconst (v := 4) dX5_nextToken_205 rfl ?_
            refine s_sub [] rfl ?_
            exact Hk206_23 4 h23
          ·
            refine s_iconst (v := 2) dX5_nextToken_201 rfl ?_
            refine s_goto (tgt := 206) dX5_nextToken_202 (by decide) ?_
            refine s_sub [] rfl ?_
            exact Hk206_23 2 h23
      ·
        refine s_aload_n 1 dX5_nextToken_99 rfl rfl ?_
        refine s_iconst (v := 1) dX5_nextToken_100 rfl ?_
        refine s_puti (s0 := 0) dX5_nextToken_101 fl_X5_49 (fun h27 => ?_)
        refine s_sub (ls' := [(0, rv g 3 0)]) [1] rfl ?_
        refine sX5_nextToken_l104 g _ (fun h33 => ?_) FU h27
        exact s_vret rfl dX5_nextToken_217
def fX5_blame (l1 : Int32) (h : Hp) : Option (Unit × Hp) :=
  if (rd h 3 0 3) = 0 then (lt (wr h 3 0 3 l1) fun h1 =>
  lt (wr h1 3 0 4 (rd h1 3 0 9)) fun h2 =>
  some ((), h2))
  else (some ((), h))
set_option maxHeartbeats 4000000 in
set_option maxRecDepth 100000 in
theorem cX5_blame_ok (g : GE) (l1 : Int32) (h : Hp) : Con cvv 0 g mX5_blame 2 [rv g 3 0, .int l1] h (fX5_blame l1 h) := by
  refine Con.of (by decide +kernel) (Nat.le_of_ble_eq_true rfl) ?_
  show Sim cvv 0 g mX5_blame 2 0 [(0, rv g 3 0), (1, .int l1)] [] h _
  unfold fX5_blame
  refine s_aload_n 0 dX5_blame_0 rfl rfl ?_
  refine s_geti (s0 := 0) dX5_blame_1 fl_X5_32 ?_
  refine s_if_ne (tgt := 20) dX5_blame_4 (by decide) ?_ ?_
  ·
    refine s_aload_n 0 dX5_blame_7 rfl rfl ?_
    refine s_iload_n 1 dX5_blame_8 rfl rfl ?_
    refine s_puti (s0 := 0) dX5_blame_9 fl_X5_32 (fun h1 => ?_)
    refine s_aload_n 0 dX5_blame_12 rfl rfl ?_
    refine s_aload_n 0 dX5_blame_13 rfl rfl ?_
    refine s_geti (s0 := 0) dX5_blame_14 fl_X5_52 ?_
    refine s_puti (s0 := 0) dX5_blame_17 fl_X5_36 (fun h2 => ?_)
    exact s_vret rfl dX5_blame_20
  ·
    exact s_vret rfl dX5_blame_20
def fX5_canBeOfPlate (l1 : Int32) (h : Hp) : Option (Int32 × Hp) :=
  if l1 = 0 then (ck (ib 0 3) (
  if (10 : Int32) ≤ (ra h 26 0 0) then (ck (zk 0) (some (0, h)))
  else (ck (zk 1) (some (1, h)))))
  else if l1 = 1 then (ck (ib 1 3) (
  jn (κ := Hp → Option (Int32 × Hp)) (fun h4 => ck (zk 0) (some (0, h4))) fun k70_2 =>
  if (ra h 26 0 1) < 1 then (k70_2 h)
  else (ck (ib 1 3) (
  if (6 : Int32) < (ra h 26 0 1) then (k70_2 h)
  else (ck (zk 1) (some (1, h)))))))
  else (ck (ib 2 3) (
  jn (κ := Hp → Option (Int32 × Hp)) (fun h6 => ck (zk 0) (some (0, h6))) fun k112_4 =>
  if (ra h 26 0 2) < 1 then (k112_4 h)
  else (ck (ib 2 3) (
  if (6 : Int32) < (ra h 26 0 2) then (k112_4 h)
  else (ck (ib 2 3) (
  ck (ib 1 3) (
  if (ra h 26 0 1) < (ra h 26 0 2) then (k112_4 h)
  else (ck (zk 1) (some (1, h))))))))))
set_option maxHeartbeats 4000000 in
set_option maxRecDepth 100000 in
theorem cX5_canBeOfPlate_ok (g : GE) (l1 : Int32) (h : Hp) : Con cvi 0 g mX5_canBeOfPlate 2 [rv g 3 0, .int l1] h (fX5_canBeOfPlate l1 h) := by
  refine Con.of (by decide +kernel) (Nat.le_of_ble_eq_true rfl) ?_
  show Sim cvi 0 g mX5_canBeOfPlate 2 0 [(0, rv g 3 0), (1, .int l1)] [] h _
  unfold fX5_canBeOfPlate
  refine s_iload_n 1 dX5_canBeOfPlate_0 rfl rfl ?_
  refine s_lk 0 (tgt := 28) dX5_canBeOfPlate_1 (by decide) rfl (by decide) ?_ (fun e1 => ?_)
  ·
    refine s_aload_n 0 dX5_canBeOfPlate_28 rfl rfl ?_
    refine s_getr (s0 := 0) dX5_canBeOfPlate_29 fl_X5_55 ?_
    refine s_iconst (v := 0) dX5_canBeOfPlate_32 rfl ?_
    refine s_iald (s0 := 0) ka_26 dX5_canBeOfPlate_33 ?_
    refine s_bipush (v := 10) dX5_canBeOfPlate_34 rfl ?_
    refine s_icmp_ge (tgt := 43) dX5_canBeOfPlate_36 (by decide) ?_ ?_
    ·
      refine s_iconst (v := 0) dX5_canBeOfPlate_43 rfl ?_
      exact s_zret rfl dX5_canBeOfPlate_44
    ·
      refine s_iconst (v := 1) dX5_canBeOfPlate_39 rfl ?_
      refine s_goto (tgt := 44) dX5_canBeOfPlate_40 (by decide) ?_
      exact s_zret rfl dX5_canBeOfPlate_44
  refine s_lk 1 (tgt := 45) dX5_canBeOfPlate_1 (by decide) rfl (by decide) ?_ (fun e2 => ?_)
  ·
    refine s_aload_n 0 dX5_canBeOfPlate_45 rfl rfl ?_
    refine s_getr (s0 := 0) dX5_canBeOfPlate_46 fl_X5_55 ?_
    refine s_iconst (v := 1) dX5_canBeOfPlate_49 rfl ?_
    refine s_iald (s0 := 0) ka_26 dX5_canBeOfPlate_50 ?_
    refine s_iconst (v := 1) dX5_canBeOfPlate_51 rfl ?_
    refine s_jn (fun (k70_2 : Hp → Option (Int32 × Hp)) => ∀ (h4 : Hp), Sim cvi 0 g mX5_canBeOfPlate 2 70 [] [] h4 (k70_2 h4)) (fun h4 => ?_) (fun k70_2 Hk70_2 => ?_)
    ·
      refine s_iconst (v := 0) dX5_canBeOfPlate_70 rfl ?_
      exact s_zret rfl dX5_canBeOfPlate_71
    refine s_icmp_lt (tgt := 70) dX5_canBeOfPlate_52 (by decide) ?_ ?_
    ·
      refine s_sub [] rfl ?_
      exact Hk70_2 h
    ·
      refine s_aload_n 0 dX5_canBeOfPlate_55 rfl rfl ?_
      refine s_getr (s0 := 0) dX5_canBeOfPlate_56 fl_X5_55 ?_
      refine s_iconst (v := 1) dX5_canBeOfPlate_59 rfl ?_
      refine s_iald (s0 := 0) ka_26 dX5_canBeOfPlate_60 ?_
      refine s_bipush (v := 6) dX5_canBeOfPlate_61 rfl ?_
      refine s_icmp_gt (tgt := 70) dX5_canBeOfPlate_63 (by decide) ?_ ?_
      ·
        refine s_sub [] rfl ?_
        exact Hk70_2 h
      ·
        refine s_iconst (v := 1) dX5_canBeOfPlate_66 rfl ?_
        refine s_goto (tgt := 71) dX5_canBeOfPlate_67 (by decide) ?_
        exact s_zret rfl dX5_canBeOfPlate_71
  refine s_lkd (tgt := 72) dX5_canBeOfPlate_1 (by decide) ((lv_osw e1 rfl).trans ((lv_osw e2 rfl).trans rfl)) (by decide) ?_
  refine s_aload_n 0 dX5_canBeOfPlate_72 rfl rfl ?_
  refine s_getr (s0 := 0) dX5_canBeOfPlate_73 fl_X5_55 ?_
  refine s_iconst (v := 2) dX5_canBeOfPlate_76 rfl ?_
  refine s_iald (s0 := 0) ka_26 dX5_canBeOfPlate_77 ?_
  refine s_iconst (v := 1) dX5_canBeOfPlate_78 rfl ?_
  refine s_jn (fun (k112_4 : Hp → Option (Int32 × Hp)) => ∀ (h6 : Hp), Sim cvi 0 g mX5_canBeOfPlate 2 112 [] [] h6 (k112_4 h6)) (fun h6 => ?_) (fun k112_4 Hk112_4 => ?_)
  ·
    refine s_iconst (v := 0) dX5_canBeOfPlate_112 rfl ?_
    exact s_zret rfl dX5_canBeOfPlate_113
  refine s_icmp_lt (tgt := 112) dX5_canBeOfPlate_79 (by decide) ?_ ?_
  ·
    refine s_sub [] rfl ?_
    exact Hk112_4 h
  ·
    refine s_aload_n 0 dX5_canBeOfPlate_82 rfl rfl ?_
    refine s_getr (s0 := 0) dX5_canBeOfPlate_83 fl_X5_55 ?_
    refine s_iconst (v := 2) dX5_canBeOfPlate_86 rfl ?_
    refine s_iald (s0 := 0) ka_26 dX5_canBeOfPlate_87 ?_
    refine s_bipush (v := 6) dX5_canBeOfPlate_88 rfl ?_
    refine s_icmp_gt (tgt := 112) dX5_canBeOfPlate_90 (by decide) ?_ ?_
    ·
      refine s_sub [] rfl ?_
      exact Hk112_4 h
    ·
      refine s_aload_n 0 dX5_canBeOfPlate_93 rfl rfl ?_
      refine s_getr (s0 := 0) dX5_canBeOfPlate_94 fl_X5_55 ?_
      refine s_iconst (v := 2) dX5_canBeOfPlate_97 rfl ?_
      refine s_iald (s0 := 0) ka_26 dX5_canBeOfPlate_98 ?_
      refine s_aload_n 0 dX5_canBeOfPlate_99 rfl rfl ?_
      refine s_getr (s0 := 0) dX5_canBeOfPlate_100 fl_X5_55 ?_
      refine s_iconst (v := 1) dX5_canBeOfPlate_103 rfl ?_
      refine s_iald (s0 := 0) ka_26 dX5_canBeOfPlate_104 ?_
      refine s_icmp_gt (tgt := 112) dX5_canBeOfPlate_105 (by decide) ?_ ?_
      ·
        refine s_sub [] rfl ?_
        exact Hk112_4 h
      ·
        refine s_iconst (v := 1) dX5_canBeOfPlate_108 rfl ?_
        refine s_goto (tgt := 113) dX5_canBeOfPlate_109 (by decide) ?_
        exact s_zret rfl dX5_canBeOfPlate_113
def fX5_canBe (l1 : Int32) (l2 : Int32) (h : Hp) : Option (Int32 × Hp) :=
  ck (ib l2 3) (
  lt (ra h 26 0 l2) fun x1 =>
  if l1 = 0 then (jn (κ := Hp → Option (Int32 × Hp)) (fun h4 => ck (zk 0) (some (0, h4))) fun k83_2 =>
  if x1 < 1 then (k83_2 h)
  else (if (9 : Int32) < x1 then (k83_2 h)
  else (ck (zk 1) (some (1, h)))))
  else if l1 = 1 then (if (10 : Int32) ≤ x1 then (ck (zk 0) (some (0, h)))
  else (ck (zk 1) (some (1, h))))
  else if l1 = 2 then (bnd (fX5_canBeOfPlate l2 h) fun x8 h7 =>
  ck (zk x8) (some (x8, h7)))
  else if l1 = 3 then (if (5 : Int32) ≤ x1 then (ck (zk 0) (some (0, h)))
  else (ck (zk 1) (some (1, h))))
  else if l1 = 4 then (if (5 : Int32) ≤ x1 then (ck (zk 0) (some (0, h)))
  else (ck (zk 1) (some (1, h))))
  else if l1 = 5 then (if (5 : Int32) ≤ x1 then (ck (zk 0) (some (0, h)))
  else (ck (zk 1) (some (1, h))))
  else if l1 = 6 then (if (5 : Int32) ≤ x1 then (ck (zk 0) (some (0, h)))
  else (ck (zk 1) (some (1, h))))
  else if l1 = 7 then (if (5 : Int32) ≤ x1 then (ck (zk 0) (some (0, h)))
  else (ck (zk 1) (some (1, h))))
  else if l1 = 8 then (if (4 : Int32) < x1 then (ck (zk 0) (some (0, h)))
  else (ck (zk 1) (some (1, h))))
  else if l1 = 9 then (if l2 = 0 then (if (5 : Int32) ≤ x1 then (ck (zk 0) (some (0, h)))
  else (ck (zk 1) (some (1, h))))
  else (if (30 : Int32) < x1 then (ck (zk 0) (some (0, h)))
  else (ck (zk 1) (some (1, h)))))
  else if l1 = 10 then (if l2 = 0 then (if (5 : Int32) ≤ x1 then (ck (zk 0) (some (0, h)))
  else (ck (zk 1) (some (1, h))))
  else (if (30 : Int32) < x1 then (ck (zk 0) (some (0, h)))
  else (ck (zk 1) (some (1, h)))))
  else (if (5 : Int32) ≤ x1 then (ck (zk 0) (some (0, h)))
  else (ck (zk 1) (some (1, h)))))
set_option maxHeartbeats 4000000 in
set_option maxRecDepth 100000 in
theorem cX5_canBe_ok (g : GE) (l1 : Int32) (l2 : Int32) (h : Hp) : Con cvi 0 g mX5_canBe 3 [rv g 3 0, .int l1, .int l2] h (fX5_canBe l1 l2 h) := by
  refine Con.of (by decide +kernel) (Nat.le_of_ble_eq_true rfl) ?_
  show Sim cvi 0 g mX5_canBe 3 0 [(0, rv g 3 0), (1, .int l1), (2, .int l2)] [] h _
  unfold fX5_canBe
  refine s_aload_n 0 dX5_canBe_0 rfl rfl ?_
  refine s_getr (s0 := 0) dX5_canBe_1 fl_X5_55 ?_
  refine s_iload_n 2 dX5_canBe_4 rfl rfl ?_
  refine s_iald (s0 := 0) ka_26 dX5_canBe_5 ?_
  refine s_leti (fun x1 => ?_)
  refine s_istore_n (ls' := [(3, .int x1), (0, rv g 3 0), (1, .int l1), (2, .int l2)]) dX5_canBe_6 rfl (by decide) rfl ?_
  refine s_iload_n 2 dX5_canBe_7 rfl rfl ?_
  refine s_tab 0 (tgt := 68) dX5_canBe_8 (by decide) (by decide) rfl (by decide) ?_ (fun e2 => ?_)
  ·
    refine s_iload_n 0 dX5_canBe_68 rfl rfl ?_
    refine s_iconst (v := 1) dX5_canBe_69 rfl ?_
    refine s_jn (fun (k83_2 : Hp → Option (Int32 × Hp)) => ∀ (h4 : Hp), Sim cvi 0 g mX5_canBe 3 83 [] [] h4 (k83_2 h4)) (fun h4 => ?_) (fun k83_2 Hk83_2 => ?_)
    ·
      refine s_iconst (v := 0) dX5_canBe_83 rfl ?_
      exact s_zret rfl dX5_canBe_84
    refine s_icmp_lt (tgt := 83) dX5_canBe_70 (by decide) ?_ ?_
    ·
      refine s_sub [] rfl ?_
      exact Hk83_2 h
    ·
      refine s_iload_n 0 dX5_canBe_73 rfl rfl ?_
      refine s_bipush (v := 9) dX5_canBe_74 rfl ?_
      refine s_icmp_gt (tgt := 83) dX5_canBe_76 (by decide) ?_ ?_
      ·
        refine s_sub [] rfl ?_
        exact Hk83_2 h
      ·
        refine s_iconst (v := 1) dX5_canBe_79 rfl ?_
        refine s_goto (tgt := 84) dX5_canBe_80 (by decide) ?_
        exact s_zret rfl dX5_canBe_84
  refine s_tab 1 (tgt := 85) dX5_canBe_8 (by decide) (by decide) rfl (by decide) ?_ (fun e5 => ?_)
  ·
    refine s_iload_n 0 dX5_canBe_85 rfl rfl ?_
    refine s_bipush (v := 10) dX5_canBe_86 rfl ?_
    refine s_icmp_ge (tgt := 95) dX5_canBe_88 (by decide) ?_ ?_
    ·
      refine s_iconst (v := 0) dX5_canBe_95 rfl ?_
      exact s_zret rfl dX5_canBe_96
    ·
      refine s_iconst (v := 1) dX5_canBe_91 rfl ?_
      refine s_goto (tgt := 96) dX5_canBe_92 (by decide) ?_
      exact s_zret rfl dX5_canBe_96
  refine s_tab 2 (tgt := 97) dX5_canBe_8 (by decide) (by decide) rfl (by decide) ?_ (fun e6 => ?_)
  ·
    refine s_aload_n 1 dX5_canBe_97 rfl rfl ?_
    refine s_iload_n 3 dX5_canBe_98 rfl rfl ?_
    refine s_callVi (s0 := 0) (As := [.int l2]) (rest := []) (cX5_canBeOfPlate_ok g l2 h) vl_X5_168 rfl (Nat.le_of_ble_eq_true rfl) (Nat.le_of_ble_eq_true rfl) dX5_canBe_99 rfl (fun x8 h7 => ?_)
    exact s_zret rfl dX5_canBe_102
  refine s_tab 3 (tgt := 143) dX5_canBe_8 (by decide) (by decide) rfl (by decide) ?_ (fun e9 => ?_)
  ·
    refine s_iload_n 0 dX5_canBe_143 rfl rfl ?_
    refine s_iconst (v := 5) dX5_canBe_144 rfl ?_
    refine s_icmp_ge (tgt := 152) dX5_canBe_145 (by decide) ?_ ?_
    ·
      refine s_iconst (v := 0) dX5_canBe_152 rfl ?_
      exact s_zret rfl dX5_canBe_153
    ·
      refine s_iconst (v := 1) dX5_canBe_148 rfl ?_
      refine s_goto (tgt := 153) dX5_canBe_149 (by decide) ?_
      exact s_zret rfl dX5_canBe_153
  refine s_tab 4 (tgt := 143) dX5_canBe_8 (by decide) (by decide) rfl (by decide) ?_ (fun e10 => ?_)
  ·
    refine s_iload_n 0 dX5_canBe_143 rfl rfl ?_
    refine s_iconst (v := 5) dX5_canBe_144 rfl ?_
    refine s_icmp_ge (tgt := 152) dX5_canBe_145 (by decide) ?_ ?_
    ·
      refine s_iconst (v := 0) dX5_canBe_152 rfl ?_
      exact s_zret rfl dX5_canBe_153
    ·
      refine s_iconst (v := 1) dX5_canBe_148 rfl ?_
      refine s_goto (tgt := 153) dX5_canBe_149 (by decide) ?_
      exact s_zret rfl dX5_canBe_153
  refine s_tab 5 (tgt := 143) dX5_canBe_8 (by decide) (by decide) rfl (by decide) ?_ (fun e11 => ?_)
  ·
    refine s_iload_n 0 dX5_canBe_143 rfl rfl ?_
    refine s_iconst (v := 5) dX5_canBe_144 rfl ?_
    refine s_icmp_ge (tgt := 152) dX5_canBe_145 (by decide) ?_ ?_
    ·
      refine s_iconst (v := 0) dX5_canBe_152 rfl ?_
      exact s_zret rfl dX5_canBe_153
    ·
      refine s_iconst (v := 1) dX5_canBe_148 rfl ?_
      refine s_goto (tgt := 153) dX5_canBe_149 (by decide) ?_
      exact s_zret rfl dX5_canBe_153
  refine s_tab 6 (tgt := 143) dX5_canBe_8 (by decide) (by decide) rfl (by decide) ?_ (fun e12 => ?_)
  ·
    refine s_iload_n 0 dX5_canBe_143 rfl rfl ?_
    refine s_iconst (v := 5) dX5_canBe_144 rfl ?_
    refine s_icmp_ge (tgt := 152) dX5_canBe_145 (by decide) ?_ ?_
    ·
      refine s_iconst (v := 0) dX5_canBe_152 rfl ?_
      exact s_zret rfl dX5_canBe_153
    ·
      refine s_iconst (v := 1) dX5_canBe_148 rfl ?_
      refine s_goto (tgt := 153) dX5_canBe_149 (by decide) ?_
      exact s_zret rfl dX5_canBe_153
  refine s_tab 7 (tgt := 143) dX5_canBe_8 (by decide) (by decide) rfl (by decide) ?_ (fun e13 => ?_)
  ·
    refine s_iload_n 0 dX5_canBe_143 rfl rfl ?_
    refine s_iconst (v := 5) dX5_canBe_144 rfl ?_
    refine s_icmp_ge (tgt := 152) dX5_canBe_145 (by decide) ?_ ?_
    ·
      refine s_iconst (v := 0) dX5_canBe_152 rfl ?_
      exact s_zret rfl dX5_canBe_153
    ·
      refine s_iconst (v := 1) dX5_canBe_148 rfl ?_
      refine s_goto (tgt := 153) dX5_canBe_149 (by decide) ?_
      exact s_zret rfl dX5_canBe_153
  refine s_tab 8 (tgt := 132) dX5_canBe_8 (by decide) (by decide) rfl (by decide) ?_ (fun e14 => ?_)
  ·
    refine s_iload_n 0 dX5_canBe_132 rfl rfl ?_
    refine s_iconst (v := 4) dX5_canBe_133 rfl ?_
    refine s_icmp_gt (tgt := 141) dX5_canBe_134 (by decide) ?_ ?_
    ·
      refine s_iconst (v := 0) dX5_canBe_141 rfl ?_
      exact s_zret rfl dX5_canBe_142
    ·
      refine s_iconst (v := 1) dX5_canBe_137 rfl ?_
      refine s_goto (tgt := 142) dX5_canBe_138 (by decide) ?_
      exact s_zret rfl dX5_canBe_142
  refine s_tab 9 (tgt := 103) dX5_canBe_8 (by decide) (by decide) rfl (by decide) ?_ (fun e15 => ?_)
  ·
    refine s_iload_n 3 dX5_canBe_103 rfl rfl ?_
    refine s_if_ne (tgt := 120) dX5_canBe_104 (by decide) ?_ ?_
    ·
      refine s_iload_n 0 dX5_canBe_107 rfl rfl ?_
      refine s_iconst (v := 5) dX5_canBe_108 rfl ?_
      refine s_icmp_ge (tgt := 116) dX5_canBe_109 (by decide) ?_ ?_
      ·
        refine s_iconst (v := 0) dX5_canBe_116 rfl ?_
        refine s_goto (tgt := 131) dX5_canBe_117 (by decide) ?_
        exact s_zret rfl dX5_canBe_131
      ·
        refine s_iconst (v := 1) dX5_canBe_112 rfl ?_
        refine s_goto (tgt := 131) dX5_canBe_113 (by decide) ?_
        exact s_zret rfl dX5_canBe_131
    ·
      refine s_iload_n 0 dX5_canBe_120 rfl rfl ?_
      refine s_bipush (v := 30) dX5_canBe_121 rfl ?_
      refine s_icmp_gt (tgt := 130) dX5_canBe_123 (by decide) ?_ ?_
      ·
        refine s_iconst (v := 0) dX5_canBe_130 rfl ?_
        exact s_zret rfl dX5_canBe_131
      ·
        refine s_iconst (v := 1) dX5_canBe_126 rfl ?_
        refine s_goto (tgt := 131) dX5_canBe_127 (by decide) ?_
        exact s_zret rfl dX5_canBe_131
  refine s_tab 10 (tgt := 103) dX5_canBe_8 (by decide) (by decide) rfl (by decide) ?_ (fun e16 => ?_)
  ·
    refine s_iload_n 3 dX5_canBe_103 rfl rfl ?_
    refine s_if_ne (tgt := 120) dX5_canBe_104 (by decide) ?_ ?_
    ·
      refine s_iload_n 0 dX5_canBe_107 rfl rfl ?_
      refine s_iconst (v := 5) dX5_canBe_108 rfl ?_
      refine s_icmp_ge (tgt := 116) dX5_canBe_109 (by decide) ?_ ?_
      ·
        refine s_iconst (v := 0) dX5_canBe_116 rfl ?_
        refine s_goto (tgt := 131) dX5_canBe_117 (by decide) ?_
        exact s_zret rfl dX5_canBe_131
      ·
        refine s_iconst (v := 1) dX5_canBe_112 rfl ?_
        refine s_goto (tgt := 131) dX5_canBe_113 (by decide) ?_
        exact s_zret rfl dX5_canBe_131
    ·
      refine s_iload_n 0 dX5_canBe_120 rfl rfl ?_
      refine s_bipush (v := 30) dX5_canBe_121 rfl ?_
      refine s_icmp_gt (tgt := 130) dX5_canBe_123 (by decide) ?_ ?_
      ·
        refine s_iconst (v := 0) dX5_canBe_130 rfl ?_
        exact s_zret rfl dX5_canBe_131
      ·
        refine s_iconst (v := 1) dX5_canBe_126 rfl ?_
        refine s_goto (tgt := 131) dX5_canBe_127 (by decide) ?_
        exact s_zret rfl dX5_canBe_131
  have e2 := lv_neT e2 (show (0 : Int32).toInt = 0 from rfl)
  have e5 := lv_neT e5 (show (1 : Int32).toInt = 1 from rfl)
  have e6 := lv_neT e6 (show (2 : Int32).toInt = 2 from rfl)
  have e9 := lv_neT e9 (show (3 : Int32).toInt = 3 from rfl)
  have e10 := lv_neT e10 (show (4 : Int32).toInt = 4 from rfl)
  have e11 := lv_neT e11 (show (5 : Int32).toInt = 5 from rfl)
  have e12 := lv_neT e12 (show (6 : Int32).toInt = 6 from rfl)
  have e13 := lv_neT e13 (show (7 : Int32).toInt = 7 from rfl)
  have e14 := lv_neT e14 (show (8 : Int32).toInt = 8 from rfl)
  have e15 := lv_neT e15 (show (9 : Int32).toInt = 9 from rfl)
  have e16 := lv_neT e16 (show (10 : Int32).toInt = 10 from rfl)
  refine s_tabd (tgt := 143) dX5_canBe_8 (by omega) (by decide) ?_
  refine s_iload_n 0 dX5_canBe_143 rfl rfl ?_
  refine s_iconst (v := 5) dX5_canBe_144 rfl ?_
  refine s_icmp_ge (tgt := 152) dX5_canBe_145 (by decide) ?_ ?_
  ·
    refine s_iconst (v := 0) dX5_canBe_152 rfl ?_
    exact s_zret rfl dX5_canBe_153
  ·
    refine s_iconst (v := 1) dX5_canBe_148 rfl ?_
    refine s_goto (tgt := 153) dX5_canBe_149 (by decide) ?_
    exact s_zret rfl dX5_canBe_153
def fX5_isWord_l20 (a1 : Nat) (K : Hp → Option (Int32 × Hp)) (rec : Int32 → Hp → Option (Int32 × Hp)) (l2 : Int32) (h : Hp) : Option (Int32 × Hp) :=
  ck (decide (a1 < 11)) (
  if (nI (strLen.getD a1 0)) ≤ l2 then (K h)
  else (bnd (fX5_byteAt ((rd h 3 0 9) + l2) h) fun x2 h1 =>
  ck (decide (a1 < 11)) (ck (ib l2 (strLen.getD a1 0)) (
  if x2 = ((strByt.getD a1 []).getD l2.toNatClampNeg 0) then (lt (l2 + 1) fun x3 =>
  rec x3 h1)
  else (ck (zk 0) (some (0, h1)))))))
def fX5_isWord (a1 : Nat) (h : Hp) : Option (Int32 × Hp) :=
  ck (decide (a1 < 11)) (
  if ((rd h 3 0 7) - (rd h 3 0 9)) = (nI (strLen.getD a1 0)) then (itr1 (fX5_isWord_l20 a1 (fun h4 => ck (zk 1) (some (1, h4)))) FU 0 h)
  else (ck (zk 0) (some (0, h))))
set_option maxHeartbeats 4000000 in
set_option maxRecDepth 100000 in
theorem sX5_isWord_l20 (g : GE) (a1 : Nat) (K : Hp → Option (Int32 × Hp)) (hK : ∀ (h : Hp), Sim cvi 0 g mX5_isWord 6 54 [] [] h (K  h)) : ∀ (n : Nat) (l2 : Int32) (h : Hp), Sim cvi 0 g mX5_isWord 6 20 [(0, rv g 3 0), (1, .ref (g.2.2.2.2.1 a1)), (2, .int l2)] [] h (itr1 (fX5_isWord_l20 a1 K) n l2 h) := by
  refine s_itr1 (fun l2 h o => Sim cvi 0 g mX5_isWord 6 20 [(0, rv g 3 0), (1, .ref (g.2.2.2.2.1 a1)), (2, .int l2)] [] h o) (fun _ _ => s_none) ?_
  intro rec hrec l2 h
  unfold fX5_isWord_l20
  refine s_iload_n 2 dX5_isWord_20 rfl rfl ?_
  refine s_aload_n 1 dX5_isWord_21 rfl rfl ?_
  refine s_slen (i := a1) tl_X5_132 (Nat.le_of_ble_eq_true rfl) (Nat.le_of_ble_eq_true rfl) dX5_isWord_22 ?_
  refine s_icmp_ge (tgt := 54) dX5_isWord_25 (by decide) ?_ ?_
  ·
    refine s_sub [] rfl ?_
    exact hK h
  ·
    refine s_aload_n 0 dX5_isWord_28 rfl rfl ?_
    refine s_aload_n 0 dX5_isWord_29 rfl rfl ?_
    refine s_geti (s0 := 0) dX5_isWord_30 fl_X5_52 ?_
    refine s_iload_n 2 dX5_isWord_33 rfl rfl ?_
    refine s_iadd dX5_isWord_34 ?_
    refine s_callVi (s0 := 0) (As := [.int ((rd h 3 0 9) + l2)]) (rest := []) (cX5_byteAt_ok g ((rd h 3 0 9) + l2) h) vl_X5_112 rfl (Nat.le_of_ble_eq_true rfl) (Nat.le_of_ble_eq_true rfl) dX5_isWord_35 rfl (fun x2 h1 => ?_)
    refine s_aload_n 1 dX5_isWord_38 rfl rfl ?_
    refine s_iload_n 2 dX5_isWord_39 rfl rfl ?_
    refine s_schar (i := a1) tl_X5_136 (Nat.le_of_ble_eq_true rfl) (Nat.le_of_ble_eq_true rfl) dX5_isWord_40 ?_
    refine s_icmp_eq (tgt := 48) dX5_isWord_43 (by decide) ?_ ?_
    ·
      refine s_iincl 2 (w := 1) (fun x3 => [(2, .int x3), (0, rv g 3 0), (1, .ref (g.2.2.2.2.1 a1))]) dX5_isWord_48 rfl rfl (by decide) (fun _ => rfl) (fun x3 => ?_)
      refine s_goto (tgt := 20) dX5_isWord_51 (by decide) ?_
      refine s_sub [1, 2, 0] rfl ?_
      exact hrec x3 h1
    ·
      refine s_iconst (v := 0) dX5_isWord_46 rfl ?_
      exact s_zret rfl dX5_isWord_47
set_option maxHeartbeats 4000000 in
set_option maxRecDepth 100000 in
theorem cX5_isWord_ok (g : GE) (a1 : Nat) (h : Hp) : Con cvi 0 g mX5_isWord 6 [rv g 3 0, .ref (g.2.2.2.2.1 a1)] h (fX5_isWord a1 h) := by
  refine Con.of (by decide +kernel) (Nat.le_of_ble_eq_true rfl) ?_
  show Sim cvi 0 g mX5_isWord 6 0 [(0, rv g 3 0), (1, .ref (g.2.2.2.2.1 a1))] [] h _
  unfold fX5_isWord
  refine s_aload_n 0 dX5_isWord_0 rfl rfl ?_
  refine s_geti (s0 := 0) dX5_isWord_1 fl_X5_46 ?_
  refine s_aload_n 0 dX5_isWord_4 rfl rfl ?_
  refine s_geti (s0 := 0) dX5_isWord_5 fl_X5_52 ?_
  refine s_isub dX5_isWord_8 ?_
  refine s_aload_n 1 dX5_isWord_9 rfl rfl ?_
  refine s_slen (i := a1) tl_X5_132 (Nat.le_of_ble_eq_true rfl) (Nat.le_of_ble_eq_true rfl) dX5_isWord_10 ?_
  refine s_icmp_eq (tgt := 18) dX5_isWord_13 (by decide) ?_ ?_
  ·
    refine s_iconst (v := 0) dX5_isWord_18 rfl ?_
    refine s_istore_n (ls' := [(2, .int 0), (0, rv g 3 0), (1, .ref (g.2.2.2.2.1 a1))]) dX5_isWord_19 rfl (by decide) rfl ?_
    refine s_sub (ls' := [(0, rv g 3 0), (1, .ref (g.2.2.2.2.1 a1)), (2, .int 0)]) [1, 2, 0] rfl ?_
    refine sX5_isWord_l20 g a1 _ (fun h4 => ?_) FU 0 h
    refine s_iconst (v := 1) dX5_isWord_54 rfl ?_
    exact s_zret rfl dX5_isWord_55
  ·
    refine s_iconst (v := 0) dX5_isWord_16 rfl ?_
    exact s_zret rfl dX5_isWord_17
