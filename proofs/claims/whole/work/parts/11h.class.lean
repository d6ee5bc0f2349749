def fX8_span_l25 (a0 : Nat) (K : Int32 → Int32 → Hp → Option (Int32 × Hp)) (rec : Int32 → Int32 → Int32 → Hp → Option (Int32 × Hp)) (l1 l2 l3 : Int32) (h : Hp) : Option (Int32 × Hp) :=
  if (rd h 6 a0 2) ≤ l3 then (K l1 l2 h)
  else (ck (ib l3 5) (
  lt (if (ra h 33 a0 l3) < l1 then (ra h 33 a0 l3) else l1) fun x3 =>
  ck (ib l3 5) (
  lt (if l2 < (ra h 33 a0 l3) then (ra h 33 a0 l3) else l2) fun x4 =>
  lt (l3 + 1) fun x5 =>
  rec x3 x4 x5 h)))
def fX8_span (a0 : Nat) (h : Hp) : Option (Int32 × Hp) :=
  if (rd h 6 a0 2) = 0 then (some (0, h))
  else (ck (ib 0 5) (
  lt (ra h 33 a0 0) fun x1 =>
  ck (ib 0 5) (
  lt (ra h 33 a0 0) fun x2 =>
  itr3 (fX8_span_l25 a0 (fun y6 y7 h8 => some (y7 - y6, h8))) FU x1 x2 1 h)))
set_option maxHeartbeats 4000000 in
set_option maxRecDepth 100000 in
theorem sX8_span_l25 (g : GE) (a0 : Nat) (K : Int32 → Int32 → Hp → Option (Int32 × Hp)) (hK : ∀ (y1 y2 : Int32) (h : Hp), Sim cvi 0 g mX8_span 2 61 [(1, .int y1), (2, .int y2)] [] h (K y1 y2 h)) : ∀ (n : Nat) (l1 l2 l3 : Int32) (h : Hp), Sim cvi 0 g mX8_span 2 25 [(0, rv g 6 a0), (1, .int l1), (2, .int l2), (3, .int l3)] [] h (itr3 (fX8_span_l25 a0 K) n l1 l2 l3 h) := by
  refine s_itr3 (fun l1 l2 l3 h o => Sim cvi 0 g mX8_span 2 25 [(0, rv g 6 a0), (1, .int l1), (2, .int l2), (3, .int l3)] [] h o) (fun _ _ _ _ => s_none) ?_
  intro rec hrec l1 l2 l3 h
  unfold fX8_span_l25
  refine s_iload_n 3 dX8_span_25 rfl rfl ?_
  refine s_aload_n 0 dX8_span_26 rfl rfl ?_
  refine s_geti (s0 := a0) dX8_span_27 fl_X8_18 ?_
  refine s_icmp_ge (tgt := 61) dX8_span_30 (by decide) ?_ ?_
  ·
    refine s_sub [1, 2] rfl ?_
    exact hK l1 l2 h
  ·
    refine s_iload_n 1 dX8_span_33 rfl rfl ?_
    refine s_aload_n 0 dX8_span_34 rfl rfl ?_
    refine s_getr1 (k2 := 33) (s0 := a0) rfl dX8_span_35 fl_X8_21 ?_
    refine s_iload_n 3 dX8_span_38 rfl rfl ?_
    refine s_iald (s0 := a0) ka_33 dX8_span_39 ?_
    refine s_mmin w_5_95 mw_min (Nat.le_of_ble_eq_true rfl) (Nat.le_of_ble_eq_true rfl) dX8_span_40 ?_
    refine s_leti (fun x3 => ?_)
    refine s_istore_n (ls' := [(1, .int x3), (0, rv g 6 a0), (2, .int l2), (3, .int l3)]) dX8_span_43 rfl (by decide) rfl ?_
    refine s_iload_n 2 dX8_span_44 rfl rfl ?_
    refine s_aload_n 1 dX8_span_45 rfl rfl ?_
    refine s_getr1 (k2 := 33) (s0 := a0) rfl dX8_span_46 fl_X8_21 ?_
    refine s_iload_n 3 dX8_span_49 rfl rfl ?_
    refine s_iald (s0 := a0) ka_33 dX8_span_50 ?_
    refine s_mmax w_3_207 mw_max (Nat.le_of_ble_eq_true rfl) (Nat.le_of_ble_eq_true rfl) dX8_span_51 ?_
    refine s_leti (fun x4 => ?_)
    refine s_istore_n (ls' := [(2, .int x4), (1, .int x3), (0, rv g 6 a0), (3, .int l3)]) dX8_span_54 rfl (by decide) rfl ?_
    refine s_iincl 3 (w := 1) (fun x5 => [(3, .int x5), (2, .int x4), (1, .int x3), (0, rv g 6 a0)]) dX8_span_55 rfl rfl (by decide) (fun _ => rfl) (fun x5 => ?_)
    refine s_goto (tgt := 25) dX8_span_58 (by decide) ?_
    refine s_sub [3, 2, 1, 0] rfl ?_
    exact hrec x3 x4 x5 h
set_option maxHeartbeats 4000000 in
set_option maxRecDepth 100000 in
theorem cX8_span_ok (g : GE) (a0 : Nat) (h : Hp) : Con cvi 0 g mX8_span 2 [rv g 6 a0] h (fX8_span a0 h) := by
  refine Con.of (by decide +kernel) (Nat.le_of_ble_eq_true rfl) ?_
  show Sim cvi 0 g mX8_span 2 0 [(0, rv g 6 a0)] [] h _
  unfold fX8_span
  refine s_aload_n 0 dX8_span_0 rfl rfl ?_
  refine s_geti (s0 := a0) dX8_span_1 fl_X8_18 ?_
  refine s_if_ne (tgt := 9) dX8_span_4 (by decide) ?_ ?_
  ·
    refine s_iconst (v := 0) dX8_span_7 rfl ?_
    exact s_iret rfl dX8_span_8
  ·
    refine s_aload_n 0 dX8_span_9 rfl rfl ?_
    refine s_getr1 (k2 := 33) (s0 := a0) rfl dX8_span_10 fl_X8_21 ?_
    refine s_iconst (v := 0) dX8_span_13 rfl ?_
    refine s_iald (s0 := a0) ka_33 dX8_span_14 ?_
    refine s_leti (fun x1 => ?_)
    refine s_istore_n (ls' := [(1, .int x1), (0, rv g 6 a0)]) dX8_span_15 rfl (by decide) rfl ?_
    refine s_aload_n 1 dX8_span_16 rfl rfl ?_
    refine s_getr1 (k2 := 33) (s0 := a0) rfl dX8_span_17 fl_X8_21 ?_
    refine s_iconst (v := 0) dX8_span_20 rfl ?_
    refine s_iald (s0 := a0) ka_33 dX8_span_21 ?_
    refine s_leti (fun x2 => ?_)
    refine s_istore_n (ls' := [(2, .int x2), (1, .int x1), (0, rv g 6 a0)]) dX8_span_22 rfl (by decide) rfl ?_
    refine s_iconst (v := 1) dX8_span_23 rfl ?_
    refine s_istore_n (ls' := [(3, .int 1), (2, .int x2), (1, .int x1), (0, rv g 6 a0)]) dX8_span_24 rfl (by decide) rfl ?_
    refine s_sub (ls' := [(0, rv g 6 a0), (1, .int x1), (2, .int x2), (3, .int 1)]) [3, 2, 1, 0] rfl ?_
    refine sX8_span_l25 g a0 _ (fun y6 y7 h8 => ?_) FU x1 x2 1 h
    refine s_iload_n 1 dX8_span_61 rfl rfl ?_
    refine s_iload_n 0 dX8_span_62 rfl rfl ?_
    refine s_isub dX8_span_63 ?_
    exact s_iret rfl dX8_span_64
def fX11_load (l1 : Int32) (l2 : Int32) (h : Hp) : Option (Int32 × Hp) :=
  bnd (fX9_stageAt 0 l1 h) fun x2 h1 =>
  nl x2 (some ((-2), h1))
  fun b3 => (if l2 = 0 then (bnd (fX8_loadPart b3 0 h1) fun x6 h5 =>
  some (x6, h5))
  else if l2 = 1 then (bnd (fX8_loadPart b3 1 h1) fun x9 h8 =>
  some (x9, h8))
  else if l2 = 2 then (if (rd h1 6 b3 2) = 0 then (some ((-1), h1))
  else (bnd (fX8_packed b3 h1) fun x12 h11 =>
  bnd (fX0_soonest b3 x12 h11) fun x14 h13 =>
  some (x14, h13)))
  else if l2 = 3 then (bnd (fX8_span b3 h1) fun x17 h16 =>
  some (x17, h16))
  else if l2 = 4 then (bnd (fX8_closeCouples b3 h1) fun x20 h19 =>
  some (x20, h19))
  else if l2 = 5 then (bnd (fX10_alonePlates b3 h1) fun x23 h22 =>
  some (x23, h22))
  else if l2 = 6 then (bnd (fX10_couplesAlone b3 h1) fun x26 h25 =>
  some (x26, h25))
  else if l2 = 7 then (bnd (fX8_latePlates b3 h1) fun x29 h28 =>
  some (x29, h28))
  else if l2 = 8 then (bnd (fX0_inRow b3 h1) fun x32 h31 =>
  jn (κ := Hp → Option (Int32 × Hp)) (fun h34 => some (1, h34)) fun k165_32 =>
  if x32 = 99 then (k165_32 h31)
  else (if (rd h31 6 b3 2) = 0 then (k165_32 h31)
  else (some (0, h31))))
  else if l2 = 9 then (bnd (fX0_inRow b3 h1) fun x37 h36 =>
  some (x37, h36))
  else if l2 = 10 then (bnd (fX8_centre b3 h1) fun x40 h39 =>
  some (x40, h39))
  else if l2 = 11 then (bnd (fX8_centre b3 h1) fun x43 h42 =>
  bnd (fX8_waysFrom b3 x43 h42) fun x45 h44 =>
  some (x45, h44))
  else if l2 = 12 then (bnd (fX10_bestSwap b3 h1) fun x48 h47 =>
  some (x48, h47))
  else (if l2 < 20 then (some ((-2), h1))
  else (bnd (fX8_falling b3 (l2 - (20 : Int32)) h1) fun x50 h49 =>
  some (x50, h49))))
set_option maxHeartbeats 4000000 in
set_option maxRecDepth 100000 in
theorem cX11_load_ok (g : GE) (l1 : Int32) (l2 : Int32) (h : Hp) : Con cvi 0 g mX11_load 9 [rv g 9 0, .int l1, .int l2] h (fX11_load l1 l2 h) := by
  refine Con.of (by decide +kernel) (Nat.le_of_ble_eq_true rfl) ?_
  show Sim cvi 0 g mX11_load 9 0 [(0, rv g 9 0), (1, .int l1), (2, .int l2)] [] h _
  unfold fX11_load
  refine s_aload_n 0 dX11_load_0 rfl rfl ?_
  refine s_getr (s0 := 0) dX11_load_1 fl_X11_10 ?_
  refine s_iload_n 1 dX11_load_4 rfl rfl ?_
  refine s_callVq (s0 := 0) (As := [.int l1]) (rest := []) (cX9_stageAt_ok g 0 l1 h) vl_X11_85 rfl (Nat.le_of_ble_eq_true rfl) (Nat.le_of_ble_eq_true rfl) dX11_load_5 rfl (fun x2 h1 => ?_)
  refine s_astoreq_n (ls' := [(3, rq g 6 x2), (0, rv g 9 0), (1, .int l1), (2, .int l2)]) dX11_load_8 rfl (by decide) (List.forall_mem_cons.mpr ⟨rfl, (List.forall_mem_cons.mpr ⟨rfl, (List.forall_mem_cons.mpr ⟨rfl, (fun _ h => absurd h List.not_mem_nil)⟩)⟩)⟩) rfl ?_
  refine s_aloadq_n 0 dX11_load_9 rfl rfl ?_
  refine s_ifnonnull x2 (tgt := 16) (fun qq => [(3, rq g 6 qq), (0, rv g 9 0), (1, .int l1), (2, .int l2)]) dX11_load_10 (by decide) ?_ (fun b3 => ?_)
  ·
    refine s_bipush (v := (-2)) dX11_load_13 rfl ?_
    exact s_iret rfl dX11_load_15
  ·
    refine s_iload_n 3 dX11_load_16 rfl rfl ?_
    refine s_tab 0 (tgt := 84) dX11_load_17 (by decide) (by decide) rfl (by decide) ?_ (fun e4 => ?_)
    ·
      refine s_aload_n 0 dX11_load_84 rfl rfl ?_
      refine s_iconst (v := 0) dX11_load_85 rfl ?_
      refine s_callVi (s0 := b3) (As := [.int 0]) (rest := []) (cX8_loadPart_ok g b3 0 h1) vl_X11_249 rfl (Nat.le_of_ble_eq_true rfl) (Nat.le_of_ble_eq_true rfl) dX11_load_86 rfl (fun x6 h5 => ?_)
      exact s_iret rfl dX11_load_89
    refine s_tab 1 (tgt := 90) dX11_load_17 (by decide) (by decide) rfl (by decide) ?_ (fun e7 => ?_)
    ·
      refine s_aload_n 0 dX11_load_90 rfl rfl ?_
      refine s_iconst (v := 1) dX11_load_91 rfl ?_
      refine s_callVi (s0 := b3) (As := [.int 1]) (rest := []) (cX8_loadPart_ok g b3 1 h1) vl_X11_249 rfl (Nat.le_of_ble_eq_true rfl) (Nat.le_of_ble_eq_true rfl) dX11_load_92 rfl (fun x9 h8 => ?_)
      exact s_iret rfl dX11_load_95
    refine s_tab 2 (tgt := 96) dX11_load_17 (by decide) (by decide) rfl (by decide) ?_ (fun e10 => ?_)
    ·
      refine s_aload_n 0 dX11_load_96 rfl rfl ?_
      refine s_geti (s0 := b3) dX11_load_97 fl_X11_97 ?_
      refine s_if_ne (tgt := 107) dX11_load_100 (by decide) ?_ ?_
      ·
        refine s_iconst (v := (-1)) dX11_load_103 rfl ?_
        refine s_goto (tgt := 115) dX11_load_104 (by decide) ?_
        exact s_iret rfl dX11_load_115
      ·
        refine s_aload_n 0 dX11_load_107 rfl rfl ?_
        refine s_aload_n 0 dX11_load_108 rfl rfl ?_
        refine s_callVi (s0 := b3) (As := []) (rest := [rv g 6 b3]) (cX8_packed_ok g b3 h1) vl_X11_253 rfl (Nat.le_of_ble_eq_true rfl) (Nat.le_of_ble_eq_true rfl) dX11_load_109 rfl (fun x12 h11 => ?_)
        refine s_callSi (As := [rv g 6 b3, .int x12]) (rest := []) (cX0_soonest_ok g b3 x12 h11) sl_X11_256 rfl (Nat.le_of_ble_eq_true rfl) (Nat.le_of_ble_eq_true rfl) dX11_load_112 rfl (fun x14 h13 => ?_)
        exact s_iret rfl dX11_load_115
    refine s_tab 3 (tgt := 116) dX11_load_17 (by decide) (by decide) rfl (by decide) ?_ (fun e15 => ?_)
    ·
      refine s_aload_n 0 dX11_load_116 rfl rfl ?_
      refine s_callVi (s0 := b3) (As := []) (rest := []) (cX8_span_ok g b3 h1) vl_X11_261 rfl (Nat.le_of_ble_eq_true rfl) (Nat.le_of_ble_eq_true rfl) dX11_load_117 rfl (fun x17 h16 => ?_)
      exact s_iret rfl dX11_load_120
    refine s_tab 4 (tgt := 121) dX11_load_17 (by decide) (by decide) rfl (by decide) ?_ (fun e18 => ?_)
    ·
      refine s_aload_n 0 dX11_load_121 rfl rfl ?_
      refine s_callVi (s0 := b3) (As := []) (rest := []) (cX8_closeCouples_ok g b3 h1) vl_X11_264 rfl (Nat.le_of_ble_eq_true rfl) (Nat.le_of_ble_eq_true rfl) dX11_load_122 rfl (fun x20 h19 => ?_)
      exact s_iret rfl dX11_load_125
    refine s_tab 5 (tgt := 126) dX11_load_17 (by decide) (by decide) rfl (by decide) ?_ (fun e21 => ?_)
    ·
      refine s_aload_n 1 dX11_load_126 rfl rfl ?_
      refine s_getr (s0 := 0) dX11_load_127 fl_X11_41 ?_
      refine s_aload_n 0 dX11_load_130 rfl rfl ?_
      refine s_callVi (s0 := 0) (As := [rv g 6 b3]) (rest := []) (cX10_alonePlates_ok g b3 h1) vl_X11_267 rfl (Nat.le_of_ble_eq_true rfl) (Nat.le_of_ble_eq_true rfl) dX11_load_131 rfl (fun x23 h22 => ?_)
      exact s_iret rfl dX11_load_134
    refine s_tab 6 (tgt := 135) dX11_load_17 (by decide) (by decide) rfl (by decide) ?_ (fun e24 => ?_)
    ·
      refine s_aload_n 1 dX11_load_135 rfl rfl ?_
      refine s_getr (s0 := 0) dX11_load_136 fl_X11_41 ?_
      refine s_aload_n 0 dX11_load_139 rfl rfl ?_
      refine s_callVi (s0 := 0) (As := [rv g 6 b3]) (rest := []) (cX10_couplesAlone_ok g b3 h1) vl_X11_270 rfl (Nat.le_of_ble_eq_true rfl) (Nat.le_of_ble_eq_true rfl) dX11_load_140 rfl (fun x26 h25 => ?_)
      exact s_iret rfl dX11_load_143
    refine s_tab 7 (tgt := 144) dX11_load_17 (by decide) (by decide) rfl (by decide) ?_ (fun e27 => ?_)
    ·
      refine s_aload_n 0 dX11_load_144 rfl rfl ?_
      refine s_callVi (s0 := b3) (As := []) (rest := []) (cX8_latePlates_ok g b3 h1) vl_X11_273 rfl (Nat.le_of_ble_eq_true rfl) (Nat.le_of_ble_eq_true rfl) dX11_load_145 rfl (fun x29 h28 => ?_)
      exact s_iret rfl dX11_load_148
    refine s_tab 8 (tgt := 149) dX11_load_17 (by decide) (by decide) rfl (by decide) ?_ (fun e30 => ?_)
    ·
      refine s_aload_n 0 dX11_load_149 rfl rfl ?_
      refine s_callSi (As := [rv g 6 b3]) (rest := []) (cX0_inRow_ok g b3 h1) sl_X11_276 rfl (Nat.le_of_ble_eq_true rfl) (Nat.le_of_ble_eq_true rfl) dX11_load_150 rfl (fun x32 h31 => ?_)
      refine s_bipush (v := 99) dX11_load_153 rfl ?_
      refine s_jn (fun (k165_32 : Hp → Option (Int32 × Hp)) => ∀ (h34 : Hp), Sim cvi 0 g mX11_load 9 165 [] [] h34 (k165_32 h34)) (fun h34 => ?_) (fun k165_32 Hk165_32 => ?_)
      ·
        refine s_iconst (v := 1) dX11_load_165 rfl ?_
        refine s_goto (tgt := 170) dX11_load_166 (by decide) ?_
        exact s_iret rfl dX11_load_170
      refine s_icmp_eq (tgt := 165) dX11_load_155 (by decide) ?_ ?_
      ·
        refine s_sub [] rfl ?_
        exact Hk165_32 h31
      ·
        refine s_aload_n 0 dX11_load_158 rfl rfl ?_
        refine s_geti (s0 := b3) dX11_load_159 fl_X11_97 ?_
        refine s_if_ne (tgt := 169) dX11_load_162 (by decide) ?_ ?_
        ·
          refine s_sub [] rfl ?_
          exact Hk165_32 h31
        ·
          refine s_iconst (v := 0) dX11_load_169 rfl ?_
          exact s_iret rfl dX11_load_170
    refine s_tab 9 (tgt := 171) dX11_load_17 (by decide) (by decide) rfl (by decide) ?_ (fun e35 => ?_)
    ·
      refine s_aload_n 0 dX11_load_171 rfl rfl ?_
      refine s_callSi (As := [rv g 6 b3]) (rest := []) (cX0_inRow_ok g b3 h1) sl_X11_276 rfl (Nat.le_of_ble_eq_true rfl) (Nat.le_of_ble_eq_true rfl) dX11_load_172 rfl (fun x37 h36 => ?_)
      exact s_iret rfl dX11_load_175
    refine s_tab 10 (tgt := 176) dX11_load_17 (by decide) (by decide) rfl (by decide) ?_ (fun e38 => ?_)
    ·
      refine s_aload_n 0 dX11_load_176 rfl rfl ?_
      refine s_callVi (s0 := b3) (As := []) (rest := []) (cX8_centre_ok g b3 h1) vl_X11_279 rfl (Nat.le_of_ble_eq_true rfl) (Nat.le_of_ble_eq_true rfl) dX11_load_177 rfl (fun x40 h39 => ?_)
      exact s_iret rfl dX11_load_180
    refine s_tab 11 (tgt := 181) dX11_load_17 (by decide) (by decide) rfl (by decide) ?_ (fun e41 => ?_)
    ·
      refine s_aload_n 0 dX11_load_181 rfl rfl ?_
      refine s_aload_n 0 dX11_load_182 rfl rfl ?_
      refine s_callVi (s0 := b3) (As := []) (rest := [rv g 6 b3]) (cX8_centre_ok g b3 h1) vl_X11_279 rfl (Nat.le_of_ble_eq_true rfl) (Nat.le_of_ble_eq_true rfl) dX11_load_183 rfl (fun x43 h42 => ?_)
      refine s_callVi (s0 := b3) (As := [.int x43]) (rest := []) (cX8_waysFrom_ok g b3 x43 h42) vl_X11_282 rfl (Nat.le_of_ble_eq_true rfl) (Nat.le_of_ble_eq_true rfl) dX11_load_186 rfl (fun x45 h44 => ?_)
      exact s_iret rfl dX11_load_189
    refine s_tab 12 (tgt := 190) dX11_load_17 (by decide) (by decide) rfl (by decide) ?_ (fun e46 => ?_)
    ·
      refine s_aload_n 1 dX11_load_190 rfl rfl ?_
      refine s_getr (s0 := 0) dX11_load_191 fl_X11_41 ?_
      refine s_aload_n 0 dX11_load_194 rfl rfl ?_
      refine s_callVi (s0 := 0) (As := [rv g 6 b3]) (rest := []) (cX10_bestSwap_ok g b3 h1) vl_X11_285 rfl (Nat.le_of_ble_eq_true rfl) (Nat.le_of_ble_eq_true rfl) dX11_load_195 rfl (fun x48 h47 => ?_)
      exact s_iret rfl dX11_load_198
    have e4 := lv_neT e4 (show (0 : Int32).toInt = 0 from rfl)
    have e7 := lv_neT e7 (show (1 : Int32).toInt = 1 from rfl)
    have e10 := lv_neT e10 (show (2 : Int32).toInt = 2 from rfl)
    have e15 := lv_neT e15 (show (3 : Int32).toInt = 3 from rfl)
    have e18 := lv_neT e18 (show (4 : Int32).toInt = 4 from rfl)
    have e21 := lv_neT e21 (show (5 : Int32).toInt = 5 from rfl)
    have e24 := lv_neT e24 (show (6 : Int32).toInt = 6 from rfl)
    have e27 := lv_neT e27 (show (7 : Int32).toInt = 7 from rfl)
    have e30 := lv_neT e30 (show (8 : Int32).toInt = 8 from rfl)
    have e35 := lv_neT e35 (show (9 : Int32).toInt = 9 from rfl)
    have e38 := lv_neT e38 (show (10 : Int32).toInt = 10 from rfl)
    have e41 := lv_neT e41 (show (11 : Int32).toInt = 11 from rfl)
    have e46 := lv_neT e46 (show (12 : Int32).toInt = 12 from rfl)
    refine s_tabd (tgt := 199) dX11_load_17 (by omega) (by decide) ?_
    refine s_iload_n 3 dX11_load_199 rfl rfl ?_
    refine s_bipush (v := 20) dX11_load_200 rfl ?_
    refine s_icmp_lt (tgt := 216) dX11_load_202 (by decide) ?_ ?_
    ·
      refine s_bipush (v := (-2)) dX11_load_216 rfl ?_
      exact s_iret rfl dX11_load_218
    ·
      refine s_aload_n 0 dX11_load_205 rfl rfl ?_
      refine s_iload_n 3 dX11_load_206 rfl rfl ?_
      refine s_bipush (v := 20) dX11_load_207 rfl ?_
      refine s_isub dX11_load_209 ?_
      refine s_callVi (s0 := b3) (As := [.int (l2 - (20 : Int32))]) (rest := []) (cX8_falling_ok g b3 (l2 - (20 : Int32)) h1) vl_X11_288 rfl (Nat.le_of_ble_eq_true rfl) (Nat.le_of_ble_eq_true rfl) dX11_load_210 rfl (fun x50 h49 => ?_)
      refine s_goto (tgt := 218) dX11_load_213 (by decide) ?_
      exact s_iret rfl dX11_load_218
def fX3_factPart (a0 : Nat) (l1 : Int32) (h : Hp) : Option (Int32 × Hp) :=
  lt (irm l1 10) fun x1 =>
  if x1 < 0 then (some ((-1), h))
  else (if x1 < (rd h 1 a0 1) then (lt (l1 / 10) fun x2 =>
  if x2 = 1 then (ck (ib x1 8) (
  some (ra h 21 a0 x1, h)))
  else if x2 = 2 then (ck (ib x1 8) (
  some (ra h 22 a0 x1, h)))
  else if x2 = 3 then (ck (ib x1 8) (
  some (ra h 23 a0 x1, h)))
  else (some ((-1), h)))
  else (some ((-1), h)))
set_option maxHeartbeats 4000000 in
set_option maxRecDepth 100000 in
theorem cX3_factPart_ok (g : GE) (a0 : Nat) (l1 : Int32) (h : Hp) : Con cvi 0 g mX3_factPart 2 [rv g 1 a0, .int l1] h (fX3_factPart a0 l1 h) := by
  refine Con.of (by decide +kernel) (Nat.le_of_ble_eq_true rfl) ?_
  show Sim cvi 0 g mX3_factPart 2 0 [(0, rv g 1 a0), (1, .int l1)] [] h _
  unfold fX3_factPart
  refine s_iload_n 1 dX3_factPart_0 rfl rfl ?_
  refine s_bipush (v := 10) dX3_factPart_1 rfl ?_
  refine s_iremc dX3_factPart_3 (by decide) ?_
  refine s_leti (fun x1 => ?_)
  refine s_istore_n (ls' := [(2, .int x1), (0, rv g 1 a0), (1, .int l1)]) dX3_factPart_4 rfl (by decide) rfl ?_
  refine s_iload_n 0 dX3_factPart_5 rfl rfl ?_
  refine s_if_lt (tgt := 17) dX3_factPart_6 (by decide) ?_ ?_
  ·
    refine s_iconst (v := (-1)) dX3_factPart_17 rfl ?_
    exact s_iret rfl dX3_factPart_18
  ·
    refine s_iload_n 0 dX3_factPart_9 rfl rfl ?_
    refine s_aload_n 1 dX3_factPart_10 rfl rfl ?_
    refine s_geti (s0 := a0) dX3_factPart_11 fl_X3_15 ?_
    refine s_icmp_lt (tgt := 19) dX3_factPart_14 (by decide) ?_ ?_
    ·
      refine s_iload_n 2 dX3_factPart_19 rfl rfl ?_
      refine s_bipush (v := 10) dX3_factPart_20 rfl ?_
      refine s_idivc dX3_factPart_22 (by decide) ?_
      refine s_leti (fun x2 => ?_)
      refine s_tab 1 (tgt := 48) dX3_factPart_23 (by decide) (by decide) rfl (by decide) ?_ (fun e3 => ?_)
      ·
        refine s_aload_n 1 dX3_factPart_48 rfl rfl ?_
        refine s_getr1 (k2 := 21) (s0 := a0) rfl dX3_factPart_49 fl_X3_18 ?_
        refine s_iload_n 0 dX3_factPart_52 rfl rfl ?_
        refine s_iald (s0 := a0) ka_21 dX3_factPart_53 ?_
        exact s_iret rfl dX3_factPart_54
      refine s_tab 2 (tgt := 55) dX3_factPart_23 (by decide) (by decide) rfl (by decide) ?_ (fun e4 => ?_)
      ·
        refine s_aload_n 1 dX3_factPart_55 rfl rfl ?_
        refine s_getr1 (k2 := 22) (s0 := a0) rfl dX3_factPart_56 fl_X3_22 ?_
        refine s_iload_n 0 dX3_factPart_59 rfl rfl ?_
        refine s_iald (s0 := a0) ka_22 dX3_factPart_60 ?_
        exact s_iret rfl dX3_factPart_61
      refine s_tab 3 (tgt := 62) dX3_factPart_23 (by decide) (by decide) rfl (by decide) ?_ (fun e5 => ?_)
      ·
        refine s_aload_n 1 dX3_factPart_62 rfl rfl ?_
        refine s_getr1 (k2 := 23) (s0 := a0) rfl dX3_factPart_63 fl_X3_25 ?_
        refine s_iload_n 0 dX3_factPart_66 rfl rfl ?_
        refine s_iald (s0 := a0) ka_23 dX3_factPart_67 ?_
        exact s_iret rfl dX3_factPart_68
      have e3 := lv_neT e3 (show (1 : Int32).toInt = 1 from rfl)
      have e4 := lv_neT e4 (show (2 : Int32).toInt = 2 from rfl)
      have e5 := lv_neT e5 (show (3 : Int32).toInt = 3 from rfl)
      refine s_tabd (tgt := 69) dX3_factPart_23 (by omega) (by decide) ?_
      refine s_iconst (v := (-1)) dX3_factPart_69 rfl ?_
      exact s_iret rfl dX3_factPart_70
    ·
      refine s_iconst (v := (-1)) dX3_factPart_17 rfl ?_
      exact s_iret rfl dX3_factPart_18
def fX11_log (l1 : Int32) (l2 : Int32) (h : Hp) : Option (Int32 × Hp) :=
  bnd (fX9_logAt 0 l1 h) fun x2 h1 =>
  nl x2 (some ((-1), h1))
  fun b3 => (if l2 = 0 then (some (rd h1 1 b3 0, h1))
  else if l2 = 1 then (some (rd h1 1 b3 1, h1))
  else (bnd (fX3_factPart b3 l2 h1) fun x7 h6 =>
  some (x7, h6)))
set_option maxHeartbeats 4000000 in
set_option maxRecDepth 100000 in
theorem cX11_log_ok (g : GE) (l1 : Int32) (l2 : Int32) (h : Hp) : Con cvi 0 g mX11_log 3 [rv g 9 0, .int l1, .int l2] h (fX11_log l1 l2 h) := by
  refine Con.of (by decide +kernel) (Nat.le_of_ble_eq_true rfl) ?_
  show Sim cvi 0 g mX11_log 3 0 [(0, rv g 9 0), (1, .int l1), (2, .int l2)] [] h _
  unfold fX11_log
  refine s_aload_n 0 dX11_log_0 rfl rfl ?_
  refine s_getr (s0 := 0) dX11_log_1 fl_X11_10 ?_
  refine s_iload_n 1 dX11_log_4 rfl rfl ?_
  refine s_callVq (s0 := 0) (As := [.int l1]) (rest := []) (cX9_logAt_ok g 0 l1 h) vl_X11_214 rfl (Nat.le_of_ble_eq_true rfl) (Nat.le_of_ble_eq_true rfl) dX11_log_5 rfl (fun x2 h1 => ?_)
  refine s_astoreq_n (ls' := [(3, rq g 1 x2), (0, rv g 9 0), (1, .int l1), (2, .int l2)]) dX11_log_8 rfl (by decide) (List.forall_mem_cons.mpr ⟨rfl, (List.forall_mem_cons.mpr ⟨rfl, (List.forall_mem_cons.mpr ⟨rfl, (fun _ h => absurd h List.not_mem_nil)⟩)⟩)⟩) rfl ?_
  refine s_aloadq_n 0 dX11_log_9 rfl rfl ?_
  refine s_ifnonnull x2 (tgt := 15) (fun qq => [(3, rq g 1 qq), (0, rv g 9 0), (1, .int l1), (2, .int l2)]) dX11_log_10 (by decide) ?_ (fun b3 => ?_)
  ·
    refine s_iconst (v := (-1)) dX11_log_13 rfl ?_
    exact s_iret rfl dX11_log_14
  ·
    refine s_iload_n 3 dX11_log_15 rfl rfl ?_
    refine s_lk 0 (tgt := 44) dX11_log_16 (by decide) rfl (by decide) ?_ (fun e4 => ?_)
    ·
      refine s_aload_n 0 dX11_log_44 rfl rfl ?_
      refine s_geti (s0 := b3) dX11_log_45 fl_X11_218 ?_
      exact s_iret rfl dX11_log_48
    refine s_lk 1 (tgt := 49) dX11_log_16 (by decide) rfl (by decide) ?_ (fun e5 => ?_)
    ·
      refine s_aload_n 0 dX11_log_49 rfl rfl ?_
      refine s_geti (s0 := b3) dX11_log_50 fl_X11_223 ?_
      exact s_iret rfl dX11_log_53
    refine s_lkd (tgt := 54) dX11_log_16 (by decide) ((lv_osw e4 rfl).trans ((lv_osw e5 rfl).trans rfl)) (by decide) ?_
    refine s_aload_n 0 dX11_log_54 rfl rfl ?_
    refine s_iload_n 3 dX11_log_55 rfl rfl ?_
    refine s_callVi (s0 := b3) (As := [.int l2]) (rest := []) (cX3_factPart_ok g b3 l2 h1) vl_X11_226 rfl (Nat.le_of_ble_eq_true rfl) (Nat.le_of_ble_eq_true rfl) dX11_log_56 rfl (fun x7 h6 => ?_)
    exact s_iret rfl dX11_log_59
def fX11_needOfPlate (a1 : Nat) (l2 : Int32) (h : Hp) : Option (Int32 × Hp) :=
  bnd (fX8_has a1 (l2 - (10 : Int32)) h) fun x2 h1 =>
  if x2 = 0 then (bnd (fX8_has a1 (l2 - (20 : Int32)) h1) fun x4 h3 =>
  if x4 = 0 then (some ((-2), h3))
  else (bnd (fX10_movePlaces a1 (l2 - (20 : Int32)) h3) fun x6 h5 =>
  some (x6, h5)))
  else (bnd (fX10_leastLife a1 (l2 - (10 : Int32)) h1) fun x8 h7 =>
  some (x8, h7))
set_option maxHeartbeats 4000000 in
set_option maxRecDepth 100000 in
theorem cX11_needOfPlate_ok (g : GE) (a1 : Nat) (l2 : Int32) (h : Hp) : Con cvi 0 g mX11_needOfPlate 8 [rv g 9 0, rv g 6 a1, .int l2] h (fX11_needOfPlate a1 l2 h) := by
  refine Con.of (by decide +kernel) (Nat.le_of_ble_eq_true rfl) ?_
  show Sim cvi 0 g mX11_needOfPlate 8 0 [(0, rv g 9 0), (1, rv g 6 a1), (2, .int l2)] [] h _
  unfold fX11_needOfPlate
  refine s_aload_n 1 dX11_needOfPlate_0 rfl rfl ?_
  refine s_iload_n 2 dX11_needOfPlate_1 rfl rfl ?_
  refine s_bipush (v := 10) dX11_needOfPlate_2 rfl ?_
  refine s_isub dX11_needOfPlate_4 ?_
  refine s_callVi (s0 := a1) (As := [.int (l2 - (10 : Int32))]) (rest := []) (cX8_has_ok g a1 (l2 - (10 : Int32)) h) vl_X11_172 rfl (Nat.le_of_ble_eq_true rfl) (Nat.le_of_ble_eq_true rfl) dX11_needOfPlate_5 rfl (fun x2 h1 => ?_)
  refine s_if_eq (tgt := 24) dX11_needOfPlate_8 (by decide) ?_ ?_
  ·
    refine s_aload_n 1 dX11_needOfPlate_24 rfl rfl ?_
    refine s_iload_n 2 dX11_needOfPlate_25 rfl rfl ?_
    refine s_bipush (v := 20) dX11_needOfPlate_26 rfl ?_
    refine s_isub dX11_needOfPlate_28 ?_
    refine s_callVi (s0 := a1) (As := [.int (l2 - (20 : Int32))]) (rest := []) (cX8_has_ok g a1 (l2 - (20 : Int32)) h1) vl_X11_172 rfl (Nat.le_of_ble_eq_true rfl) (Nat.le_of_ble_eq_true rfl) dX11_needOfPlate_29 rfl (fun x4 h3 => ?_)
    refine s_if_eq (tgt := 48) dX11_needOfPlate_32 (by decide) ?_ ?_
    ·
      refine s_bipush (v := (-2)) dX11_needOfPlate_48 rfl ?_
      exact s_iret rfl dX11_needOfPlate_50
    ·
      refine s_aload_n 0 dX11_needOfPlate_35 rfl rfl ?_
      refine s_getr (s0 := 0) dX11_needOfPlate_36 fl_X11_41 ?_
      refine s_aload_n 1 dX11_needOfPlate_39 rfl rfl ?_
      refine s_iload_n 2 dX11_needOfPlate_40 rfl rfl ?_
      refine s_bipush (v := 20) dX11_needOfPlate_41 rfl ?_
      refine s_isub dX11_needOfPlate_43 ?_
      refine s_callVi (s0 := 0) (As := [rv g 6 a1, .int (l2 - (20 : Int32))]) (rest := []) (cX10_movePlaces_ok g a1 (l2 - (20 : Int32)) h3) vl_X11_361 rfl (Nat.le_of_ble_eq_true rfl) (Nat.le_of_ble_eq_true rfl) dX11_needOfPlate_44 rfl (fun x6 h5 => ?_)
      exact s_iret rfl dX11_needOfPlate_47
  ·
    refine s_aload_n 0 dX11_needOfPlate_11 rfl rfl ?_
    refine s_getr (s0 := 0) dX11_needOfPlate_12 fl_X11_41 ?_
    refine s_aload_n 1 dX11_needOfPlate_15 rfl rfl ?_
    refine s_iload_n 2 dX11_needOfPlate_16 rfl rfl ?_
    refine s_bipush (v := 10) dX11_needOfPlate_17 rfl ?_
    refine s_isub dX11_needOfPlate_19 ?_
    refine s_callVi (s0 := 0) (As := [rv g 6 a1, .int (l2 - (10 : Int32))]) (rest := []) (cX10_leastLife_ok g a1 (l2 - (10 : Int32)) h1) vl_X11_358 rfl (Nat.le_of_ble_eq_true rfl) (Nat.le_of_ble_eq_true rfl) dX11_needOfPlate_20 rfl (fun x8 h7 => ?_)
    exact s_iret rfl dX11_needOfPlate_23
def fX2_reached (h : Hp) : Option (Int32 × Hp) :=
  some (rd h 0 0 2, h)
set_option maxHeartbeats 4000000 in
set_option maxRecDepth 100000 in
theorem cX2_reached_ok (g : GE) (h : Hp) : Con cvi 0 g mX2_reached 2 [rv g 0 0] h (fX2_reached h) := by
  refine Con.of (by decide +kernel) (Nat.le_of_ble_eq_true rfl) ?_
  show Sim cvi 0 g mX2_reached 2 0 [(0, rv g 0 0)] [] h _
  unfold fX2_reached
  refine s_aload_n 0 dX2_reached_0 rfl rfl ?_
  refine s_geti (s0 := 0) dX2_reached_1 fl_X2_22 ?_
  exact s_iret rfl dX2_reached_4
def fX2_safe_l4 (K : Int32 → Hp → Option (Int32 × Hp)) (rec : Int32 → Int32 → Hp → Option (Int32 × Hp)) (l1 l2 : Int32) (h : Hp) : Option (Int32 × Hp) :=
  if (rd h 0 0 2) ≤ l2 then (K l1 h)
  else (ck (ib l2 2200) (
  jn (κ := Int32 → Hp → Option (Int32 × Hp)) (fun y1_0 h2 => lt (l2 + 1) fun x3 =>
  rec y1_0 x3 h2) fun k25_0 =>
  if (ra h 14 0 l2) = 3 then (lt (l1 + 1) fun x4 =>
  k25_0 x4 h)
  else (k25_0 l1 h)))
def fX2_safe (h : Hp) : Option (Int32 × Hp) :=
  itr2 (fX2_safe_l4 (fun y5 h6 => some (y5, h6))) FU 0 0 h
set_option maxHeartbeats 4000000 in
set_option maxRecDepth 100000 in
theorem sX2_safe_l4 (g : GE) (K : Int32 → Hp → Option (Int32 × Hp)) (hK : ∀ (y1 : Int32) (h : Hp), Sim cvi 0 g mX2_safe 2 31 [(1, .int y1)] [] h (K y1 h)) : ∀ (n : Nat) (l1 l2 : Int32) (h : Hp), Sim cvi 0 g mX2_safe 2 4 [(0, rv g 0 0), (1, .int l1), (2, .int l2)] [] h (itr2 (fX2_safe_l4 K) n l1 l2 h) := by
  refine s_itr2 (fun l1 l2 h o => Sim cvi 0 g mX2_safe 2 4 [(0, rv g 0 0), (1, .int l1), (2, .int l2)] [] h o) (fun _ _ _ => s_none) ?_
  intro rec hrec l1 l2 h
  unfold fX2_safe_l4
  refine s_iload_n 2 dX2_safe_4 rfl rfl ?_
  refine s_aload_n 0 dX2_safe_5 rfl rfl ?_
  refine s_geti (s0 := 0) dX2_safe_6 fl_X2_22 ?_
  refine s_icmp_ge (tgt := 31) dX2_safe_9 (by decide) ?_ ?_
  ·
    refine s_sub [1] rfl ?_
    exact hK l1 h
  ·
    refine s_aload_n 0 dX2_safe_12 rfl rfl ?_
    refine s_getr (s0 := 0) dX2_safe_13 fl_X2_49 ?_
    refine s_iload_n 2 dX2_safe_16 rfl rfl ?_
    refine s_bald (s0 := 0) ka_14 dX2_safe_17 ?_
    refine s_iconst (v := 3) dX2_safe_18 rfl ?_
    refine s_jn (fun (k25_0 : Int32 → Hp → Option (Int32 × Hp)) => ∀ (y1_0 : Int32) (h2 : Hp), Sim cvi 0 g mX2_safe 2 25 [(0, rv g 0 0), (1, .int y1_0), (2, .int l2)] [] h2 (k25_0 y1_0 h2)) (fun y1_0 h2 => ?_) (fun k25_0 Hk25_0 => ?_)
    ·
      refine s_iincl 2 (w := 1) (fun x3 => [(2, .int x3), (0, rv g 0 0), (1, .int y1_0)]) dX2_safe_25 rfl rfl (by decide) (fun _ => rfl) (fun x3 => ?_)
      refine s_goto (tgt := 4) dX2_safe_28 (by decide) ?_
      refine s_sub [1, 2, 0] rfl ?_
      exact hrec y1_0 x3 h2
    refine s_icmp_ne (tgt := 25) dX2_safe_19 (by decide) ?_ ?_
    ·
      refine s_iincl 1 (w := 1) (fun x4 => [(1, .int x4), (0, rv g 0 0), (2, .int l2)]) dX2_safe_22 rfl rfl (by decide) (fun _ => rfl) (fun x4 => ?_)
      refine s_sub [1, 0, 2] rfl ?_
      exact Hk25_0 x4 h
    ·
      exact Hk25_0 l1 h
set_option maxHeartbeats 4000000 in
set_option maxRecDepth 100000 in
theorem cX2_safe_ok (g : GE) (h : Hp) : Con cvi 0 g mX2_safe 2 [rv g 0 0] h (fX2_safe h) := by
  refine Con.of (by decide +kernel) (Nat.le_of_ble_eq_true rfl) ?_
  show Sim cvi 0 g mX2_safe 2 0 [(0, rv g 0 0)] [] h _
  unfold fX2_safe
  refine s_iconst (v := 0) dX2_safe_0 rfl ?_
  refine s_istore_n (ls' := [(1, .int 0), (0, rv g 0 0)]) dX2_safe_1 rfl (by decide) rfl ?_
  refine s_iconst (v := 0) dX2_safe_2 rfl ?_
  refine s_istore_n (ls' := [(2, .int 0), (1, .int 0), (0, rv g 0 0)]) dX2_safe_3 rfl (by decide) rfl ?_
  refine s_sub (ls' := [(0, rv g 0 0), (1, .int 0), (2, .int 0)]) [2, 1, 0] rfl ?_
  refine sX2_safe_l4 g _ (fun y5 h6 => ?_) FU 0 0 h
  refine s_iload_n 0 dX2_safe_31 rfl rfl ?_
  exact s_iret rfl dX2_safe_32
def fX11_need (l1 : Int32) (l2 : Int32) (h : Hp) : Option (Int32 × Hp) :=
  bnd (fX9_stageAt 0 l1 h) fun x2 h1 =>
  nl x2 (some ((-2), h1))
  fun b3 => (if l2 = 0 then (bnd (fX10_leastSpeed b3 h1) fun x6 h5 =>
  some (x6, h5))
  else if l2 = 1 then (bnd (fX10_startPlaces b3 h1) fun x9 h8 =>
  some (x9, h8))
  else if l2 = 2 then (bnd (fX10_mostKept b3 h1) fun x12 h11 =>
  bnd (fJ6_bitCount_0f7a4 x12 h11) fun x14 h13 =>
  some (x14, h13))
  else if l2 = 3 then (bnd (fX10_mostKept b3 h1) fun x17 h16 =>
  some (x17, h16))
  else if l2 = 4 then (bnd (fX10_sparePlates b3 h1) fun x20 h19 =>
  some (x20, h19))
  else if l2 = 5 then (bnd (fX2_exploreAll b3 h1) fun _ h22 =>
  bnd (fX2_reached h22) fun x24 h23 =>
  some (x24, h23))
  else if l2 = 6 then (bnd (fX2_exploreAll b3 h1) fun _ h26 =>
  bnd (fX2_safe h26) fun x28 h27 =>
  some (x28, h27))
  else (bnd (fX11_needOfPlate b3 l2 h1) fun x30 h29 =>
  some (x30, h29)))
set_option maxHeartbeats 4000000 in
set_option maxRecDepth 100000 in
theorem cX11_need_ok (g : GE) (l1 : Int32) (l2 : Int32) (h : Hp) : Con cvi 0 g mX11_need 9 [rv g 9 0, .int l1, .int l2] h (fX11_need l1 l2 h) := by
  refine Con.of (by decide +kernel) (Nat.le_of_ble_eq_true rfl) ?_
  show Sim cvi 0 g mX11_need 9 0 [(0, rv g 9 0), (1, .int l1), (2, .int l2)] [] h _
  unfold fX11_need
  refine s_aload_n 0 dX11_need_0 rfl rfl ?_
  refine s_getr (s0 := 0) dX11_need_1 fl_X11_10 ?_
  refine s_iload_n 1 dX11_need_4 rfl rfl ?_
  refine s_callVq (s0 := 0) (As := [.int l1]) (rest := []) (cX9_stageAt_ok g 0 l1 h) vl_X11_85 rfl (Nat.le_of_ble_eq_true rfl) (Nat.le_of_ble_eq_true rfl) dX11_need_5 rfl (fun x2 h1 => ?_)
  refine s_astoreq_n (ls' := [(3, rq g 6 x2), (0, rv g 9 0), (1, .int l1), (2, .int l2)]) dX11_need_8 rfl (by decide) (List.forall_mem_cons.mpr ⟨rfl, (List.forall_mem_cons.mpr ⟨rfl, (List.forall_mem_cons.mpr ⟨rfl, (fun _ h => absurd h List.not_mem_nil)⟩)⟩)⟩) rfl ?_
  refine s_aloadq_n 0 dX11_need_9 rfl rfl ?_
  refine s_ifnonnull x2 (tgt := 16) (fun qq => [(3, rq g 6 qq), (0, rv g 9 0), (1, .int l1), (2, .int l2)]) dX11_need_10 (by decide) ?_ (fun b3 => ?_)
  ·
    refine s_bipush (v := (-2)) dX11_need_13 rfl ?_
    exact s_iret rfl dX11_need_15
  ·
    refine s_iload_n 3 dX11_need_16 rfl rfl ?_
    refine s_tab 0 (tgt := 60) dX11_need_17 (by decide) (by decide) rfl (by decide) ?_ (fun e4 => ?_)
    ·
      refine s_aload_n 1 dX11_need_60 rfl rfl ?_
      refine s_getr (s0 := 0) dX11_need_61 fl_X11_41 ?_
      refine s_aload_n 0 dX11_need_64 rfl rfl ?_
      refine s_callVi (s0 := 0) (As := [rv g 6 b3]) (rest := []) (cX10_leastSpeed_ok g b3 h1) vl_X11_143 rfl (Nat.le_of_ble_eq_true rfl) (Nat.le_of_ble_eq_true rfl) dX11_need_65 rfl (fun x6 h5 => ?_)
      exact s_iret rfl dX11_need_68
    refine s_tab 1 (tgt := 69) dX11_need_17 (by decide) (by decide) rfl (by decide) ?_ (fun e7 => ?_)
    ·
      refine s_aload_n 1 dX11_need_69 rfl rfl ?_
      refine s_getr (s0 := 0) dX11_need_70 fl_X11_41 ?_
      refine s_aload_n 0 dX11_need_73 rfl rfl ?_
      refine s_callVi (s0 := 0) (As := [rv g 6 b3]) (rest := []) (cX10_startPlaces_ok g b3 h1) vl_X11_147 rfl (Nat.le_of_ble_eq_true rfl) (Nat.le_of_ble_eq_true rfl) dX11_need_74 rfl (fun x9 h8 => ?_)
      exact s_iret rfl dX11_need_77
    refine s_tab 2 (tgt := 78) dX11_need_17 (by decide) (by decide) rfl (by decide) ?_ (fun e10 => ?_)
    ·
      refine s_aload_n 1 dX11_need_78 rfl rfl ?_
      refine s_getr (s0 := 0) dX11_need_79 fl_X11_41 ?_
      refine s_aload_n 0 dX11_need_82 rfl rfl ?_
      refine s_callVi (s0 := 0) (As := [rv g 6 b3]) (rest := []) (cX10_mostKept_ok g b3 h1) vl_X11_150 rfl (Nat.le_of_ble_eq_true rfl) (Nat.le_of_ble_eq_true rfl) dX11_need_83 rfl (fun x12 h11 => ?_)
      refine s_callSi (As := [.int x12]) (rest := []) (cJ6_bitCount_0f7a4_ok g x12 h11) sl_X11_153 rfl (Nat.le_of_ble_eq_true rfl) (Nat.le_of_ble_eq_true rfl) dX11_need_86 rfl (fun x14 h13 => ?_)
      exact s_iret rfl dX11_need_89
    refine s_tab 3 (tgt := 90) dX11_need_17 (by decide) (by decide) rfl (by decide) ?_ (fun e15 => ?_)
    ·
      refine s_aload_n 1 dX11_need_90 rfl rfl ?_
      refine s_getr (s0 := 0) dX11_need_91 fl_X11_41 ?_
      refine s_aload_n 0 dX11_need_94 rfl rfl ?_
      refine s_callVi (s0 := 0) (As := [rv g 6 b3]) (rest := []) (cX10_mostKept_ok g b3 h1) vl_X11_150 rfl (Nat.le_of_ble_eq_true rfl) (Nat.le_of_ble_eq_true rfl) dX11_need_95 rfl (fun x17 h16 => ?_)
      exact s_iret rfl dX11_need_98
    refine s_tab 4 (tgt := 99) dX11_need_17 (by decide) (by decide) rfl (by decide) ?_ (fun e18 => ?_)
    ·
      refine s_aload_n 1 dX11_need_99 rfl rfl ?_
      refine s_getr (s0 := 0) dX11_need_100 fl_X11_41 ?_
      refine s_aload_n 0 dX11_need_103 rfl rfl ?_
      refine s_callVi (s0 := 0) (As := [rv g 6 b3]) (rest := []) (cX10_sparePlates_ok g b3 h1) vl_X11_158 rfl (Nat.le_of_ble_eq_true rfl) (Nat.le_of_ble_eq_true rfl) dX11_need_104 rfl (fun x20 h19 => ?_)
      exact s_iret rfl dX11_need_107
    refine s_tab 5 (tgt := 108) dX11_need_17 (by decide) (by decide) rfl (by decide) ?_ (fun e21 => ?_)
    ·
      refine s_aload_n 1 dX11_need_108 rfl rfl ?_
      refine s_getr (s0 := 0) dX11_need_109 fl_X11_49 ?_
      refine s_aload_n 0 dX11_need_112 rfl rfl ?_
      refine s_callVv (s0 := 0) (As := [rv g 6 b3]) (rest := []) (cX2_exploreAll_ok g b3 h1) vl_X11_131 rfl (Nat.le_of_ble_eq_true rfl) (Nat.le_of_ble_eq_true rfl) dX11_need_113 rfl (fun h22 => ?_)
      refine s_aload_n 1 dX11_need_116 rfl rfl ?_
      refine s_getr (s0 := 0) dX11_need_117 fl_X11_49 ?_
      refine s_callVi (s0 := 0) (As := []) (rest := []) (cX2_reached_ok g h22) vl_X11_161 rfl (Nat.le_of_ble_eq_true rfl) (Nat.le_of_ble_eq_true rfl) dX11_need_120 rfl (fun x24 h23 => ?_)
      exact s_iret rfl dX11_need_123
    refine s_tab 6 (tgt := 124) dX11_need_17 (by decide) (by decide) rfl (by decide) ?_ (fun e25 => ?_)
    ·
      refine s_aload_n 1 dX11_need_124 rfl rfl ?_
      refine s_getr (s0 := 0) dX11_need_125 fl_X11_49 ?_
      refine s_aload_n 0 dX11_need_128 rfl rfl ?_
      refine s_callVv (s0 := 0) (As := [rv g 6 b3]) (rest := []) (cX2_exploreAll_ok g b3 h1) vl_X11_131 rfl (Nat.le_of_ble_eq_true rfl) (Nat.le_of_ble_eq_true rfl) dX11_need_129 rfl (fun h26 => ?_)
      refine s_aload_n 1 dX11_need_132 rfl rfl ?_
      refine s_getr (s0 := 0) dX11_need_133 fl_X11_49 ?_
      refine s_callVi (s0 := 0) (As := []) (rest := []) (cX2_safe_ok g h26) vl_X11_165 rfl (Nat.le_of_ble_eq_true rfl) (Nat.le_of_ble_eq_true rfl) dX11_need_136 rfl (fun x28 h27 => ?_)
      exact s_iret rfl dX11_need_139
    have e4 := lv_neT e4 (show (0 : Int32).toInt = 0 from rfl)
    have e7 := lv_neT e7 (show (1 : Int32).toInt = 1 from rfl)
    have e10 := lv_neT e10 (show (2 : Int32).toInt = 2 from rfl)
    have e15 := lv_neT e15 (show (3 : Int32).toInt = 3 from rfl)
    have e18 := lv_neT e18 (show (4 : Int32).toInt = 4 from rfl)
    have e21 := lv_neT e21 (show (5 : Int32).toInt = 5 from rfl)
    have e25 := lv_neT e25 (show (6 : Int32).toInt = 6 from rfl)
    refine s_tabd (tgt := 140) dX11_need_17 (by omega) (by decide) ?_
    refine s_aload_n 1 dX11_need_140 rfl rfl ?_
    refine s_aload_n 0 dX11_need_141 rfl rfl ?_
    refine s_iload_n 3 dX11_need_142 rfl rfl ?_
    refine s_callVi (s0 := 0) (As := [rv g 6 b3, .int l2]) (rest := []) (cX11_needOfPlate_ok g b3 l2 h1) vl_X11_168 rfl (Nat.le_of_ble_eq_true rfl) (Nat.le_of_ble_eq_true rfl) dX11_need_143 rfl (fun x30 h29 => ?_)
    exact s_iret rfl dX11_need_146
def fX11_numberFor (l1 : Int32) (l2 : Int32) (h : Hp) : Option (Int32 × Hp) :=
  bnd (fX9_has 0 l1 h) fun x2 h1 =>
  if x2 = 0 then (some ((-2), h1))
  else (ck (ib l1 3) (
  lt (ra h1 37 0 l1) fun x3 =>
  if l2 = (-1) then (if (2 : Int32) ≤ x3 then (some ((-2), h1))
  else (some (x3, h1)))
  else (jn (κ := Hp → Option (Int32 × Hp)) (fun h5 => some ((-2), h5)) fun k54_3 =>
  if l2 < 0 then (k54_3 h1)
  else (if x3 ≤ l2 then (k54_3 h1)
  else (some (l2, h1))))))
set_option maxHeartbeats 4000000 in
set_option maxRecDepth 100000 in
theorem cX11_numberFor_ok (g : GE) (l1 : Int32) (l2 : Int32) (h : Hp) : Con cvi 0 g mX11_numberFor 3 [rv g 9 0, .int l1, .int l2] h (fX11_numberFor l1 l2 h) := by
  refine Con.of (by decide +kernel) (Nat.le_of_ble_eq_true rfl) ?_
  show Sim cvi 0 g mX11_numberFor 3 0 [(0, rv g 9 0), (1, .int l1), (2, .int l2)] [] h _
  unfold fX11_numberFor
  refine s_aload_n 0 dX11_numberFor_0 rfl rfl ?_
  refine s_getr (s0 := 0) dX11_numberFor_1 fl_X11_10 ?_
  refine s_iload_n 1 dX11_numberFor_4 rfl rfl ?_
  refine s_callVi (s0 := 0) (As := [.int l1]) (rest := []) (cX9_has_ok g 0 l1 h) vl_X11_318 rfl (Nat.le_of_ble_eq_true rfl) (Nat.le_of_ble_eq_true rfl) dX11_numberFor_5 rfl (fun x2 h1 => ?_)
  refine s_if_ne (tgt := 14) dX11_numberFor_8 (by decide) ?_ ?_
  ·
    refine s_bipush (v := (-2)) dX11_numberFor_11 rfl ?_
    exact s_iret rfl dX11_numberFor_13
  ·
    refine s_aload_n 0 dX11_numberFor_14 rfl rfl ?_
    refine s_getr (s0 := 0) dX11_numberFor_15 fl_X11_10 ?_
    refine s_getr1 (k2 := 37) (s0 := 0) rfl dX11_numberFor_18 fl_X11_319 ?_
    refine s_iload_n 1 dX11_numberFor_21 rfl rfl ?_
    refine s_iald (s0 := 0) ka_37 dX11_numberFor_22 ?_
    refine s_leti (fun x3 => ?_)
    refine s_istore_n (ls' := [(3, .int x3), (0, rv g 9 0), (1, .int l1), (2, .int l2)]) dX11_numberFor_23 rfl (by decide) rfl ?_
    refine s_iload_n 3 dX11_numberFor_24 rfl rfl ?_
    refine s_iconst (v := (-1)) dX11_numberFor_25 rfl ?_
    refine s_icmp_ne (tgt := 41) dX11_numberFor_26 (by decide) ?_ ?_
    ·
      refine s_iload_n 0 dX11_numberFor_29 rfl rfl ?_
      refine s_iconst (v := 2) dX11_numberFor_30 rfl ?_
      refine s_icmp_ge (tgt := 38) dX11_numberFor_31 (by decide) ?_ ?_
      ·
        refine s_bipush (v := (-2)) dX11_numberFor_38 rfl ?_
        exact s_iret rfl dX11_numberFor_40
      ·
        refine s_iload_n 0 dX11_numberFor_34 rfl rfl ?_
        refine s_goto (tgt := 40) dX11_numberFor_35 (by decide) ?_
        exact s_iret rfl dX11_numberFor_40
    ·
      refine s_iload_n 3 dX11_numberFor_41 rfl rfl ?_
      refine s_jn (fun (k54_3 : Hp → Option (Int32 × Hp)) => ∀ (h5 : Hp), Sim cvi 0 g mX11_numberFor 3 54 [] [] h5 (k54_3 h5)) (fun h5 => ?_) (fun k54_3 Hk54_3 => ?_)
      ·
        refine s_bipush (v := (-2)) dX11_numberFor_54 rfl ?_
        exact s_iret rfl dX11_numberFor_56
      refine s_if_lt (tgt := 54) dX11_numberFor_42 (by decide) ?_ ?_
      ·
        refine s_sub [] rfl ?_
        exact Hk54_3 h1
      ·
        refine s_iload_n 3 dX11_numberFor_45 rfl rfl ?_
        refine s_iload_n 0 dX11_numberFor_46 rfl rfl ?_
        refine s_icmp_ge (tgt := 54) dX11_numberFor_47 (by decide) ?_ ?_
        ·
          refine s_sub [] rfl ?_
          exact Hk54_3 h1
        ·
          refine s_iload_n 3 dX11_numberFor_50 rfl rfl ?_
          refine s_goto (tgt := 56) dX11_numberFor_51 (by decide) ?_
          exact s_iret rfl dX11_numberFor_56
def fX11_waysToStand_l8 (l0 : Int32) (l1 : Int32) (l2 : Int32) (K : Int32 → Hp → Option (Int32 × Hp)) (rec : Int32 → Int32 → Int32 → Hp → Option (Int32 × Hp)) (l3 l4 l5 : Int32) (h : Hp) : Option (Int32 × Hp) :=
  if l2 < l5 then (K l3 h)
  else (jn (κ := Int32 → Hp → Option (Int32 × Hp)) (fun y3_0 h2 => ck (!decide ((l5 + (1 : Int32)) = 0)) (
  lt ((l4 * (l2 - l5)) / (l5 + (1 : Int32))) fun x3 =>
  lt (l5 + 1) fun x4 =>
  rec y3_0 x3 x4 h2)) fun k46_0 =>
  if l0 ≤ (l2 + l5) then (k46_0 l3 h)
  else (bnd (fX11_power l1 l5 h) fun x6 h5 =>
  bnd (fX11_power ((10 : Int32) - l1) (l2 - l5) h5) fun x8 h7 =>
  lt (l3 + ((l4 * x6) * x8)) fun x9 =>
  k46_0 x9 h7))
def fX11_waysToStand (l0 : Int32) (l1 : Int32) (l2 : Int32) (h : Hp) : Option (Int32 × Hp) :=
  itr3 (fX11_waysToStand_l8 l0 l1 l2 (fun y10 h11 => some (y10, h11))) FU 0 1 0 h
set_option maxHeartbeats 4000000 in
set_option maxRecDepth 100000 in
theorem sX11_waysToStand_l8 (g : GE) (l0 : Int32) (l1 : Int32) (l2 : Int32) (K : Int32 → Hp → Option (Int32 × Hp)) (hK : ∀ (y3 : Int32) (h : Hp), Sim cvi 0 g mX11_waysToStand 3 66 [(3, .int y3)] [] h (K y3 h)) : ∀ (n : Nat) (l3 l4 l5 : Int32) (h : Hp), Sim cvi 0 g mX11_waysToStand 3 8 [(0, .int l0), (1, .int l1), (2, .int l2), (3, .int l3), (4, .int l4), (5, .int l5)] [] h (itr3 (fX11_waysToStand_l8 l0 l1 l2 K) n l3 l4 l5 h) := by
  refine s_itr3 (fun l3 l4 l5 h o => Sim cvi 0 g mX11_waysToStand 3 8 [(0, .int l0), (1, .int l1), (2, .int l2), (3, .int l3), (4, .int l4), (5, .int l5)] [] h o) (fun _ _ _ _ => s_none) ?_
  intro rec hrec l3 l4 l5 h
  unfold fX11_waysToStand_l8
  refine s_iload 5 dX11_waysToStand_8 rfl ?_
  refine s_iload_n 2 dX11_waysToStand_10 rfl rfl ?_
  refine s_icmp_gt (tgt := 66) dX11_waysToStand_11 (by decide) ?_ ?_
  ·
    refine s_sub [3] rfl ?_
    exact hK l3 h
  ·
    refine s_iload_n 2 dX11_waysToStand_14 rfl rfl ?_
    refine s_iload 5 dX11_waysToStand_15 rfl ?_
    refine s_iadd dX11_waysToStand_17 ?_
    refine s_iload_n 0 dX11_waysToStand_18 rfl rfl ?_
    refine s_jn (fun (k46_0 : Int32 → Hp → Option (Int32 × Hp)) => ∀ (y3_0 : Int32) (h2 : Hp), Sim cvi 0 g mX11_waysToStand 3 46 [(0, .int l0), (1, .int l1), (2, .int l2), (3, .int y3_0), (4, .int l4), (5, .int l5)] [] h2 (k46_0 y3_0 h2)) (fun y3_0 h2 => ?_) (fun k46_0 Hk46_0 => ?_)
    ·
      refine s_iload 4 dX11_waysToStand_46 rfl ?_
      refine s_iload_n 2 dX11_waysToStand_48 rfl rfl ?_
      refine s_iload 5 dX11_waysToStand_49 rfl ?_
      refine s_isub dX11_waysToStand_51 ?_
      refine s_imul dX11_waysToStand_52 ?_
      refine s_iload 5 dX11_waysToStand_53 rfl ?_
      refine s_iconst (v := 1) dX11_waysToStand_55 rfl ?_
      refine s_iadd dX11_waysToStand_56 ?_
      refine s_idiv dX11_waysToStand_57 ?_
      refine s_leti (fun x3 => ?_)
      refine s_istore (ls' := [(4, .int x3), (0, .int l0), (1, .int l1), (2, .int l2), (3, .int y3_0), (5, .int l5)]) dX11_waysToStand_58 (by decide) rfl ?_
      refine s_iincl 5 (w := 1) (fun x4 => [(5, .int x4), (4, .int x3), (0, .int l0), (1, .int l1), (2, .int l2), (3, .int y3_0)]) dX11_waysToStand_60 rfl rfl (by decide) (fun _ => rfl) (fun x4 => ?_)
      refine s_goto (tgt := 8) dX11_waysToStand_63 (by decide) ?_
      refine s_sub [2, 3, 4, 5, 1, 0] rfl ?_
      exact hrec y3_0 x3 x4 h2
    refine s_icmp_ge (tgt := 46) dX11_waysToStand_19 (by decide) ?_ ?_
    ·
      exact Hk46_0 l3 h
    ·
      refine s_iload_n 3 dX11_waysToStand_22 rfl rfl ?_
      refine s_iload 4 dX11_waysToStand_23 rfl ?_
      refine s_iload_n 1 dX11_waysToStand_25 rfl rfl ?_
      refine s_iload 5 dX11_waysToStand_26 rfl ?_
      refine s_callSi (As := [.int l1, .int l5]) (rest := [.int l4, .int l3]) (cX11_power_ok g l1 l5 h) sl_X11_203 rfl (Nat.le_of_ble_eq_true rfl) (Nat.le_of_ble_eq_true rfl) dX11_waysToStand_28 rfl (fun x6 h5 => ?_)
      refine s_imul dX11_waysToStand_31 ?_
      refine s_bipush (v := 10) dX11_waysToStand_32 rfl ?_
      refine s_iload_n 1 dX11_waysToStand_34 rfl rfl ?_
      refine s_isub dX11_waysToStand_35 ?_
      refine s_iload_n 2 dX11_waysToStand_36 rfl rfl ?_
      refine s_iload 5 dX11_waysToStand_37 rfl ?_
      refine s_isub dX11_waysToStand_39 ?_
      refine s_callSi (As := [.int ((10 : Int32) - l1), .int (l2 - l5)]) (rest := [.int (l4 * x6), .int l3]) (cX11_power_ok g ((10 : Int32) - l1) (l2 - l5) h5) sl_X11_203 rfl (Nat.le_of_ble_eq_true rfl) (Nat.le_of_ble_eq_true rfl) dX11_waysToStand_40 rfl (fun x8 h7 => ?_)
      refine s_imul dX11_waysToStand_43 ?_
      refine s_iadd dX11_waysToStand_44 ?_
      refine s_leti (fun x9 => ?_)
      refine s_istore_n (ls' := [(3, .int x9), (0, .int l0), (1, .int l1), (2, .int l2), (4, .int l4), (5, .int l5)]) dX11_waysToStand_45 rfl (by decide) rfl ?_
      refine s_sub [1, 2, 3, 0, 4, 5] rfl ?_
      exact Hk46_0 x9 h7
set_option maxHeartbeats 4000000 in
set_option maxRecDepth 100000 in
theorem cX11_waysToStand_ok (g : GE) (l0 : Int32) (l1 : Int32) (l2 : Int32) (h : Hp) : Con cvi 0 g mX11_waysToStand 3 [.int l0, .int l1, .int l2] h (fX11_waysToStand l0 l1 l2 h) := by
  refine Con.of (by decide +kernel) (Nat.le_of_ble_eq_true rfl) ?_
  show Sim cvi 0 g mX11_waysToStand 3 0 [(0, .int l0), (1, .int l1), (2, .int l2)] [] h _
  unfold fX11_waysToStand
  refine s_iconst (v := 0) dX11_waysToStand_0 rfl ?_
  refine s_istore_n (ls' := [(3, .int 0), (0, .int l0), (1, .int l1), (2, .int l2)]) dX11_waysToStand_1 rfl (by decide) rfl ?_
  refine s_iconst (v := 1) dX11_waysToStand_2 rfl ?_
  refine s_istore (ls' := [(4, .int 1), (3, .int 0), (0, .int l0), (1, .int l1), (2, .int l2)]) dX11_waysToStand_3 (by decide) rfl ?_
  refine s_iconst (v := 0) dX11_waysToStand_5 rfl ?_
  refine s_istore (ls' := [(5, .int 0), (4, .int 1), (3, .int 0), (0, .int l0), (1, .int l1), (2, .int l2)]) dX11_waysToStand_6 (by decide) rfl ?_
  refine s_sub (ls' := [(0, .int l0), (1, .int l1), (2, .int l2), (3, .int 0), (4, .int 1), (5, .int 0)]) [3, 4, 5, 2, 1, 0] rfl ?_
  refine sX11_waysToStand_l8 g l0 l1 l2 _ (fun y10 h11 => ?_) FU 0 1 0 h
  refine s_iload_n 0 dX11_waysToStand_66 rfl rfl ?_
  exact s_iret rfl dX11_waysToStand_67
def fX11_odds (l1 : Int32) (l2 : Int32) (l3 : Int32) (l4 : Int32) (l5 : Int32) (h : Hp) : Option (Int32 × Hp) :=
  bnd (fX9_stageAt 0 l1 h) fun x2 h1 =>
  nl x2 (some ((-1), h1))
  fun b3 => (bnd (fX8_has b3 l2 h1) fun x5 h4 =>
  if x5 = 0 then (some ((-1), h4))
  else (if l3 < 0 then (some ((-1), h4))
  else (if (10 : Int32) < l3 then (some ((-1), h4))
  else (if l4 < 0 then (some ((-1), h4))
  else (if l4 ≤ 6 then (ck (ib l2 5) (
  bnd (fX11_waysToStand (ra h4 35 b3 l2) l3 l4 h4) fun x7 h6 =>
  bnd (fX11_power 10 l4 h6) fun x9 h8 =>
  bnd (fX11_commonDivisor x7 x9 h8) fun x11 h10 =>
  jn (κ := Int32 → Hp → Option (Int32 × Hp)) (fun z0_11 h13 => lt (if 1 < x11 then x11 else 1) fun x14 =>
  ck (!decide (x14 = 0)) (
  some (z0_11 / x14, h13))) fun k95_11 =>
  if l5 = 0 then (k95_11 x7 h10)
  else (k95_11 x9 h10)))
  else (some ((-1), h4)))))))
set_option maxHeartbeats 4000000 in
set_option maxRecDepth 100000 in
theorem cX11_odds_ok (g : GE) (l1 : Int32) (l2 : Int32) (l3 : Int32) (l4 : Int32) (l5 : Int32) (h : Hp) : Con cvi 0 g mX11_odds 4 [rv g 9 0, .int l1, .int l2, .int l3, .int l4, .int l5] h (fX11_odds l1 l2 l3 l4 l5 h) := by
  refine Con.of (by decide +kernel) (Nat.le_of_ble_eq_true rfl) ?_
  show Sim cvi 0 g mX11_odds 4 0 [(0, rv g 9 0), (1, .int l1), (2, .int l2), (3, .int l3), (4, .int l4), (5, .int l5)] [] h _
  unfold fX11_odds
  refine s_aload_n 0 dX11_odds_0 rfl rfl ?_
  refine s_getr (s0 := 0) dX11_odds_1 fl_X11_10 ?_
  refine s_iload_n 1 dX11_odds_4 rfl rfl ?_
  refine s_callVq (s0 := 0) (As := [.int l1]) (rest := []) (cX9_stageAt_ok g 0 l1 h) vl_X11_85 rfl (Nat.le_of_ble_eq_true rfl) (Nat.le_of_ble_eq_true rfl) dX11_odds_5 rfl (fun x2 h1 => ?_)
  refine s_astoreq (ls' := [(6, rq g 6 x2), (0, rv g 9 0), (1, .int l1), (2, .int l2), (3, .int l3), (4, .int l4), (5, .int l5)]) dX11_odds_8 (by decide) (List.forall_mem_cons.mpr ⟨rfl, (List.forall_mem_cons.mpr ⟨rfl, (List.forall_mem_cons.mpr ⟨rfl, (List.forall_mem_cons.mpr ⟨rfl, (List.forall_mem_cons.mpr ⟨rfl, (List.forall_mem_cons.mpr ⟨rfl, (fun _ h => absurd h List.not_mem_nil)⟩)⟩)⟩)⟩)⟩)⟩) rfl ?_
  refine s_aloadq 0 dX11_odds_10 rfl ?_
  refine s_ifnull x2 (tgt := 24) (fun qq => [(6, rq g 6 qq), (0, rv g 9 0), (1, .int l1), (2, .int l2), (3, .int l3), (4, .int l4), (5, .int l5)]) dX11_odds_12 (by decide) ?_ (fun b3 => ?_)
  ·
    refine s_iconst (v := (-1)) dX11_odds_24 rfl ?_
    exact s_iret rfl dX11_odds_25
  ·
    refine s_aload 0 dX11_odds_15 rfl ?_
    refine s_iload_n 3 dX11_odds_17 rfl rfl ?_
    refine s_callVi (s0 := b3) (As := [.int l2]) (rest := []) (cX8_has_ok g b3 l2 h1) vl_X11_172 rfl (Nat.le_of_ble_eq_true rfl) (Nat.le_of_ble_eq_true rfl) dX11_odds_18 rfl (fun x5 h4 => ?_)
    refine s_if_ne (tgt := 26) dX11_odds_21 (by decide) ?_ ?_
    ·
      refine s_iconst (v := (-1)) dX11_odds_24 rfl ?_
      exact s_iret rfl dX11_odds_25
    ·
      refine s_iload_n 4 dX11_odds_26 rfl rfl ?_
      refine s_if_lt (tgt := 48) dX11_odds_27 (by decide) ?_ ?_
      ·
        refine s_iconst (v := (-1)) dX11_odds_48 rfl ?_
        exact s_iret rfl dX11_odds_49
      ·
        refine s_iload_n 4 dX11_odds_30 rfl rfl ?_
        refine s_bipush (v := 10) dX11_odds_31 rfl ?_
        refine s_icmp_gt (tgt := 48) dX11_odds_33 (by decide) ?_ ?_
        ·
          refine s_iconst (v := (-1)) dX11_odds_48 rfl ?_
          exact s_iret rfl dX11_odds_49
        ·
          refine s_iload 5 dX11_odds_36 rfl ?_
          refine s_if_lt (tgt := 48) dX11_odds_38 (by decide) ?_ ?_
          ·
            refine s_iconst (v := (-1)) dX11_odds_48 rfl ?_
            exact s_iret rfl dX11_odds_49
          ·
            refine s_iload 5 dX11_odds_41 rfl ?_
            refine s_bipush (v := 6) dX11_odds_43 rfl ?_
            refine s_icmp_le (tgt := 50) dX11_odds_45 (by decide) ?_ ?_
            ·
              refine s_aload 0 dX11_odds_50 rfl ?_
              refine s_getr1 (k2 := 35) (s0 := b3) rfl dX11_odds_52 fl_X11_196 ?_
              refine s_iload_n 3 dX11_odds_55 rfl rfl ?_
              refine s_iald (s0 := b3) ka_35 dX11_odds_56 ?_
              refine s_iload_n 4 dX11_odds_57 rfl rfl ?_
              refine s_iload 5 dX11_odds_58 rfl ?_
              refine s_callSi (As := [.int (ra h4 35 b3 l2), .int l3, .int l4]) (rest := []) (cX11_waysToStand_ok g (ra h4 35 b3 l2) l3 l4 h4) sl_X11_199 rfl (Nat.le_of_ble_eq_true rfl) (Nat.le_of_ble_eq_true rfl) dX11_odds_60 rfl (fun x7 h6 => ?_)
              refine s_istore (ls' := [(7, .int x7), (6, rv g 6 b3), (0, rv g 9 0), (1, .int l1), (2, .int l2), (3, .int l3), (4, .int l4), (5, .int l5)]) dX11_odds_63 (by decide) rfl ?_
              refine s_bipush (v := 10) dX11_odds_65 rfl ?_
              refine s_iload 6 dX11_odds_67 rfl ?_
              refine s_callSi (As := [.int 10, .int l4]) (rest := []) (cX11_power_ok g 10 l4 h6) sl_X11_203 rfl (Nat.le_of_ble_eq_true rfl) (Nat.le_of_ble_eq_true rfl) dX11_odds_69 rfl (fun x9 h8 => ?_)
              refine s_istore (ls' := [(8, .int x9), (7, .int x7), (6, rv g 6 b3), (0, rv g 9 0), (1, .int l1), (2, .int l2), (3, .int l3), (4, .int l4), (5, .int l5)]) dX11_odds_72 (by decide) rfl ?_
              refine s_iload 1 dX11_odds_74 rfl ?_
              refine s_iload 0 dX11_odds_76 rfl ?_
              refine s_callSi (As := [.int x7, .int x9]) (rest := []) (cX11_commonDivisor_ok g x7 x9 h8) sl_X11_206 rfl (Nat.le_of_ble_eq_true rfl) (Nat.le_of_ble_eq_true rfl) dX11_odds_78 rfl (fun x11 h10 => ?_)
              refine s_istore (ls' := [(9, .int x11), (8, .int x9), (7, .int x7), (6, rv g 6 b3), (0, rv g 9 0), (1, .int l1), (2, .int l2), (3, .int l3), (4, .int l4), (5, .int l5)]) dX11_odds_81 (by decide) rfl ?_
              refine s_iload 9 dX11_odds_83 rfl ?_
              refine s_jn (fun (k95_11 : Int32 → Hp → Option (Int32 × Hp)) => ∀ (z0_11 : Int32) (h13 : Hp), Sim cvi 0 g mX11_odds 4 95 [(9, .int x11)] [.int z0_11] h13 (k95_11 z0_11 h13)) (fun z0_11 h13 => ?_) (fun k95_11 Hk95_11 => ?_)
              ·
                refine s_iconst (v := 1) dX11_odds_95 rfl ?_
                refine s_iload 0 dX11_odds_96 rfl ?_
                refine s_mmax w_5_6 mw_max (Nat.le_of_ble_eq_true rfl) (Nat.le_of_ble_eq_true rfl) dX11_odds_98 ?_
                refine s_leti (fun x14 => ?_)
                refine s_idiv dX11_odds_101 ?_
                exact s_iret rfl dX11_odds_102
              refine s_if_eq (tgt := 93) dX11_odds_85 (by decide) ?_ ?_
              ·
                refine s_iload 2 dX11_odds_93 rfl ?_
                refine s_sub [0] rfl ?_
                exact Hk95_11 x7 h10
              ·
                refine s_iload 1 dX11_odds_88 rfl ?_
                refine s_goto (tgt := 95) dX11_odds_90 (by decide) ?_
                refine s_sub [0] rfl ?_
                exact Hk95_11 x9 h10
            ·
              refine s_iconst (v := (-1)) dX11_odds_48 rfl ?_
              exact s_iret rfl dX11_odds_49
def fX1_bestSaving_l28 (self : Nat → Int32 → Int32 → Int32 → Hp → Option (Int32 × Hp)) (a0 : Nat) (l1 : Int32) (l2 : Int32) (l3 : Int32) (l4 : Int32) (K : Int32 → Hp → Option (Int32 × Hp)) (rec : Int32 → Int32 → Hp → Option (Int32 × Hp)) (l5 l6 : Int32) (h : Hp) : Option (Int32 × Hp) :=
  if (rd h 6 a0 2) ≤ l6 then (K l5 h)
  else (bnd (fX1_valueOf l5 h) fun x8 h7 =>
  if l4 ≤ x8 then (K l5 h7)
  else (ck (ib l6 5) (
  bnd (fX8_way a0 l1 (ra h7 33 a0 l6) h7) fun x10 h9 =>
  lt (x10 + (1 : Int32)) fun x11 =>
  bnd (fX0_leftOf l2 l6 h9) fun x13 h12 =>
  jn (κ := Int32 → Hp → Option (Int32 × Hp)) (fun y5_13 h15 => lt (l6 + 1) fun x16 =>
  rec y5_13 x16 h15) fun k124_13 =>
  if x13 ≤ 0 then (k124_13 l5 h12)
  else (if l3 < x11 then (k124_13 l5 h12)
  else (bnd (fX0_behindRun a0 l1 l2 l6 h12) fun x18 h17 =>
  ck (ib l6 5) (
  bnd (self a0 (ra h17 33 a0 l6) x18 (l3 - x11) h17) fun x20 h19 =>
  bnd (fX1_valueOf x20 h19) fun x22 h21 =>
  bnd (fX1_rated x22 l6 h21) fun x24 h23 =>
  lt (if l5 < x24 then x24 else l5) fun x25 =>
  k124_13 x25 h23))))))
def fX1_bestSaving (self : Nat → Int32 → Int32 → Int32 → Hp → Option (Int32 × Hp)) (a0 : Nat) (l1 : Int32) (l2 : Int32) (l3 : Int32) (h : Hp) : Option (Int32 × Hp) :=
  bnd (fX0_standing l2 h) fun x2 h1 =>
  jn (κ := Hp → Option (Int32 × Hp)) (fun h4 => bnd (fX1_rated x2 5 h4) fun x6 h5 =>
  some (x6, h5)) fun k15_2 =>
  if l3 ≤ 0 then (k15_2 h1)
  else (if x2 = 0 then (k15_2 h1)
  else (itr2 (fX1_bestSaving_l28 self a0 l1 l2 l3 x2 (fun y26 h27 => bnd (fX1_valueOf y26 h27) fun x29 h28 =>
  if x2 ≤ x29 then (some (y26, h28))
  else (bnd (fX0_passed l2 1 h28) fun x31 h30 =>
  bnd (self a0 l1 x31 (l3 - (1 : Int32)) h30) fun x33 h32 =>
  bnd (fX1_valueOf x33 h32) fun x35 h34 =>
  bnd (fX1_rated x35 5 h34) fun x37 h36 =>
  lt (if y26 < x37 then x37 else y26) fun x38 =>
  some (x38, h36)))) FU (-1) 0 h1))
set_option maxHeartbeats 4000000 in
set_option maxRecDepth 100000 in
theorem sX1_bestSaving_l28 (g : GE) (e : Nat) (he : 6 ≤ e) (self : Nat → Int32 → Int32 → Int32 → Hp → Option (Int32 × Hp)) (hself : ∀ (a0 : Nat) (l1 l2 l3 : Int32) (h : Hp), Con cvi 0 g mX1_bestSaving e [rv g 6 a0, .int l1, .int l2, .int l3] h (self a0 l1 l2 l3 h)) (a0 : Nat) (l1 : Int32) (l2 : Int32) (l3 : Int32) (l4 : Int32) (K : Int32 → Hp → Option (Int32 × Hp)) (hK : ∀ (y5 : Int32) (h : Hp), Sim cvi 0 g mX1_bestSaving (e + 1) 130 [(0, rv g 6 a0), (1, .int l1), (2, .int l2), (3, .int l3), (4, .int l4), (5, .int y5)] [] h (K y5 h)) : ∀ (n : Nat) (l5 l6 : Int32) (h : Hp), Sim cvi 0 g mX1_bestSaving (e + 1) 28 [(0, rv g 6 a0), (1, .int l1), (2, .int l2), (3, .int l3), (4, .int l4), (5, .int l5), (6, .int l6)] [] h (itr2 (fX1_bestSaving_l28 self a0 l1 l2 l3 l4 K) n l5 l6 h) := by
  refine s_itr2 (fun l5 l6 h o => Sim cvi 0 g mX1_bestSaving (e + 1) 28 [(0, rv g 6 a0), (1, .int l1), (2, .int l2), (3, .int l3), (4, .int l4), (5, .int l5), (6, .int l6)] [] h o) (fun _ _ _ => s_none) ?_
  intro rec hrec l5 l6 h
  unfold fX1_bestSaving_l28
  refine s_iload 6 dX1_bestSaving_28 rfl ?_
  refine s_aload_n 0 dX1_bestSaving_30 rfl rfl ?_
  refine s_geti (s0 := a0) dX1_bestSaving_31 fl_X1_43 ?_
  refine s_icmp_ge (tgt := 130) dX1_bestSaving_34 (by decide) ?_ ?_
  ·
    refine s_sub [0, 1, 2, 3, 4, 5] rfl ?_
    exact hK l5 h
  ·
    refine s_iload 5 dX1_bestSaving_37 rfl ?_
    refine s_callSi (As := [.int l5]) (rest := []) (cX1_valueOf_ok g l5 h) sl_X1_46 rfl (by omega) (Nat.le_of_ble_eq_true rfl) dX1_bestSaving_39 rfl (fun x8 h7 => ?_)
    refine s_iload 4 dX1_bestSaving_42 rfl ?_
    refine s_icmp_ge (tgt := 130) dX1_bestSaving_44 (by decide) ?_ ?_
    ·
      refine s_sub [0, 1, 2, 3, 4, 5] rfl ?_
      exact hK l5 h7
    ·
      refine s_aload_n 0 dX1_bestSaving_47 rfl rfl ?_
      refine s_iload_n 1 dX1_bestSaving_48 rfl rfl ?_
      refine s_aload_n 0 dX1_bestSaving_49 rfl rfl ?_
      refine s_getr1 (k2 := 33) (s0 := a0) rfl dX1_bestSaving_50 fl_X1_49 ?_
      refine s_iload 6 dX1_bestSaving_53 rfl ?_
      refine s_iald (s0 := a0) ka_33 dX1_bestSaving_55 ?_
      refine s_callVi (s0 := a0) (As := [.int l1, .int (ra h7 33 a0 l6)]) (rest := []) (cX8_way_ok g a0 l1 (ra h7 33 a0 l6) h7) vl_X1_53 rfl (by omega) (Nat.le_of_ble_eq_true rfl) dX1_bestSaving_56 rfl (fun x10 h9 => ?_)
      refine s_iconst (v := 1) dX1_bestSaving_59 rfl ?_
      refine s_iadd dX1_bestSaving_60 ?_
      refine s_leti (fun x11 => ?_)
      refine s_istore (ls' := [(7, .int x11), (0, rv g 6 a0), (1, .int l1), (2, .int l2), (3, .int l3), (4, .int l4), (5, .int l5), (6, .int l6)]) dX1_bestSaving_61 (by decide) rfl ?_
      refine s_iload_n 3 dX1_bestSaving_63 rfl rfl ?_
      refine s_iload 7 dX1_bestSaving_64 rfl ?_
      refine s_callSi (As := [.int l2, .int l6]) (rest := []) (cX0_leftOf_ok g l2 l6 h9) sl_X1_56 rfl (by omega) (Nat.le_of_ble_eq_true rfl) dX1_bestSaving_66 rfl (fun x13 h12 => ?_)
      refine s_jn (fun (k124_13 : Int32 → Hp → Option (Int32 × Hp)) => ∀ (y5_13 : Int32) (h15 : Hp), Sim cvi 0 g mX1_bestSaving (e + 1) 124 [(0, rv g 6 a0), (1, .int l1), (2, .int l2), (3, .int l3), (4, .int l4), (5, .int y5_13), (6, .int l6)] [] h15 (k124_13 y5_13 h15)) (fun y5_13 h15 => ?_) (fun k124_13 Hk124_13 => ?_)
      ·
        refine s_iincl 6 (w := 1) (fun x16 => [(6, .int x16), (0, rv g 6 a0), (1, .int l1), (2, .int l2), (3, .int l3), (4, .int l4), (5, .int y5_13)]) dX1_bestSaving_124 rfl rfl (by decide) (fun _ => rfl) (fun x16 => ?_)
        refine s_goto (tgt := 28) dX1_bestSaving_127 (by decide) ?_
        refine s_sub [1, 2, 3, 4, 5, 6, 0] rfl ?_
        exact hrec y5_13 x16 h15
      refine s_if_le (tgt := 124) dX1_bestSaving_69 (by decide) ?_ ?_
      ·
        refine s_sub [1, 2, 3, 4, 5, 6, 7] rfl ?_
        exact Hk124_13 l5 h12
      ·
        refine s_iload 0 dX1_bestSaving_72 rfl ?_
        refine s_iload_n 4 dX1_bestSaving_74 rfl rfl ?_
        refine s_icmp_gt (tgt := 124) dX1_bestSaving_75 (by decide) ?_ ?_
        ·
          refine s_sub [1, 2, 3, 4, 5, 6, 7] rfl ?_
          exact Hk124_13 l5 h12
        ·
          refine s_aload_n 1 dX1_bestSaving_78 rfl rfl ?_
          refine s_iload_n 2 dX1_bestSaving_79 rfl rfl ?_
          refine s_iload_n 3 dX1_bestSaving_80 rfl rfl ?_
          refine s_iload 7 dX1_bestSaving_81 rfl ?_
          refine s_callSi (As := [rv g 6 a0, .int l1, .int l2, .int l6]) (rest := []) (cX0_behindRun_ok g a0 l1 l2 l6 h12) sl_X1_59 rfl (by omega) (Nat.le_of_ble_eq_true rfl) dX1_bestSaving_83 rfl (fun x18 h17 => ?_)
          refine s_istore (ls' := [(8, .int x18), (7, .int x11), (0, rv g 6 a0), (1, .int l1), (2, .int l2), (3, .int l3), (4, .int l4), (5, .int l5), (6, .int l6)]) dX1_bestSaving_86 (by decide) rfl ?_
          refine s_aload_n 2 dX1_bestSaving_88 rfl rfl ?_
          refine s_aload_n 2 dX1_bestSaving_89 rfl rfl ?_
          refine s_getr1 (k2 := 33) (s0 := a0) rfl dX1_bestSaving_90 fl_X1_49 ?_
          refine s_iload 8 dX1_bestSaving_93 rfl ?_
          refine s_iald (s0 := a0) ka_33 dX1_bestSaving_95 ?_
          refine s_iload 0 dX1_bestSaving_96 rfl ?_
          refine s_iload_n 5 dX1_bestSaving_98 rfl rfl ?_
          refine s_iload 1 dX1_bestSaving_99 rfl ?_
          refine s_isub dX1_bestSaving_101 ?_
          refine s_callSi (As := [rv g 6 a0, .int (ra h17 33 a0 l6), .int x18, .int (l3 - x11)]) (rest := []) (hself a0 (ra h17 33 a0 l6) x18 (l3 - x11) h17) sl_X1_27 rfl (by omega) (Nat.le_of_ble_eq_true rfl) dX1_bestSaving_102 rfl (fun x20 h19 => ?_)
          refine s_callSi (As := [.int x20]) (rest := []) (cX1_valueOf_ok g x20 h19) sl_X1_46 rfl (by omega) (Nat.le_of_ble_eq_true rfl) dX1_bestSaving_105 rfl (fun x22 h21 => ?_)
          refine s_istore (ls' := [(9, .int x22), (8, .int x18), (7, .int x11), (0, rv g 6 a0), (1, .int l1), (2, .int l2), (3, .int l3), (4, .int l4), (5, .int l5), (6, .int l6)]) dX1_bestSaving_108 (by decide) rfl ?_
          refine s_iload 8 dX1_bestSaving_110 rfl ?_
          refine s_iload 0 dX1_bestSaving_112 rfl ?_
          refine s_iload 9 dX1_bestSaving_114 rfl ?_
          refine s_callSi (As := [.int x22, .int l6]) (rest := [.int l5]) (cX1_rated_ok g x22 l6 h21) sl_X1_40 rfl (by omega) (Nat.le_of_ble_eq_true rfl) dX1_bestSaving_116 rfl (fun x24 h23 => ?_)
          refine s_mmax w_4_213 mw_max (by omega) (Nat.le_of_ble_eq_true rfl) dX1_bestSaving_119 ?_
          refine s_leti (fun x25 => ?_)
          refine s_istore (ls' := [(5, .int x25), (9, .int x22), (8, .int x18), (7, .int x11), (0, rv g 6 a0), (1, .int l1), (2, .int l2), (3, .int l3), (4, .int l4), (6, .int l6)]) dX1_bestSaving_122 (by decide) rfl ?_
          refine s_sub [4, 5, 6, 7, 8, 0, 9] rfl ?_
          exact Hk124_13 x25 h23
set_option maxHeartbeats 4000000 in
set_option maxRecDepth 100000 in
theorem cX1_bestSaving_ok (g : GE) (e : Nat) (he : 6 ≤ e) (self : Nat → Int32 → Int32 → Int32 → Hp → Option (Int32 × Hp)) (hself : ∀ (a0 : Nat) (l1 l2 l3 : Int32) (h : Hp), Con cvi 0 g mX1_bestSaving e [rv g 6 a0, .int l1, .int l2, .int l3] h (self a0 l1 l2 l3 h)) (a0 : Nat) (l1 : Int32) (l2 : Int32) (l3 : Int32) (h : Hp) : Con cvi 0 g mX1_bestSaving (e + 1) [rv g 6 a0, .int l1, .int l2, .int l3] h (fX1_bestSaving self a0 l1 l2 l3 h) := by
  refine Con.of (by decide +kernel) (Nat.le_of_ble_eq_true rfl) ?_
  show Sim cvi 0 g mX1_bestSaving (e + 1) 0 [(0, rv g 6 a0), (1, .int l1), (2, .int l2), (3, .int l3)] [] h _
  unfold fX1_bestSaving
  refine s_iload_n 2 dX1_bestSaving_0 rfl rfl ?_
  refine s_callSi (As := [.int l2]) (rest := []) (cX0_standing_ok g l2 h) sl_X1_34 rfl (by omega) (Nat.le_of_ble_eq_true rfl) dX1_bestSaving_1 rfl (fun x2 h1 => ?_)
  refine s_istore (ls' := [(4, .int x2), (0, rv g 6 a0), (1, .int l1), (2, .int l2), (3, .int l3)]) dX1_bestSaving_4 (by decide) rfl ?_
  refine s_iload_n 4 dX1_bestSaving_6 rfl rfl ?_
  refine s_jn (fun (k15_2 : Hp → Option (Int32 × Hp)) => ∀ (h4 : Hp), Sim cvi 0 g mX1_bestSaving (e + 1) 15 [(4, .int x2)] [] h4 (k15_2 h4)) (fun h4 => ?_) (fun k15_2 Hk15_2 => ?_)
  ·
    refine s_iload 0 dX1_bestSaving_15 rfl ?_
    refine s_iconst (v := 5) dX1_bestSaving_17 rfl ?_
    refine s_callSi (As := [.int x2, .int 5]) (rest := []) (cX1_rated_ok g x2 5 h4) sl_X1_40 rfl (by omega) (Nat.le_of_ble_eq_true rfl) dX1_bestSaving_18 rfl (fun x6 h5 => ?_)
    exact s_iret rfl dX1_bestSaving_21
  refine s_if_le (tgt := 15) dX1_bestSaving_7 (by decide) ?_ ?_
  ·
    refine s_sub [0] rfl ?_
    exact Hk15_2 h1
  ·
    refine s_iload 0 dX1_bestSaving_10 rfl ?_
    refine s_if_ne (tgt := 22) dX1_bestSaving_12 (by decide) ?_ ?_
    ·
      refine s_sub [0] rfl ?_
      exact Hk15_2 h1
    ·
      refine s_iconst (v := (-1)) dX1_bestSaving_22 rfl ?_
      refine s_istore (ls' := [(5, .int (-1)), (4, .int x2), (0, rv g 6 a0), (1, .int l1), (2, .int l2), (3, .int l3)]) dX1_bestSaving_23 (by decide) rfl ?_
      refine s_iconst (v := 0) dX1_bestSaving_25 rfl ?_
      refine s_istore (ls' := [(6, .int 0), (5, .int (-1)), (4, .int x2), (0, rv g 6 a0), (1, .int l1), (2, .int l2), (3, .int l3)]) dX1_bestSaving_26 (by decide) rfl ?_
      refine s_sub (ls' := [(0, rv g 6 a0), (1, .int l1), (2, .int l2), (3, .int l3), (4, .int x2), (5, .int (-1)), (6, .int 0)]) [3, 4, 5, 6, 2, 1, 0] rfl ?_
      refine sX1_bestSaving_l28 g e he self hself a0 l1 l2 l3 x2 _ (fun y26 h27 => ?_) FU (-1) 0 h1
      refine s_iload 5 dX1_bestSaving_130 rfl ?_
      refine s_callSi (As := [.int y26]) (rest := []) (cX1_valueOf_ok g y26 h27) sl_X1_46 rfl (by omega) (Nat.le_of_ble_eq_true rfl) dX1_bestSaving_132 rfl (fun x29 h28 => ?_)
      refine s_iload 4 dX1_bestSaving_135 rfl ?_
      refine s_icmp_ge (tgt := 171) dX1_bestSaving_137 (by decide) ?_ ?_
      ·
        refine s_iload 5 dX1_bestSaving_171 rfl ?_
        exact s_iret rfl dX1_bestSaving_173
      ·
        refine s_aload_n 0 dX1_bestSaving_140 rfl rfl ?_
        refine s_iload_n 1 dX1_bestSaving_141 rfl rfl ?_
        refine s_iload_n 2 dX1_bestSaving_142 rfl rfl ?_
        refine s_iconst (v := 1) dX1_bestSaving_143 rfl ?_
        refine s_callSi (As := [.int l2, .int 1]) (rest := [.int l1, rv g 6 a0]) (cX0_passed_ok g l2 1 h28) sl_X1_65 rfl (by omega) (Nat.le_of_ble_eq_true rfl) dX1_bestSaving_144 rfl (fun x31 h30 => ?_)
        refine s_iload_n 3 dX1_bestSaving_147 rfl rfl ?_
        refine s_iconst (v := 1) dX1_bestSaving_148 rfl ?_
        refine s_isub dX1_bestSaving_149 ?_
        refine s_callSi (As := [rv g 6 a0, .int l1, .int x31, .int (l3 - (1 : Int32))]) (rest := []) (hself a0 l1 x31 (l3 - (1 : Int32)) h30) sl_X1_27 rfl (by omega) (Nat.le_of_ble_eq_true rfl) dX1_bestSaving_150 rfl (fun x33 h32 => ?_)
        refine s_callSi (As := [.int x33]) (rest := []) (cX1_valueOf_ok g x33 h32) sl_X1_46 rfl (by omega) (Nat.le_of_ble_eq_true rfl) dX1_bestSaving_153 rfl (fun x35 h34 => ?_)
        refine s_istore (ls' := [(6, .int x35), (0, rv g 6 a0), (1, .int l1), (2, .int l2), (3, .int l3), (4, .int x2), (5, .int y26)]) dX1_bestSaving_156 (by decide) rfl ?_
        refine s_iload 6 dX1_bestSaving_158 rfl ?_
        refine s_iload 0 dX1_bestSaving_160 rfl ?_
        refine s_iconst (v := 5) dX1_bestSaving_162 rfl ?_
        refine s_callSi (As := [.int x35, .int 5]) (rest := [.int y26]) (cX1_rated_ok g x35 5 h34) sl_X1_40 rfl (by omega) (Nat.le_of_ble_eq_true rfl) dX1_bestSaving_163 rfl (fun x37 h36 => ?_)
        refine s_mmax w_4_213 mw_max (by omega) (Nat.le_of_ble_eq_true rfl) dX1_bestSaving_166 ?_
        refine s_leti (fun x38 => ?_)
        refine s_istore (ls' := [(5, .int x38), (6, .int x35), (0, rv g 6 a0), (1, .int l1), (2, .int l2), (3, .int l3), (4, .int x2)]) dX1_bestSaving_169 (by decide) rfl ?_
        refine s_iload 0 dX1_bestSaving_171 rfl ?_
        exact s_iret rfl dX1_bestSaving_173
def fxX1_bestSaving : Nat → Nat → Int32 → Int32 → Int32 → Hp → Option (Int32 × Hp)
  | 0 => fun _ _ _ _ _ => none
  | n + 1 => fX1_bestSaving (fxX1_bestSaving n)
theorem cxX1_bestSaving (g : GE) : ∀ (n : Nat) (a0 : Nat) (l1 l2 l3 : Int32) (h : Hp), Con cvi 0 g mX1_bestSaving (6 + n) [rv g 6 a0, .int l1, .int l2, .int l3] h (fxX1_bestSaving n a0 l1 l2 l3 h) := by
  intro n
  induction n with
  | zero => intro a0 l1 l2 l3 h r h' ho; cases ho
  | succ n ih => exact fun a0 l1 l2 l3 h => cX1_bestSaving_ok g (6 + n) (by omega) (fxX1_bestSaving n) ih a0 l1 l2 l3 h
