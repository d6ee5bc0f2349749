theorem nw_0 : Cond.methodLinkNest RX9 47 yX8_init "PlateRunner" ∈ lw_tbl := tb_1 _ (List.mem_of_getElem? (i := 42) (by decide +kernel))
theorem nw_1 : Cond.methodLinkNest RX9 48 yX7_init "PlateRunner" ∈ lw_tbl := tb_1 _ (List.mem_of_getElem? (i := 101) (by decide +kernel))
theorem nw_2 : Cond.methodLinkNest RX9 49 yX3_init "PlateRunner" ∈ lw_tbl := tb_1 _ (List.mem_of_getElem? (i := 122) (by decide +kernel))
theorem nw_3 : Cond.methodLinkNest RX11 26 yX5_init "PlateRunner" ∈ lw_tbl := tb_1 _ (List.mem_of_getElem? (i := 188) (by decide +kernel))
theorem nw_4 : Cond.methodLinkNest RX5 11 yX8_init "PlateRunner" ∈ lw_tbl := tb_1 _ (List.mem_of_getElem? (i := 193) (by decide +kernel))
theorem nw_5 : Cond.methodLinkNest RX5 20 yX7_init "PlateRunner" ∈ lw_tbl := tb_1 _ (List.mem_of_getElem? (i := 195) (by decide +kernel))
theorem nw_6 : Cond.methodLinkNest RX5 27 yX3_init "PlateRunner" ∈ lw_tbl := tb_1 _ (List.mem_of_getElem? (i := 197) (by decide +kernel))
theorem nw_7 : Cond.methodLinkNest RX11 33 yX4_init "PlateRunner" ∈ lw_tbl := tb_2 _ (List.mem_of_getElem? (i := 0) (by decide +kernel))
theorem nw_8 : Cond.methodLinkNest RX4 11 yX8_init "PlateRunner" ∈ lw_tbl := tb_2 _ (List.mem_of_getElem? (i := 5) (by decide +kernel))
theorem nw_9 : Cond.methodLinkNest RX11 40 yX10_init "PlateRunner" ∈ lw_tbl := tb_2 _ (List.mem_of_getElem? (i := 53) (by decide +kernel))
theorem nw_10 : Cond.methodLinkNest RX10 11 yX2_init "PlateRunner" ∈ lw_tbl := tb_2 _ (List.mem_of_getElem? (i := 59) (by decide +kernel))
theorem nw_11 : Cond.methodLinkNest RX2 11 yX8_init "PlateRunner" ∈ lw_tbl := tb_2 _ (List.mem_of_getElem? (i := 64) (by decide +kernel))
theorem nw_12 : Cond.methodLinkNest RX10 20 yX8_init "PlateRunner" ∈ lw_tbl := tb_2 _ (List.mem_of_getElem? (i := 119) (by decide +kernel))
theorem nw_13 : Cond.methodLinkNest RX11 52 yX6_init "PlateRunner" ∈ lw_tbl := tb_2 _ (List.mem_of_getElem? (i := 130) (by decide +kernel))
theorem nw_14 : Cond.methodLinkNest RX6 63 yX11_power "PlateRunner" ∈ lw_tbl := tb_5 _ (List.mem_of_getElem? (i := 32) (by decide +kernel))
theorem nw_15 : Cond.methodLinkNest RX8 61 yX11_commonDivisor "PlateRunner" ∈ lw_tbl := tb_5 _ (List.mem_of_getElem? (i := 88) (by decide +kernel))
theorem ao_8 : Cond.arrayOver (.object RX8) ∈ lw_tbl := tb_1 _ (List.mem_of_getElem? (i := 36) (by decide +kernel))
theorem ao_7 : Cond.arrayOver (.object RX7) ∈ lw_tbl := tb_1 _ (List.mem_of_getElem? (i := 38) (by decide +kernel))
theorem ao_3 : Cond.arrayOver (.object RX3) ∈ lw_tbl := tb_1 _ (List.mem_of_getElem? (i := 40) (by decide +kernel))
theorem ao_9 : Cond.arrayOver (.object RX9) ∈ lw_tbl := tb_1 _ (List.mem_of_getElem? (i := 185) (by decide +kernel))
theorem ay_int : Cond.arrayClass .int ∈ lw_tbl := tb_1 _ (List.mem_of_getElem? (i := 99) (by decide +kernel))
theorem ay_byte : Cond.arrayClass .byte ∈ lw_tbl := tb_1 _ (List.mem_of_getElem? (i := 98) (by decide +kernel))
theorem ay_short : Cond.arrayClass .short ∈ lw_tbl := tb_2 _ (List.mem_of_getElem? (i := 117) (by decide +kernel))
theorem ay_boolean : Cond.arrayClass .boolean ∈ lw_tbl := tb_1 _ (List.mem_of_getElem? (i := 237) (by decide +kernel))
theorem it_0 : Cond.instantiable RX2 17 ∈ lw_tbl := tb_2 _ (List.mem_of_getElem? (i := 58) (by decide +kernel))
theorem it_1 : Cond.instantiable RX3 5 ∈ lw_tbl := tb_1 _ (List.mem_of_getElem? (i := 121) (by decide +kernel))
theorem it_2 : Cond.instantiable RX4 13 ∈ lw_tbl := tb_1 _ (List.mem_of_getElem? (i := 239) (by decide +kernel))
theorem it_3 : Cond.instantiable RX5 11 ∈ lw_tbl := tb_1 _ (List.mem_of_getElem? (i := 187) (by decide +kernel))
theorem it_4 : Cond.instantiable RX6 11 ∈ lw_tbl := tb_2 _ (List.mem_of_getElem? (i := 129) (by decide +kernel))
theorem it_5 : Cond.instantiable RX7 3 ∈ lw_tbl := tb_1 _ (List.mem_of_getElem? (i := 100) (by decide +kernel))
theorem it_6 : Cond.instantiable RX8 6 ∈ lw_tbl := tb_1 _ (List.mem_of_getElem? (i := 41) (by decide +kernel))
theorem it_7 : Cond.instantiable RX9 8 ∈ lw_tbl := tb_1 _ (List.mem_of_getElem? (i := 30) (by decide +kernel))
theorem it_8 : Cond.instantiable RX10 2 ∈ lw_tbl := tb_2 _ (List.mem_of_getElem? (i := 52) (by decide +kernel))
theorem it_9 : Cond.instantiable RX11 8 ∈ lw_tbl := tb_1 _ (List.mem_of_getElem? (i := 22) (by decide +kernel))
theorem it_10 : Cond.instantiable RX12 62 ∈ lw_tbl := tb_5 _ (List.mem_of_getElem? (i := 173) (by decide +kernel))
theorem ls_c : (.laysStatic "java/lang/String" "COMPACT_STRINGS" "Z" : Cond) ∈ lw_tbl := tb_3 _ (List.mem_of_getElem? (i := 49) (by decide +kernel))
theorem ls_f : (.laysStatic "jdk/internal/util/Preconditions" "SIOOBE_FORMATTER" "Ljava/util/function/BiFunction;" : Cond) ∈ lw_tbl := tb_3 _ (List.mem_of_getElem? (i := 65) (by decide +kernel))
theorem in_s : (.initialized "java/lang/String" : Cond) ∈ lw_tbl := tb_1 _ (List.mem_of_getElem? (i := 13) (by decide +kernel))
theorem in_p : (.initialized "jdk/internal/util/Preconditions" : Cond) ∈ lw_tbl := tb_1 _ (List.mem_of_getElem? (i := 15) (by decide +kernel))
theorem sr_0 : Cond.stringRef RX5 140 "speed" ∈ lw_tbl := tb_3 _ (List.mem_of_getElem? (i := 25) (by decide +kernel))
theorem sr_1 : Cond.stringRef RX5 142 "start" ∈ lw_tbl := tb_3 _ (List.mem_of_getElem? (i := 26) (by decide +kernel))
theorem sr_2 : Cond.stringRef RX5 144 "plate" ∈ lw_tbl := tb_3 _ (List.mem_of_getElem? (i := 27) (by decide +kernel))
theorem sr_3 : Cond.stringRef RX5 146 "wait" ∈ lw_tbl := tb_3 _ (List.mem_of_getElem? (i := 28) (by decide +kernel))
theorem sr_4 : Cond.stringRef RX5 148 "run" ∈ lw_tbl := tb_3 _ (List.mem_of_getElem? (i := 29) (by decide +kernel))
theorem sr_5 : Cond.stringRef RX5 150 "set" ∈ lw_tbl := tb_3 _ (List.mem_of_getElem? (i := 30) (by decide +kernel))
theorem sr_6 : Cond.stringRef RX5 152 "gust" ∈ lw_tbl := tb_3 _ (List.mem_of_getElem? (i := 31) (by decide +kernel))
theorem sr_7 : Cond.stringRef RX5 154 "oil" ∈ lw_tbl := tb_3 _ (List.mem_of_getElem? (i := 32) (by decide +kernel))
theorem sr_8 : Cond.stringRef RX5 156 "runs" ∈ lw_tbl := tb_3 _ (List.mem_of_getElem? (i := 33) (by decide +kernel))
theorem sr_9 : Cond.stringRef RX5 158 "stood" ∈ lw_tbl := tb_3 _ (List.mem_of_getElem? (i := 34) (by decide +kernel))
theorem sr_10 : Cond.stringRef RX5 160 "lay" ∈ lw_tbl := tb_3 _ (List.mem_of_getElem? (i := 35) (by decide +kernel))
theorem cl_7 : (.classLink R_law 7 RX11 : Cond) ∈ lw_tbl := tb_1 _ (List.mem_of_getElem? (i := 21) (by decide +kernel))
theorem cl_10 : (.classLink R_law 10 RX12 : Cond) ∈ lw_tbl := tb_5 _ (List.mem_of_getElem? (i := 172) (by decide +kernel))
theorem ml_9 : (.methodLink R_law 9 yX11_init : Cond) ∈ lw_tbl := tb_1 _ (List.mem_of_getElem? (i := 23) (by decide +kernel))
theorem ml_12 : (.methodLink R_law 12 yX12_init : Cond) ∈ lw_tbl := tb_5 _ (List.mem_of_getElem? (i := 174) (by decide +kernel))
theorem im_11 : (.instanceMethod yX11_init : Cond) ∈ lw_tbl := tb_1 _ (List.mem_of_getElem? (i := 24) (by decide +kernel))
theorem im_12 : (.instanceMethod yX12_init : Cond) ∈ lw_tbl := tb_5 _ (List.mem_of_getElem? (i := 175) (by decide +kernel))
theorem ii_11 : (.initialized RX11 : Cond) ∈ lw_tbl := tb_1 _ (List.mem_of_getElem? (i := 1) (by decide +kernel))
theorem ii_12 : (.initialized RX12 : Cond) ∈ lw_tbl := tb_1 _ (List.mem_of_getElem? (i := 11) (by decide +kernel))
def tmS (i : Nat) : Term := .string RX5 ((strIx.getD i (0, "")).1)
abbrev nar1 : Cond := Jvm.Cond.and given_1 narrow_1
theorem ns_ex : ∀ i, i < 11 → (Cond.exactly (tmS i) "java/lang/String") ∈ flatC nar1 := by decide +kernel
theorem ns_co : ∀ i, i < 11 → (Cond.eq (.field (tmS i) "java/lang/String" "coder" "B") (.int 0)) ∈ flatC nar1 := by decide +kernel
theorem ns_ar : ∀ i, i < 11 → (Cond.arrayOf (.field (tmS i) "java/lang/String" "value" "[B") .byte) ∈ flatC nar1 := by decide +kernel
theorem ns_le : ∀ i, i < 11 → (Cond.eq (.length (.field (tmS i) "java/lang/String" "value" "[B")) (.int (Int32.ofNat (strLen.getD i 0)))) ∈ flatC nar1 := by decide +kernel
theorem ns_el : ∀ i, i < 11 → ∀ j, j < strLen.getD i 0 → (Cond.eq (.elem (.field (tmS i) "java/lang/String" "value" "[B") (.int (Int32.ofNat j))) (.int ((strByt.getD i []).getD j 0))) ∈ flatC nar1 := by decide +kernel
theorem ns_ne : ∀ i, i < 11 → ∀ j, j < 11 → i ≠ j → (Cond.not (Cond.eq (tmS i) (tmS j))) ∈ flatC nar1 ∨ (Cond.not (Cond.eq (tmS j) (tmS i))) ∈ flatC nar1 := by decide +kernel
theorem ns_cs : (Cond.eq (.static "java/lang/String" "COMPACT_STRINGS" "Z") (.int 1)) ∈ flatC nar1 := by decide +kernel
theorem ns_ff : (Cond.isRef (.static "jdk/internal/util/Preconditions" "SIOOBE_FORMATTER" "Ljava/util/function/BiFunction;")) ∈ flatC nar1 := by decide +kernel
theorem arr_prim {s : State} {args : Array Value} {ty : FieldType} (hpr : ∀ C, ty ≠ .object C) (h : (Cond.arrayClass ty).before args s = true) : ∃ cA, ArrOfT s cA ty ∧ va_RA s cA ty := by
  obtain ⟨cA, kA, comp, f, g, k⟩ := Cond.arrayClass_spec h
  refine ⟨cA, fun n z => ⟨(fun k h => by cases h), kA, g, comp, k⟩, ?_⟩
  revert f hpr
  cases ty with
  | object C => intro hpr _; exact absurd rfl (hpr C)
  | _ => intro _ f; exact f
theorem arr_obj {s : State} {args : Array Value} {C : String} (h : (Cond.arrayOver (.object C)).before args s = true) : ∃ cA, ArrOfT s cA (.object C) ∧ va_RA s cA (.object C) := by
  obtain ⟨comp, cA, kA, f1, f2, f3, f4, f5⟩ := Cond.arrayOver_spec h
  exact ⟨cA, fun n z => ⟨(fun k h => by cases h), kA, f3, comp, f4⟩, kA, comp, f3, f4, f1, f5⟩
set_option maxHeartbeats 4000000 in
/-- the tables of the start -/
theorem start_K {s : State} {args : Array Value} (hts : ∀ w ∈ lw_tbl, w.before args s = true) : ∃ (cy : Nat → ClassId) (D : va_G), ∀ ad l adK adV, va_K D vwCl (tysOf (ad, cy, D, l, adK, adV)) s := by
  obtain ⟨y0, ya0, yb0⟩ := arr_prim (fun _ h => by cases h) (hts _ ay_int)
  obtain ⟨y1, ya1, yb1⟩ := arr_prim (fun _ h => by cases h) (hts _ ay_byte)
  obtain ⟨y2, ya2, yb2⟩ := arr_prim (fun _ h => by cases h) (hts _ ay_short)
  obtain ⟨y3, ya3, yb3⟩ := arr_prim (fun _ h => by cases h) (hts _ ay_boolean)
  obtain ⟨y4, ya4, yb4⟩ := arr_obj (hts _ ao_8)
  obtain ⟨y5, ya5, yb5⟩ := arr_obj (hts _ ao_7)
  obtain ⟨y6, ya6, yb6⟩ := arr_obj (hts _ ao_3)
  obtain ⟨y7, ya7, yb7⟩ := arr_obj (hts _ ao_9)
  obtain ⟨c0, i0, k0⟩ := u_known (C := RX2) (T := TX2) (N := 17) (n := 17) hts (fun w hw => UW_tbl (lay_0 w hw)) (hts _ it_0)
  obtain ⟨c1, i1, k1⟩ := u_known (C := RX3) (T := TX3) (N := 5) (n := 5) hts (fun w hw => UW_tbl (lay_1 w hw)) (hts _ it_1)
  obtain ⟨c2, i2, k2⟩ := u_known (C := RX4) (T := TX4) (N := 13) (n := 13) hts (fun w hw => UW_tbl (lay_2 w hw)) (hts _ it_2)
  obtain ⟨c3, i3, k3⟩ := u_known (C := RX5) (T := TX5) (N := 11) (n := 11) hts (fun w hw => UW_tbl (lay_3 w hw)) (hts _ it_3)
  obtain ⟨c4, i4, k4⟩ := u_known (C := RX6) (T := TX6) (N := 11) (n := 11) hts (fun w hw => UW_tbl (lay_4 w hw)) (hts _ it_4)
  obtain ⟨c5, i5, k5⟩ := u_known (C := RX7) (T := TX7) (N := 3) (n := 3) hts (fun w hw => UW_tbl (lay_5 w hw)) (hts _ it_5)
  obtain ⟨c6, i6, k6⟩ := u_known (C := RX8) (T := TX8) (N := 6) (n := 6) hts (fun w hw => UW_tbl (lay_6 w hw)) (hts _ it_6)
  obtain ⟨c7, i7, k7⟩ := u_known (C := RX9) (T := TX9) (N := 8) (n := 8) hts (fun w hw => UW_tbl (lay_7 w hw)) (hts _ it_7)
  obtain ⟨c8, i8, k8⟩ := u_known (C := RX10) (T := TX10) (N := 2) (n := 2) hts (fun w hw => UW_tbl (lay_8 w hw)) (hts _ it_8)
  obtain ⟨c9, i9, k9⟩ := u_known (C := RX11) (T := TX11) (N := 8) (n := 8) hts (fun w hw => UW_tbl (lay_9 w hw)) (hts _ it_9)
  obtain ⟨c10, i10, k10⟩ := u_known (C := RX12) (T := TX12) (N := 62) (n := 62) hts (fun w hw => UW_tbl (lay_10 w hw)) (hts _ it_10)
  refine ⟨fun t => [y0, y1, y2, y3, y4, y5, y6, y7].getD t 0, (fun k => [c0, c1, c2, c3, c4, c5, c6, c7, c8, c9, c10].getD k 0, fun k => [i0, i1, i2, i3, i4, i5, i6, i7, i8, i9, i10].getD k (fun _ => 0)), fun ad l adK adV => ⟨?_, ?_⟩⟩
  · intro k q hq
    match k, hq with
    | 0, hq => cases hq; exact k0
    | 1, hq => cases hq; exact k1
    | 2, hq => cases hq; exact k2
    | 3, hq => cases hq; exact k3
    | 4, hq => cases hq; exact k4
    | 5, hq => cases hq; exact k5
    | 6, hq => cases hq; exact k6
    | 7, hq => cases hq; exact k7
    | 8, hq => cases hq; exact k8
    | 9, hq => cases hq; exact k9
    | 10, hq => cases hq; exact k10
    | k + 11, hq => simp [vwCl] at hq
  · intro k q hq
    match k, hq with
    | 0, hq => cases hq; exact ⟨ya0, yb0⟩
    | 1, hq => cases hq; exact ⟨ya1, yb1⟩
    | 2, hq => cases hq; exact ⟨ya2, yb2⟩
    | 3, hq => cases hq; exact ⟨ya3, yb3⟩
    | 4, hq => cases hq; exact ⟨ya4, yb4⟩
    | 5, hq => cases hq; exact ⟨ya5, yb5⟩
    | 6, hq => cases hq; exact ⟨ya6, yb6⟩
    | 7, hq => cases hq; exact ⟨ya7, yb7⟩
    | k + 8, hq => simp [tysOf] at hq
theorem start_NX {s : State} {args : Array Value} (hts : ∀ w ∈ lw_tbl, w.before args s = true) : NX s ∧ Nst s := by
  refine ⟨⟨?_, va_AO.of (hts _ ao_8), va_AO.of (hts _ ao_7), va_AO.of (hts _ ao_3), va_AO.of (hts _ ao_9)⟩, va_Nw.of rfl (hts _ nw_14), va_Nw.of rfl (hts _ nw_15)⟩
  unfold nestL
  exact (List.forall_mem_cons.mpr ⟨va_Nw.of rfl (hts _ nw_0), (List.forall_mem_cons.mpr ⟨va_Nw.of rfl (hts _ nw_1), (List.forall_mem_cons.mpr ⟨va_Nw.of rfl (hts _ nw_2), (List.forall_mem_cons.mpr ⟨va_Nw.of rfl (hts _ nw_3), (List.forall_mem_cons.mpr ⟨va_Nw.of rfl (hts _ nw_4), (List.forall_mem_cons.mpr ⟨va_Nw.of rfl (hts _ nw_5), (List.forall_mem_cons.mpr ⟨va_Nw.of rfl (hts _ nw_6), (List.forall_mem_cons.mpr ⟨va_Nw.of rfl (hts _ nw_7), (List.forall_mem_cons.mpr ⟨va_Nw.of rfl (hts _ nw_8), (List.forall_mem_cons.mpr ⟨va_Nw.of rfl (hts _ nw_9), (List.forall_mem_cons.mpr ⟨va_Nw.of rfl (hts _ nw_10), (List.forall_mem_cons.mpr ⟨va_Nw.of rfl (hts _ nw_11), (List.forall_mem_cons.mpr ⟨va_Nw.of rfl (hts _ nw_12), (List.forall_mem_cons.mpr ⟨va_Nw.of rfl (hts _ nw_13), (fun _ h => absurd h List.not_mem_nil)⟩)⟩)⟩)⟩)⟩)⟩)⟩)⟩)⟩)⟩)⟩)⟩)⟩)⟩)
set_option maxHeartbeats 4000000 in
theorem start_S {s : State} {args : Array Value} (hts : ∀ w ∈ lw_tbl, w.before args s = true) (hgv : (Jvm.Cond.and given_1 narrow_1).before args s = true) : ∃ adK adV : Nat → Nat, ∀ (u : Nat) (cy : Nat → ClassId) (D : va_G) (l : Launch), (∀ q, Au u (adB s.heap.size, cy, D, l, adK, adV) q → s.heap.size ≤ q) → Strs u (adB s.heap.size, cy, D, l, adK, adV) s := by
  have hs := flat_of_before _ hgv
  have hA : ∀ a : Nat, a < s.heap.size → ¬ (fun q => s.heap.size ≤ q) a := fun a h => Nat.not_le.mpr h
  obtain ⟨adK, adV, hS, hE⟩ := vk_Sof (args := args) (s := s) (N := 11) (tm := tmS) (len := strLen) (byt := strByt) (A := fun q => s.heap.size ≤ q) (fun i hi => Nat.lt_trans (str_lt i hi) (by decide)) (fun i hi => hs _ (ns_ex i hi)) (fun i hi => hs _ (ns_co i hi)) (fun i hi => hs _ (ns_ar i hi)) (fun i hi => hs _ (ns_le i hi)) (fun i hi j hj => hs _ (ns_el i hi j hj)) (fun i j hi hj hne => (ns_ne i hi j hj hne).elim (fun h => Or.inl (hs _ h)) (fun h => Or.inr (hs _ h))) hA
  refine ⟨adK, adV, fun u cy D l hAu => ⟨⟨hS.narrow hAu, ?_⟩, (start_NX hts).2, ?_, ?_⟩⟩
  · intro i q hq
    match i, hq with
    | 0, hq => cases hq; exact vk_R.of (hts _ sr_0) (hE 0 (by decide))
    | 1, hq => cases hq; exact vk_R.of (hts _ sr_1) (hE 1 (by decide))
    | 2, hq => cases hq; exact vk_R.of (hts _ sr_2) (hE 2 (by decide))
    | 3, hq => cases hq; exact vk_R.of (hts _ sr_3) (hE 3 (by decide))
    | 4, hq => cases hq; exact vk_R.of (hts _ sr_4) (hE 4 (by decide))
    | 5, hq => cases hq; exact vk_R.of (hts _ sr_5) (hE 5 (by decide))
    | 6, hq => cases hq; exact vk_R.of (hts _ sr_6) (hE 6 (by decide))
    | 7, hq => cases hq; exact vk_R.of (hts _ sr_7) (hE 7 (by decide))
    | 8, hq => cases hq; exact vk_R.of (hts _ sr_8) (hE 8 (by decide))
    | 9, hq => cases hq; exact vk_R.of (hts _ sr_9) (hE 9 (by decide))
    | 10, hq => cases hq; exact vk_R.of (hts _ sr_10) (hE 10 (by decide))
    | i + 11, hq => simp [strIx] at hq
  · exact (va_Zof (hts _ ls_c) (hts _ in_s) (va_eqi (hs _ ns_cs)) hA).narrow hAu
  · exact (va_Zqof (hts _ ls_f) (hts _ in_p) (hs _ ns_ff) hA).narrow hAu
theorem off_lo {b u : Nat} {gg : (Nat → ClassId) × va_G × Launch × (Nat → Nat) × (Nat → Nat)} {q : Nat} (h : Au u (adB b, gg) q) : b ≤ q := by
  obtain ⟨x, -, rfl⟩ := h
  exact Nat.le_add_right _ _
set_option maxHeartbeats 4000000 in
set_option maxRecDepth 100000 in
theorem whole_of {p : Program} {e : Env} {s : State} {m : MethodId} {below : List Frame} {meth : Method} {c : Code} (l : Launch) {b L : Nat} {xs : Nat → Int32} (hL : L ≤ 3072) (C0 : lw_At p s m meth c b L xs) {Rel : Hp → Hp → Prop} (hst : AllStp Rel) (hR0 : Rel h00 h01) : W p l e room_1 s m #[Value.ref b] below meth c s.heap [] 0 0 (lw_Z below #[Value.ref b] s) (entryFrame m ([Value.ref b] : List Value).toArray 4) := by
  obtain ⟨hx, hb, hr, hml, hown, hts, hX, hbl, hlocks, hgv⟩ := id C0
  obtain ⟨cy, D, hK0⟩ := start_K hts
  obtain ⟨adK, adV, hS0⟩ := start_S hts hgv
  have hN0 := (start_NX hts).1
  generalize hB : s.heap.size = B at hS0
  obtain ⟨g, hg⟩ : ∃ g : GE, g = (adB B, cy, D, l, adK, adV) := ⟨_, rfl⟩
  have hK : va_K g.2.2.1 vwCl (tysOf g) s := by rw [hg]; exact hK0 _ _ _ _
  have htu : ∀ w ∈ UW, w.before #[Value.ref b] s = true := fun w hw => hts w (UW_tbl hw)
  have hlC : LCx g p s m meth c b L xs := by
    refine ⟨C0, hK, ?_, ?_, ?_, ?_, ?_, ?_, ?_⟩
    · rw [hg]; intro x hx y hy he; exact adB_inj.1 x hx y hy (Nat.add_left_cancel he)
    · rw [hg]; intro x hx y hy he; exact adB_inj.2.1 x hx y hy (Nat.add_left_cancel he)
    · rw [hg]; exact hS0 0 cy D l (fun q h => off_lo h)
    · rw [hg]; exact hS0 1 cy D l (fun q h => off_lo h)
    · rw [hg]; intro x hx y hy he; exact adB_inj.2.2 x hx y hy (Nat.add_left_cancel he)
    · rw [hg, hB]; intro x _; exact Nat.le_add_right _ _
    · rw [hg, hB]; intro x _; exact Nat.le_add_right _ _
  have hl := lv_entry ([.ref b]) (n := 4) (Nat.le_of_ble_eq_true rfl)
  rw [lg_entry_eq]
  generalize (lg_sl ([.ref b]) ++ List.replicate (4 - (lg_sl ([.ref b])).length) Slot.unset).toArray = ls at hl ⊢
  have hl : lv_has ls 4 [(0, .ref b)] := hl
  have el : l = g.2.2.2.1 := by rw [hg]
  rw [el]
  have hS1 : va_S (fun q => s.heap.size ≤ q) s.heap s.heap [] := va_S.rf
  have hP0 : va_P g.2.2.1 vwCl (wz B []) s.heap := fun k q h => by simp [wz] at h
  refine l_make C0 hK hN0 clk_9 (Nat.le_refl _) cl_7 it_9 ii_11 dv_9 rfl hP0 (by rw [hB]; rfl) va_S.rf (Nat.le_of_ble_eq_true rfl) (Nat.le_of_ble_eq_true rfl) dL_law_0 dL_law_3 rfl (c_blkPlateRunner g) md_X11_init rfl rfl ml_9 im_11 (by decide) (Nat.le_of_ble_eq_true rfl) (Nat.le_of_ble_eq_true rfl) (Nat.le_of_ble_eq_true rfl) hl dL_law_4 (hB ▸ Nat.le_refl _) (fun H1 locs1 hP1 hz1 hS1 => ?_)
  refine lv_astore_n (lv' := [(1, .ref (B + 0)), (0, .ref b)]) hx hb dL_law_7 rfl hl (by decide) rfl (fun ls hl => ?_)
  refine l_make C0 hK hN0 clk_10 (Nat.le_refl _) cl_10 it_10 ii_12 dv_10 rfl hP1 hz1 hS1 (Nat.le_of_ble_eq_true rfl) (Nat.le_of_ble_eq_true rfl) dL_law_8 dL_law_11 rfl (c_blkModel g) md_X12_init rfl rfl ml_12 im_12 (by decide) (Nat.le_of_ble_eq_true rfl) (Nat.le_of_ble_eq_true rfl) (Nat.le_of_ble_eq_true rfl) hl dL_law_12 (hB ▸ Nat.le_refl _) (fun H2 locs2 hP2 hz2 hS2 => ?_)
  refine lv_astore_n (lv' := [(2, .ref (B + 160)), (1, .ref (B + 0)), (0, .ref b)]) hx hb dL_law_15 rfl hl (by decide) rfl (fun ls hl => ?_)
  refine lv_iconst (v := 0) hx hb dL_law_16 rfl ?_
  refine lv_istore_n (lv' := [(3, .int 0), (2, .ref (B + 160)), (1, .ref (B + 0)), (0, .ref b)]) hx hb dL_law_17 rfl hl (by decide) rfl (fun ls hl => ?_)
  have hP2 : va_P g.2.2.1 vwCl (wz B (blkPlateRunner g B ++ blkModel g (B + 160))) H2 := hP2
  have hA0 : va_P g.2.2.1 vwCl (wsOf 0 g h00) H2 := by rw [hg] at hP2 ⊢; exact au_conv (iw0 B _) hP2
  have hA1 : va_P g.2.2.1 vwCl (wsOf 1 g h01) H2 := by rw [hg] at hP2 ⊢; exact au_conv (iw1 B _) hP2
  refine law_loop hlC hL hst 4000 0 (by omega) (by omega) h00 h01 hR0 H2 locs2 ls hA0 hA1 (by rw [hB]; exact hS2) ?_
  rw [hg]
  exact hl

