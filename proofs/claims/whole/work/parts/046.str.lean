section Rows6
variable {ρ : Type} {cv : ρ → Option Value} {u : Nat} {g : GE} {M : MI} {d pc : Nat} {ls : List (Nat × Value)} {st : List Value} {h : Hp} {o : Option (ρ × Hp)}
theorem s_ldcs {i ix : Nat} {tx : String} (hM : M.1.cls = RX5) (hd : decode M.2.1 pc = .ok (.ldc ix, 2)) (hi : strIx[i]? = some (ix, tx)) (k : Sim cv u g M d (pc + 2) ls (.ref (g.2.2.2.2.1 i) :: st) h o) : Sim cv u g M d pc ls st h o := by
  intro r h' ho p e s m args below meth c H locs lsA C hP hS hl
  exact va_ldcS C.1 C.2.1 C.2.2.2.2.1 (by rw [hM]; exact C.2.2.2.2.2.2.2.2.2.1.2 i _ hi) hd (k r h' ho p e s m args below meth c H locs lsA C hP hS hl)
theorem s_nullq {kd : Nat} (hd : decode M.2.1 pc = .ok (.aconst_null, 1)) (k : Sim cv u g M d (pc + 1) ls (rq g kd none :: st) h o) : Sim cv u g M d pc ls st h o := s_null hd k
theorem s_sgv {i ix : Nat} (hw : Cond.fieldLink M.1.cls ix "java/lang/String" "value" "[B" ∈ UW) (hi : i < 11) (hd : decode M.2.1 pc = .ok (.getfield ix, 3)) (k : Sim cv u g M d (pc + 3) ls (.ref (g.2.2.2.2.2 i) :: st) h o) : Sim cv u g M d pc ls (.ref (g.2.2.2.2.1 i) :: st) h o := by
  intro r h' ho p e s m args below meth c H locs lsA C hP hS hl
  exact vk_getf C.1 C.2.1 (C.2.2.2.2.2.2.2.2.2.1.1.1 i hi).2.2.1 hS C.2.2.2.2.1 (C.2.2.2.2.2.1 _ hw) (fun _ z => z) hd (k r h' ho p e s m args below meth c H locs lsA C hP hS hl)
theorem s_sgc {i ix : Nat} (hw : Cond.fieldLink M.1.cls ix "java/lang/String" "coder" "B" ∈ UW) (hi : i < 11) (hd : decode M.2.1 pc = .ok (.getfield ix, 3)) (k : Sim cv u g M d (pc + 3) ls (.int 0 :: st) h o) : Sim cv u g M d pc ls (.ref (g.2.2.2.2.1 i) :: st) h o := by
  intro r h' ho p e s m args below meth c H locs lsA C hP hS hl
  exact vk_getf C.1 C.2.1 (C.2.2.2.2.2.2.2.2.2.1.1.1 i hi).2.1 hS C.2.2.2.2.1 (C.2.2.2.2.2.1 _ hw) (fun _ z => z) hd (k r h' ho p e s m args below meth c H locs lsA C hP hS hl)
theorem s_gcs {ix : Nat} (hw : Cond.fieldLink M.1.cls ix "java/lang/String" "COMPACT_STRINGS" "Z" ∈ UW) (hd : decode M.2.1 pc = .ok (.getstatic ix, 3)) (k : Sim cv u g M d (pc + 3) ls (.int 1 :: st) h o) : Sim cv u g M d pc ls st h o := by
  intro r h' ho p e s m args below meth c H locs lsA C hP hS hl
  exact va_gets C.1 C.2.1 C.2.2.2.2.2.2.2.2.2.2.2.1 hS C.2.2.2.2.1 (C.2.2.2.2.2.1 _ hw) (fun _ z => z) hd (k r h' ho p e s m args below meth c H locs lsA C hP hS hl)
theorem s_gff {ix : Nat} (hw : Cond.fieldLink M.1.cls ix "jdk/internal/util/Preconditions" "SIOOBE_FORMATTER" "Ljava/util/function/BiFunction;" ∈ UW) (hd : decode M.2.1 pc = .ok (.getstatic ix, 3)) (k : ∀ q : Option Nat, Sim cv u g M d (pc + 3) ls (va_rf q :: st) h o) : Sim cv u g M d pc ls st h o := by
  intro r h' ho p e s m args below meth c H locs lsA C hP hS hl
  rcases C.2.2.2.2.2.2.2.2.2.2.2.2 with hz | ⟨t, hz⟩
  · exact va_gets C.1 C.2.1 hz hS C.2.2.2.2.1 (C.2.2.2.2.2.1 _ hw) (fun _ z => z) hd (k none r h' ho p e s m args below meth c H locs lsA C hP hS hl)
  · exact va_gets C.1 C.2.1 hz hS C.2.2.2.2.1 (C.2.2.2.2.2.1 _ hw) (fun _ z => z) hd (k (some t) r h' ho p e s m args below meth c H locs lsA C hP hS hl)
theorem s_stal {i : Nat} (hi : i < 11) (hd : decode M.2.1 pc = .ok (.arraylength, 1)) (k : Sim cv u g M d (pc + 1) ls (.int (nI (strLen.getD i 0)) :: st) h o) : Sim cv u g M d pc ls (.ref (g.2.2.2.2.2 i) :: st) h o := by
  intro r h' ho p e s m args below meth c H locs lsA C hP hS hl
  obtain ⟨scr, h1, h2, h3, h4, h5, h6, h7⟩ := (C.2.2.2.2.2.2.2.2.2.1.1.1 i hi).2.2.2.kept hS.2.1
  exact W.alen C.1 C.2.1 h1 h2 h5 rfl rfl hd (k r h' ho p e s m args below meth c H locs lsA C hP hS hl)
theorem s_stb {i : Nat} {j : Int32} (hi : i < 11) (hj : vp_in j (strLen.getD i 0)) (hd : decode M.2.1 pc = .ok (.baload, 1)) (k : Sim cv u g M d (pc + 1) ls (.int ((strByt.getD i []).getD j.toNatClampNeg 0) :: st) h o) : Sim cv u g M d pc ls (.int j :: .ref (g.2.2.2.2.2 i) :: st) h o := by
  intro r h' ho p e s m args below meth c H locs lsA C hP hS hl
  exact va_tb C.1 C.2.1 (C.2.2.2.2.2.2.2.2.2.1.1.1 i hi).2.2.2 hS hj rfl hd (k r h' ho p e s m args below meth c H locs lsA C hP hS hl)
theorem s_i2c {x : Int32} (hd : decode M.2.1 pc = .ok (.i2c, 1)) (k : Sim cv u g M d (pc + 1) ls (.int ((x.toUInt32 % 65536).toInt32) :: st) h o) : Sim cv u g M d pc ls (.int x :: st) h o := by
  intro r h' ho p e s m args below meth c H locs lsA C hP hS hl
  exact lv_i2c C.1 C.2.1 hd rfl (k r h' ho p e s m args below meth c H locs lsA C hP hS hl)
theorem s_nret {x : Int32} {ty : FieldType} (hr : M.2.2.2 = some ty) (hn : narrow ty (.int x) = .int x) (hd : decode M.2.1 pc = .ok (.ireturn, 1)) : Sim cvi u g M d pc ls [.int x] h (some (x, h)) := by
  intro r h' ho p e s m args below meth c H locs lsA C hP hS hl
  cases ho
  exact W.zret (Qc := QC cvi u g x h) C.1 C.2.1 (C.2.2.1.trans hr) hn (fun t ht hW => ⟨rfl, by rw [ht]; exact hP, hS.F ht⟩) hS.2.2 hd C.2.2.2.2.2.2.2.1
theorem s_aloadr (j : Nat) {kk : Fin 4} {i : Nat} {q : Option Nat} (hd : decode M.2.1 pc = .ok (.aload_n kk, 1)) (hi : (kk : Nat) = i) (hj : ls[j]? = some (i, va_rf q)) (k : Sim cv u g M d (pc + 1) ls (va_rf q :: st) h o) : Sim cv u g M d pc ls st h o := by
  intro r h' ho p e s m args below meth c H locs lsA C hP hS hl
  cases q with
  | none => exact lv_aload_nN C.1 C.2.1 hd hi (lv_at hl j hj) (k r h' ho p e s m args below meth c H locs lsA C hP hS hl)
  | some a => exact lv_aload_n C.1 C.2.1 hd hi (lv_at hl j hj) (k r h' ho p e s m args below meth c H locs lsA C hP hS hl)
def TL (own : String) (idx : Nat) (M' : MI) (n : Nat) : Prop := M'.1.cls = "java/lang/String" ∧ MD M' n ∧ Cond.methodLink own idx M'.1 ∈ UW ∧ Cond.instanceMethod M'.1 ∈ UW ∧ Cond.selects M'.1.cls M'.1 M'.1 ∈ UW
theorem s_callT {M' : MI} {d' idx i n : Nat} {As rest st0 : List Value} {o' : Option (Int32 × Hp)} {f : Int32 → Hp → Option (ρ × Hp)} (hi : i < 11) (hM : Con cvi u g M' d' (.ref (g.2.2.2.2.1 i) :: As) h o') (hv : TL M.1.cls idx M' n) (hn : As.length = n) (hdd : d' + 1 ≤ d) (hr : (rest.map fun v => v.category).sum ≤ 8) (hd : decode M.2.1 pc = .ok (.invokevirtual idx, 3)) (hst : st0 = As.reverse ++ .ref (g.2.2.2.2.1 i) :: rest)
    (k : ∀ r1 h1, Sim cv u g M d (pc + 3) ls (.int r1 :: rest) h1 (f r1 h1)) : Sim cv u g M d pc ls st0 h (bnd o' f) := by
  intro r h' ho p e s m args below meth c H locs lsA C hP hS hl
  obtain ⟨r1, h1, ho1, ho2⟩ := bnd_some ho
  obtain ⟨hcl, hm, hlk, hin, hse⟩ := hv
  refine s_after (cv' := cvi) (a := (.ref (g.2.2.2.2.1 i) :: As : List Value).toArray) (va_runV (As := As) (rest := rest) (b := g.2.2.2.2.1 i) (Ts := UW) ⟨C.1, C.2.1, C.2.2.2.1, C.2.2.2.2.1, C.2.2.2.2.2.1⟩ (hM r1 h1 ho1) ⟨callb C hm hlk hdd, C.2.2.2.2.2.1 _ hin, C.2.2.2.2.2.1 _ hse⟩ ⟨bef_blind _ u g h, by rw [hcl]; exact vk_recv C.2.2.2.2.2.2.2.2.2.1.1 hi hS, fun U hU hW => ⟨rfl, by rw [hU]; exact hP, va_K.moved hW.alike C.2.2.2.2.2.2.1, C.2.2.2.2.2.2.2.2.1, C.2.2.2.2.2.2.2.2.2.step hS hW hU⟩⟩ rfl hn hl.1 hst (by show 2 * 0 + _ ≤ 8; omega) hd ⟨Nat.le_refl _, Nat.le_refl _⟩) hS (fun H1 locs1 hP1 hS1 => ?_)
  exact k r1 h1 r h' ho2 p e s m args below meth c H1 locs1 lsA C hP1 hS1 hl
theorem s_callT0 {M' : MI} {d' idx i n : Nat} {As rest st0 : List Value} {v1 : Int32} {h1 : Hp} (hi : i < 11) (hM : Con cvi u g M' d' (.ref (g.2.2.2.2.1 i) :: As) h (some (v1, h1))) (hv : TL M.1.cls idx M' n) (hn : As.length = n) (hdd : d' + 1 ≤ d) (hr : (rest.map fun v => v.category).sum ≤ 8) (hd : decode M.2.1 pc = .ok (.invokevirtual idx, 3)) (hst : st0 = As.reverse ++ .ref (g.2.2.2.2.1 i) :: rest)
    (k : Sim cv u g M d (pc + 3) ls (.int v1 :: rest) h1 o) : Sim cv u g M d pc ls st0 h o := by
  intro r h' ho p e s m args below meth c H locs lsA C hP hS hl
  obtain ⟨hcl, hm, hlk, hin, hse⟩ := hv
  refine s_after (cv' := cvi) (a := (.ref (g.2.2.2.2.1 i) :: As : List Value).toArray) (va_runV (As := As) (rest := rest) (b := g.2.2.2.2.1 i) (Ts := UW) ⟨C.1, C.2.1, C.2.2.2.1, C.2.2.2.2.1, C.2.2.2.2.2.1⟩ (hM v1 h1 rfl) ⟨callb C hm hlk hdd, C.2.2.2.2.2.1 _ hin, C.2.2.2.2.2.1 _ hse⟩ ⟨bef_blind _ u g h, by rw [hcl]; exact vk_recv C.2.2.2.2.2.2.2.2.2.1.1 hi hS, fun U hU hW => ⟨rfl, by rw [hU]; exact hP, va_K.moved hW.alike C.2.2.2.2.2.2.1, C.2.2.2.2.2.2.2.2.1, C.2.2.2.2.2.2.2.2.2.step hS hW hU⟩⟩ rfl hn hl.1 hst (by show 2 * 0 + _ ≤ 8; omega) hd ⟨Nat.le_refl _, Nat.le_refl _⟩) hS (fun H1 locs1 hP1 hS1 => ?_)
  exact k r h' ho p e s m args below meth c H1 locs1 lsA C hP1 hS1 hl
theorem s_callS0 {ρ' : Type} {cv' : ρ' → Option Value} {M' : MI} {d' idx n : Nat} {As rest st0 : List Value} {v1 : ρ'} {h1 : Hp} (hM : Con cv' u g M' d' As h (some (v1, h1))) (hv : SL M.1.cls idx M' n) (hn : As.length = n) (hdd : d' + 1 ≤ d) (hr : (rest.map fun v => v.category).sum ≤ 8) (hd : decode M.2.1 pc = .ok (.invokestatic idx, 3)) (hst : st0 = As.reverse ++ rest)
    (k : Sim cv u g M d (pc + 3) ls ((cv' v1).toList ++ rest) h1 o) : Sim cv u g M d pc ls st0 h o := by
  intro r h' ho p e s m args below meth c H locs lsA C hP hS hl
  obtain ⟨hm, hlk, hst0⟩ := hv
  refine s_after (a := As.toArray) (va_runS (As := As) (rest := rest) (Ts := UW) ⟨C.1, C.2.1, C.2.2.2.1, C.2.2.2.2.1, C.2.2.2.2.2.1⟩ (hM v1 h1 rfl) ⟨callb C hm hlk hdd, C.2.2.2.2.2.1 _ hst0⟩ ⟨bef_blind _ u g h, fun U hU hW => ⟨rfl, by rw [hU]; exact hP, va_K.moved hW.alike C.2.2.2.2.2.2.1, C.2.2.2.2.2.2.2.2.1, C.2.2.2.2.2.2.2.2.2.step hS hW hU⟩⟩ rfl hn hl.1 hst (by show 2 * 0 + _ ≤ 8; omega) hd ⟨Nat.le_refl _, Nat.le_refl _⟩) hS (fun H1 locs1 hP1 hS1 => ?_)
  exact k r h' ho p e s m args below meth c H1 locs1 lsA C hP1 hS1 hl
end Rows6
