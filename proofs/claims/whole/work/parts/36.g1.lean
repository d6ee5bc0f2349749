/-! the same, carried from one number to another -/
theorem StRel.cp {hC hM hC' hM' : Hp} {s s' : Nat} (e6 : ∀ i, i < 3 → hC'.1 6 s' i = hC.1 6 s i) (e33 : ∀ i, i < 5 → hC'.1 33 s' i = hC.1 33 s i) (e34 : ∀ i, i < 5 → hC'.1 34 s' i = hC.1 34 s i) (e35 : ∀ i, i < 5 → hC'.1 35 s' i = hC.1 35 s i) (m : ∀ i, i < 18 → hM'.1 48 0 (18 * s' + i) = hM.1 48 0 (18 * s + i)) (h : StRel hC hM s) : StRel hC' hM' s' := by
  obtain ⟨sp, st, n, pl, li, le, hv, ⟨c1, c2, c3, c4⟩, ⟨m1, m2, m3, m4⟩⟩ := h
  have hn := hv.2.2.2.1
  refine ⟨sp, st, n, pl, li, le, hv, ⟨(e6 0 (by omega)).trans c1, (e6 1 (by omega)).trans c2, (e6 2 (by omega)).trans c3, fun p hp => ?_⟩, ⟨(m 0 (by omega)).trans m1, (m 1 (by omega)).trans m2, (m 2 (by omega)).trans m3, fun p hp => ?_⟩⟩
  · rw [e33 p (by omega), e34 p (by omega), e35 p (by omega)]; exact c4 p hp
  · have d1 := m (3 + p) (by omega)
    have d2 := m (8 + p) (by omega)
    have d3 := m (13 + p) (by omega)
    rw [← Nat.add_assoc, ← Nat.add_assoc] at d1 d2 d3
    rw [d1, d2, d3]; exact m4 p hp
theorem ShRel.cp {hC hM hC' hM' : Hp} {s s' : Nat} (e5 : ∀ i, i < 1 → hC'.1 5 s' i = hC.1 5 s i) (e31 : ∀ i, i < 40 → hC'.1 31 s' i = hC.1 31 s i) (e32 : ∀ i, i < 40 → hC'.1 32 s' i = hC.1 32 s i) (m : ∀ i, i < 81 → hM'.1 49 0 (81 * s' + i) = hM.1 49 0 (81 * s + i)) (h : ShRel hC hM s) : ShRel hC' hM' s' := by
  obtain ⟨n, kd, pt, hv, ⟨c1, c2⟩, ⟨m1, m2⟩⟩ := h
  have hn := hv.1
  refine ⟨n, kd, pt, hv, ⟨(e5 0 (by omega)).trans c1, fun p hp => ?_⟩, ⟨(m 0 (by omega)).trans m1, fun p hp => ?_⟩⟩
  · rw [e31 p (by omega), e32 p (by omega)]; exact c2 p hp
  · have d1 := m (1 + 2 * p) (by omega)
    have d2 := m (2 + 2 * p) (by omega)
    rw [← Nat.add_assoc, ← Nat.add_assoc] at d1 d2
    rw [d1, d2]; exact m2 p hp
theorem LgRel.cp {hC hM hC' hM' : Hp} {s s' : Nat} (e1 : ∀ i, i < 2 → hC'.1 1 s' i = hC.1 1 s i) (e21 : ∀ i, i < 8 → hC'.1 21 s' i = hC.1 21 s i) (e22 : ∀ i, i < 8 → hC'.1 22 s' i = hC.1 22 s i) (e23 : ∀ i, i < 8 → hC'.1 23 s' i = hC.1 23 s i) (m : ∀ i, i < 26 → hM'.1 50 0 (26 * s' + i) = hM.1 50 0 (26 * s + i)) (h : LgRel hC hM s) : LgRel hC' hM' s' := by
  obtain ⟨r, n, sd, pt, bt, hv, ⟨c1, c2, c3⟩, ⟨m1, m2, m3⟩⟩ := h
  have hn := hv.2.1
  refine ⟨r, n, sd, pt, bt, hv, ⟨(e1 0 (by omega)).trans c1, (e1 1 (by omega)).trans c2, fun p hp => ?_⟩, ⟨(m 0 (by omega)).trans m1, (m 1 (by omega)).trans m2, fun p hp => ?_⟩⟩
  · rw [e21 p (by omega), e22 p (by omega), e23 p (by omega)]; exact c3 p hp
  · have d1 := m (2 + 3 * p) (by omega)
    have d2 := m (3 + 3 * p) (by omega)
    have d3 := m (4 + 3 * p) (by omega)
    rw [← Nat.add_assoc, ← Nat.add_assoc] at d1 d2 d3
    rw [d1, d2, d3]; exact m3 p hp
/-- the stages, shows and logs of number t, as number t' -/
def CpS (hC hM hC' hM' : Hp) (t t' : Nat) : Prop :=
  (∀ k, k < 2 → (∀ i, i < 3 → hC'.1 6 (2 * t' + k) i = hC.1 6 (2 * t + k) i) ∧ (∀ i, i < 1 → hC'.1 5 (2 * t' + k) i = hC.1 5 (2 * t + k) i) ∧ (∀ i, i < 2 → hC'.1 1 (2 * t' + k) i = hC.1 1 (2 * t + k) i) ∧
    (∀ i, i < 5 → hC'.1 33 (2 * t' + k) i = hC.1 33 (2 * t + k) i) ∧ (∀ i, i < 5 → hC'.1 34 (2 * t' + k) i = hC.1 34 (2 * t + k) i) ∧ (∀ i, i < 5 → hC'.1 35 (2 * t' + k) i = hC.1 35 (2 * t + k) i) ∧
    (∀ i, i < 40 → hC'.1 31 (2 * t' + k) i = hC.1 31 (2 * t + k) i) ∧ (∀ i, i < 40 → hC'.1 32 (2 * t' + k) i = hC.1 32 (2 * t + k) i) ∧
    (∀ i, i < 8 → hC'.1 21 (2 * t' + k) i = hC.1 21 (2 * t + k) i) ∧ (∀ i, i < 8 → hC'.1 22 (2 * t' + k) i = hC.1 22 (2 * t + k) i) ∧ (∀ i, i < 8 → hC'.1 23 (2 * t' + k) i = hC.1 23 (2 * t + k) i)) ∧
  (∀ i, i < 36 → hM'.1 48 0 (36 * t' + i) = hM.1 48 0 (36 * t + i)) ∧ (∀ i, i < 162 → hM'.1 49 0 (162 * t' + i) = hM.1 49 0 (162 * t + i)) ∧ (∀ i, i < 52 → hM'.1 50 0 (52 * t' + i) = hM.1 50 0 (52 * t + i))
def CpC (hC hC' : Hp) (t t' : Nat) : Prop := (∀ i, i < 3 → hC'.1 37 t' i = hC.1 37 t i) ∧ hC'.1 7 t' 2 = hC.1 7 t 2 ∧ hC'.1 7 t' 3 = hC.1 7 t 3
def CpM (hM hM' : Hp) (t t' : Nat) : Prop := (∀ i, i < 3 → hM'.1 47 0 (3 * t' + i) = hM.1 47 0 (3 * t + i)) ∧ hM'.1 45 0 t' = hM.1 45 0 t ∧ hM'.1 46 0 t' = hM.1 46 0 t
theorem TRel.cp {hC hM hC' hM' : Hp} {t t' : Nat} (eS : CpS hC hM hC' hM' t t') (eC : CpC hC hC' t t') (eM : CpM hM hM' t t') (hb : ∀ j, j < 600 → hC'.1 36 t' j = hM'.1 43 0 (600 * t' + j) ∧ fits .byte (.int (hC'.1 36 t' j)) = true) (hn : ∃ n, n ≤ 600 ∧ hC'.1 7 t' 1 = nI n ∧ hM'.1 44 0 t' = nI n) (h : TRel hC hM t) : TRel hC' hM' t' := by
  obtain ⟨-, -, h5, h6, c0, c1, c2, ⟨v0, v1, v2⟩, ⟨a0, a1, a2⟩, ⟨b0, b1, b2⟩, h10, h11, h12⟩ := h
  obtain ⟨e37, e72, e73⟩ := eC
  obtain ⟨m47, m45, m46⟩ := eM
  obtain ⟨sc, s48, s49, s50⟩ := eS
  refine ⟨hb, hn, by rw [e72, m45]; exact h5, by rw [e73, m46]; exact h6, c0, c1, c2, ⟨v0, v1, v2⟩, ⟨(e37 0 (by omega)).trans a0, (e37 1 (by omega)).trans a1, (e37 2 (by omega)).trans a2⟩, ⟨(m47 0 (by omega)).trans b0, (m47 1 (by omega)).trans b1, (m47 2 (by omega)).trans b2⟩, fun k hk => ?_, fun k hk => ?_, fun k hk => ?_⟩
  · obtain ⟨q6, q5, q1, q33, q34, q35, q31, q32, q21, q22, q23⟩ := sc k (by omega)
    refine (h10 k hk).cp q6 q33 q34 q35 (fun i hi => ?_)
    have := s48 (18 * k + i) (by omega)
    rw [show 18 * (2 * t' + k) + i = 36 * t' + (18 * k + i) by omega, show 18 * (2 * t + k) + i = 36 * t + (18 * k + i) by omega]; exact this
  · obtain ⟨q6, q5, q1, q33, q34, q35, q31, q32, q21, q22, q23⟩ := sc k (by omega)
    refine (h11 k hk).cp q5 q31 q32 (fun i hi => ?_)
    have := s49 (81 * k + i) (by omega)
    rw [show 81 * (2 * t' + k) + i = 162 * t' + (81 * k + i) by omega, show 81 * (2 * t + k) + i = 162 * t + (81 * k + i) by omega]; exact this
  · obtain ⟨q6, q5, q1, q33, q34, q35, q31, q32, q21, q22, q23⟩ := sc k (by omega)
    refine (h12 k hk).cp q1 q21 q22 q23 (fun i hi => ?_)
    have := s50 (26 * k + i) (by omega)
    rw [show 26 * (2 * t' + k) + i = 52 * t' + (26 * k + i) by omega, show 26 * (2 * t + k) + i = 52 * t + (26 * k + i) by omega]; exact this
/-! end and feed -/
/-- the bytes and their number changed, of number 0, and nothing else that counts -/
def FR (hC0 hM0 hC hM : Hp) (n : Nat) : Prop :=
  hC.1 7 0 1 = nI n ∧ hM.1 44 0 0 = nI n ∧ (∀ j, j < 600 → hC.1 36 0 j = hM.1 43 0 j ∧ fits .byte (.int (hC.1 36 0 j)) = true) ∧
  (∀ k s i, ¬ (k = 36 ∧ s = 0) → ¬ (k = 7 ∧ s = 0 ∧ i = 1) → hC.1 k s i = hC0.1 k s i) ∧
  (∀ k s i, ¬ (k = 43 ∧ i < 600) → ¬ (k = 44 ∧ i = 0) → ¬ (k = 10 ∧ i = 0) → hM.1 k s i = hM0.1 k s i)
theorem FR.rel {KI : Hp → Prop} (hKI : KStab KI) {hC0 hM0 hC hM : Hp} {n : Nat} (hn : n ≤ 600) (f : FR hC0 hM0 hC hM n) (h : Rel KI hC0 hM0) : Rel KI hC hM := by
  obtain ⟨f1, f2, f3, f4, f5⟩ := f
  obtain ⟨h0, h1, h2, h3⟩ := h
  have aC : ∀ k s i, k ≠ 36 → k ≠ 7 → hC.1 k s i = hC0.1 k s i := fun k s i a b => f4 k s i (fun q => a q.1) (fun q => b q.1)
  have aM : ∀ k s i, k ≠ 43 → k ≠ 44 → k ≠ 10 → hM.1 k s i = hM0.1 k s i := fun k s i a b c => f5 k s i (fun q => a q.1) (fun q => b q.1) (fun q => c q.1)
  have hS : ∀ t, CpS hC0 hM0 hC hM t t := by
    intro t
    refine ⟨fun k hk => ⟨?_, ?_, ?_, ?_, ?_, ?_, ?_, ?_, ?_, ?_, ?_⟩, ?_, ?_, ?_⟩ <;> intros <;> first | exact aC _ _ _ (by decide) (by decide) | exact aM _ _ _ (by decide) (by decide) (by decide)
  have hM' : ∀ t, CpM hM0 hM t t := by
    intro t
    refine ⟨fun i hi => aM _ _ _ (by decide) (by decide) (by decide), aM _ _ _ (by decide) (by decide) (by decide), aM _ _ _ (by decide) (by decide) (by decide)⟩
  have hC' : ∀ t, CpC hC0 hC t t := by
    intro t
    refine ⟨fun i hi => aC _ _ _ (by decide) (by decide), f4 _ _ _ (by omega) (by omega), f4 _ _ _ (by omega) (by omega)⟩
  refine ⟨h0.cp (hS 0) (hC' 0) (hM' 0) (fun j hj => ?_) ⟨n, hn, f1, f2⟩, fun k hk => ?_, hKI hC0 hC (fun k s i hk => ?_) h2, h3.same ⟨fun i => aM _ _ _ (by decide) (by decide) (by decide), fun i => aM _ _ _ (by decide) (by decide) (by decide), f5 _ _ _ (by omega) (by omega) (by omega)⟩⟩
  · rw [Nat.mul_zero, Nat.zero_add]; exact f3 j hj
  · obtain ⟨f, g1, g2, g3, g4⟩ := h1 k hk
    refine ⟨f, g1, by rw [aC _ _ _ (by decide) (by decide)]; exact g2, by rw [aM _ _ _ (by decide) (by decide) (by decide)]; exact g3, fun hf => ?_⟩
    have ht := g4 hf
    obtain ⟨b1, ⟨n1, b2, b3, b4⟩, -⟩ := id ht
    refine ht.cp (hS _) (hC' _) (hM' _) (fun j hj => ?_) ⟨n1, b2, by rw [f4 _ _ _ (by omega) (by omega)]; exact b3, by rw [f5 _ _ _ (by omega) (by omega) (by omega)]; exact b4⟩
    rw [f4 36 _ _ (by omega) (by omega), f5 43 _ _ (by omega) (by omega) (by omega)]
    exact b1 j hj
  · refine f4 k s i (fun q => ?_) (fun q => ?_)
    · rw [q.1] at hk; simp [kkb] at hk
    · rw [q.1] at hk; simp [kkb] at hk
theorem FR.start {hC hM : Hp} (h : TRel hC hM 0) : ∃ n, n ≤ 600 ∧ FR hC hM hC hM n := by
  obtain ⟨h1, ⟨n, h2, h3, h4⟩, -⟩ := h
  refine ⟨n, h2, h3, h4, fun j hj => ?_, fun _ _ _ _ _ => rfl, fun _ _ _ _ _ _ => rfl⟩
  have := h1 j hj
  rw [Nat.mul_zero, Nat.zero_add] at this
  exact this
theorem FR.w10 {hC0 hM0 hC hM : Hp} {n : Nat} (v : Int32) (f : FR hC0 hM0 hC hM n) : FR hC0 hM0 hC (wr hM 10 0 0 v) n := by
  obtain ⟨f1, f2, f3, f4, f5⟩ := f
  refine ⟨f1, f2, f3, f4, fun k s i a b c => ?_⟩
  rw [wr_g, if_neg (fun q => c ⟨q.1, q.2.2⟩)]
  exact f5 k s i a b c
theorem FR.len {hC0 hM0 hC hM : Hp} {n : Nat} (m : Nat) (f : FR hC0 hM0 hC hM n) : FR hC0 hM0 (wr hC 7 0 1 (nI m)) (wa hM 44 0 0 (nI m)) m := by
  obtain ⟨f1, f2, f3, f4, f5⟩ := f
  refine ⟨rfl, rfl, f3, fun k s i a b => ?_, fun k s i a b c => ?_⟩
  · rw [wr_g, if_neg (fun q => b ⟨q.1, q.2.1, q.2.2⟩)]
    exact f4 k s i a b
  · rw [wa_g, if_neg (fun q => b ⟨q.1, q.2.2⟩)]
    exact f5 k s i a b c
theorem st_end {KI : Hp → Prop} (hKI : KStab KI) : Stp_end (Rel KI) := by
  intro a hC hM hR
  obtain ⟨n, hn, f⟩ := FR.start hR.1
  have f' := f.w10 0
  have e1 : rd hC 7 0 1 = nI n := f.1
  have e2 : ra (wr hM 10 0 0 0) 44 0 0 = nI n := f.2.1
  unfold fX11_end fX12_end
  simp only [lt_eq]
  rw [ck_p (show ib 0 4 = true from rfl), e2, in_eq, bnd_eq, ck_p (show ib 0 4 = true from rfl), e1]
  by_cases h1 : a < 0
  · rw [if_pos h1, if_pos (show a < 0 ∨ nI n < a from Or.inl h1), if_pos rfl]
    exact ⟨_, _, _, rfl, rfl, f'.rel hKI hn hR⟩
  · rw [if_neg h1]
    obtain ⟨j, hj, rfl⟩ := nI_of h1
    by_cases h2 : nI j ≤ nI n
    · have hjn : j ≤ n := by
        rcases Nat.lt_or_ge n j with q | q
        · exact absurd h2 (nI_ge q hj)
        · exact q
      rw [if_pos h2, if_neg (show ¬ (nI j < 0 ∨ nI n < nI j) from fun q => q.elim h1 (fun q => by rw [Int32.lt_iff_toInt_lt] at q; rw [Int32.le_iff_toInt_le] at h2; omega)), if_neg (by decide)]
      exact ⟨_, _, _, rfl, rfl, (f'.len j).rel hKI (by omega) hR⟩
    · rw [if_neg h2, if_pos (show nI j < 0 ∨ nI n < nI j from Or.inr (by rw [Int32.le_iff_toInt_le] at h2; rw [Int32.lt_iff_toInt_lt]; omega)), if_pos rfl]
      exact ⟨_, _, _, rfl, rfl, f'.rel hKI hn hR⟩
/-! one byte -/
def bC (v x : Int32) : Int32 := vp_nar .byte (((v.toUInt32 >>> (x.toUInt32 &&& Int32.toUInt32 31)).toInt32).toInt8.toInt32)
def bM (v x : Int32) : Int32 := vp_nar .byte ((v >>> (x &&& 31)).toInt8.toInt32)
theorem FR.put {hC0 hM0 hC hM : Hp} {n : Nat} (b : Int32) (hn : n < 600) (hb : fits .byte (.int b) = true) (f : FR hC0 hM0 hC hM n) : FR hC0 hM0 (wr (wa hC 36 0 (nI n) b) 7 0 1 (nI (n + 1))) (wa (wa hM 43 0 (nI n) b) 44 0 0 (nI (n + 1))) (n + 1) := by
  obtain ⟨f1, f2, f3, f4, f5⟩ := f
  have hc : (nI n).toNatClampNeg = n := nI_clamp (by omega)
  refine ⟨rfl, rfl, fun j hj => ?_, fun k s i a b => ?_, fun k s i a b c => ?_⟩
  · have e1 : (wr (wa hC 36 0 (nI n) b) 7 0 1 (nI (n + 1))).1 36 0 j = if j = n then b else hC.1 36 0 j := by
      rw [wr_g, if_neg (by omega), wa_g, hc]; simp [cnt, ctab]
    have e2 : (wa (wa hM 43 0 (nI n) b) 44 0 0 (nI (n + 1))).1 43 0 j = if j = n then b else hM.1 43 0 j := by
      rw [wa_g, if_neg (by omega), wa_g, hc]; simp [cnt, ctab]
    rw [e1, e2]
    by_cases hjn : j = n
    · rw [if_pos hjn, if_pos hjn]; exact ⟨rfl, hb⟩
    · rw [if_neg hjn, if_neg hjn]; exact f3 j hj
  · rw [wr_g, if_neg (fun q => b ⟨q.1, q.2.1, q.2.2⟩), wa_g, if_neg (fun q => a ⟨q.1, q.2.1⟩)]
    exact f4 k s i a b
  · rw [wa_g, if_neg (fun q => b ⟨q.1, q.2.2⟩), wa_g, hc, if_neg (fun q => a ⟨q.1, by omega⟩)]
    exact f5 k s i a b c
theorem add_step {h : Hp} {n m : Nat} {v x : Int32} {K : Hp → Option (Unit × Hp)} (h7 : h.1 7 0 1 = nI n) (hn : n < 600) (hx : ¬ x < 0) : itr1 (fX9_addBytes_l3 0 v K) (m + 1) x h = itr1 (fX9_addBytes_l3 0 v K) m (x + (-8)) (wr (wa h 36 0 (nI n) (bC v x)) 7 0 1 (nI (n + 1))) := by
  rw [itr1_s]
  have e : rd h 7 0 1 = nI n := h7
  conv => lhs; unfold fX9_addBytes_l3
  have e2 : ∀ b, rd (wa h 36 0 (nI n) b) 7 0 1 = nI n := fun b => h7
  rw [if_neg hx, e, if_neg (show ¬ (600 : Int32) ≤ nI n from nI_ge hn (by decide)), ck_p (ib_nI hn (by decide)), lt_eq, lt_eq, lt_eq, e2, nI_1]
  rfl
theorem four_step {h : Hp} {n m : Nat} {v x : Int32} {K : Hp → Option (Unit × Hp)} (h7 : h.1 44 0 0 = nI n) (hn : n < 600) (hx : ¬ x < 0) : itr1 (fX12_four_l3 v K) (m + 1) x h = itr1 (fX12_four_l3 v K) m (x + (-8)) (wa (wa h 43 0 (nI n) (bM v x)) 44 0 0 (nI (n + 1))) := by
  rw [itr1_s]
  have e : ra h 44 0 0 = nI n := h7
  conv => lhs; unfold fX12_four_l3
  have e2 : ∀ b, ra (wa h 43 0 (nI n) b) 44 0 0 = nI n := fun b => h7
  rw [if_neg hx, e, ck_p (show ib 0 4 = true from rfl), ck_p (ib_nI (show n < 2400 by omega) (by decide)), lt_eq, ck_p (show ib 0 4 = true from rfl), ck_p (show ib 0 4 = true from rfl), lt_eq, lt_eq, e2, nI_1]
  rfl
theorem sh_lo : ∀ x, x ≤ 24 → ((nI x).toUInt32 &&& Int32.toUInt32 31).toBitVec % 32 = BitVec.ofNat 32 x ∧ (nI x &&& 31).toBitVec.smod 32 = BitVec.ofNat 32 x := by decide
theorem byte_eq (v : Int32) : bC v 24 = bM v 24 ∧ bC v 16 = bM v 16 ∧ bC v 8 = bM v 8 ∧ bC v 0 = bM v 0 := by
  have key : ∀ x : Nat, x ≤ 24 → ((v.toUInt32 >>> ((nI x).toUInt32 &&& Int32.toUInt32 31)).toInt32).toInt8 = (v >>> (nI x &&& 31)).toInt8 := by
    intro x hx
    obtain ⟨s1, s2⟩ := sh_lo x hx
    apply Int8.toBitVec_inj.mp
    have e1 : ((v.toUInt32 >>> ((nI x).toUInt32 &&& Int32.toUInt32 31)).toInt32).toInt8.toBitVec = (v.toBitVec >>> x).signExtend 8 := by
      show (v.toBitVec >>> (((nI x).toUInt32 &&& Int32.toUInt32 31).toBitVec % 32)).signExtend 8 = _
      rw [s1, BitVec.ushiftRight_eq']
      simp [show x % 4294967296 = x by omega]
    have e2 : (v >>> (nI x &&& 31)).toInt8.toBitVec = (v.toBitVec.sshiftRight x).signExtend 8 := by
      show (v.toBitVec.sshiftRight' ((nI x &&& 31).toBitVec.smod 32)).signExtend 8 = _
      rw [s2, BitVec.sshiftRight_eq']
      simp [show x % 4294967296 = x by omega]
    rw [e1, e2]
    apply BitVec.eq_of_getLsbD_eq
    intro i hi
    rw [BitVec.getLsbD_signExtend, BitVec.getLsbD_signExtend, BitVec.getLsbD_ushiftRight, BitVec.getLsbD_sshiftRight]
    simp [show i < 32 by omega, show x + i < 32 by omega, show ¬ 32 ≤ i by omega]
  exact ⟨congrArg (fun y => vp_nar .byte (Int8.toInt32 y)) (key 24 (by omega)), congrArg (fun y => vp_nar .byte (Int8.toInt32 y)) (key 16 (by omega)), congrArg (fun y => vp_nar .byte (Int8.toInt32 y)) (key 8 (by omega)), congrArg (fun y => vp_nar .byte (Int8.toInt32 y)) (key 0 (by omega))⟩
theorem nar_fits (y : Int8) : fits .byte (.int (vp_nar .byte y.toInt32)) = true := by
  rw [vp_nar_byte]
  have e : y.toInt32.toInt = y.toInt := Int8.toInt_toInt32 y
  have l1 := Int8.le_toInt y
  have l2 := Int8.toInt_lt y
  simp [fits, narrow]
  rw [Int32.le_iff_toInt_le, Int32.le_iff_toInt_le, e]
  exact ⟨l1, by show y.toInt ≤ 127; omega⟩
theorem four_eq {hC0 hM0 hC hM : Hp} {n : Nat} (v : Int32) (hn : n + 4 ≤ 600) (f : FR hC0 hM0 hC hM n) : ∃ hC' hM', fX9_addBytes 0 v hC = some ((), hC') ∧ fX12_four v hM = some ((), hM') ∧ FR hC0 hM0 hC' hM' (n + 4) := by
  obtain ⟨e24, e16, e8, e0⟩ := byte_eq v
  have f1 := f.put (bC v 24) (by omega) (nar_fits _)
  have f2 := f1.put (bC v 16) (by omega) (nar_fits _)
  have f3 := f2.put (bC v 8) (by omega) (nar_fits _)
  have f4 := f3.put (bC v 0) (by omega) (nar_fits _)
  refine ⟨_, _, ?_, ?_, f4⟩
  · unfold fX9_addBytes
    rw [show FU = 3999995 + 1 + 1 + 1 + 1 + 1 from rfl, add_step f.1 (by omega) (by decide), show (24 : Int32) + (-8) = 16 from rfl, add_step f1.1 (by omega) (by decide), show (16 : Int32) + (-8) = 8 from rfl, add_step f2.1 (by omega) (by decide), show (8 : Int32) + (-8) = 0 from rfl, add_step f3.1 (by omega) (by decide), itr1_s]
    rfl
  · unfold fX12_four
    rw [show FU = 3999995 + 1 + 1 + 1 + 1 + 1 from rfl, four_step f.2.1 (by omega) (by decide), ← e24, four_step f1.2.1 (by omega) (by decide), show (24 : Int32) + (-8) = 16 from rfl, ← e16, four_step f2.2.1 (by omega) (by decide), show (16 : Int32) + (-8) = 8 from rfl, ← e8, four_step f3.2.1 (by omega) (by decide), show (8 : Int32) + (-8) = 0 from rfl, ← e0, itr1_s]
    rfl
theorem st_feed {KI : Hp → Prop} (hKI : KStab KI) : Stp_feed (Rel KI) := by
  intro a b c d e hC hM hR
  obtain ⟨n, hn, f⟩ := FR.start hR.1
  have f' := f.w10 0
  have e1 : rd hC 7 0 1 = nI n := f.1
  have e2 : ra (wr hM 10 0 0 0) 44 0 0 = nI n := f.2.1
  unfold fX11_feed fX12_feed
  simp only [lt_eq]
  rw [ck_p (show ib 0 4 = true from rfl), e1, e2, show nI n + (20 : Int32) = nI (n + 20) from nI_add n 20]
  by_cases h1 : n + 20 ≤ 600
  · rw [if_pos (show nI (n + 20) ≤ (600 : Int32) from nI_le h1 (by decide)), if_pos (show nI (n + 20) ≤ (600 : Int32) from nI_le h1 (by decide))]
    obtain ⟨c1, m1, p1, q1, g1⟩ := four_eq a (by omega) f'
    obtain ⟨c2, m2, p2, q2, g2⟩ := four_eq b (by omega) g1
    obtain ⟨c3, m3, p3, q3, g3⟩ := four_eq c (by omega) g2
    obtain ⟨c4, m4, p4, q4, g4⟩ := four_eq d (by omega) g3
    obtain ⟨c5, m5, p5, q5, g5⟩ := four_eq e (by omega) g4
    refine ⟨nI (n + 4 + 4 + 4 + 4 + 4), c5, m5, ?_, ?_, g5.rel hKI (by omega) hR⟩
    · rw [p1, bnd_eq, p2, bnd_eq, p3, bnd_eq, p4, bnd_eq, p5, bnd_eq, show rd c5 7 0 1 = _ from g5.1]
    · rw [q1, bnd_eq, q2, bnd_eq, q3, bnd_eq, q4, bnd_eq, q5, bnd_eq, ck_p (show ib 0 4 = true from rfl), show ra m5 44 0 0 = _ from g5.2.1]
  · rw [if_neg (show ¬ nI (n + 20) ≤ (600 : Int32) from nI_ge (show 600 < n + 20 by omega) (by omega)), if_neg (show ¬ nI (n + 20) ≤ (600 : Int32) from nI_ge (show 600 < n + 20 by omega) (by omega))]
    exact ⟨_, _, _, rfl, rfl, f'.rel hKI hn hR⟩
