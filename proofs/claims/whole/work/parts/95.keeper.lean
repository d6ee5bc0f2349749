/-! the keeper goes through the stands -/
def exU (u : Nat → Nat) (i x : Nat) : Nat → Nat := fun j => if j = i then x else u j
def exS (u : Nat → Nat) : Nat → Nat
  | 0 => 0
  | k + 1 => exS u k + u k
theorem exU_p {u : Nat → Nat} {i x j : Nat} (h : j = i) : exU u i x j = x := by unfold exU; rw [if_pos h]
theorem exU_n {u : Nat → Nat} {i x j : Nat} (h : j ≠ i) : exU u i x j = u j := by unfold exU; rw [if_neg h]
theorem exS_le {u : Nat → Nat} (h : ∀ q, u q ≤ 6) : ∀ k, exS u k ≤ 6 * k := by
  intro k
  induction k with
  | zero => exact Nat.le_refl _
  | succ k ih =>
    have := h k
    show exS u k + u k ≤ _
    omega
theorem exS_up {u : Nat → Nat} {i x : Nat} (hx : x = u i + 1) : ∀ k, exS (exU u i x) k = exS u k + if i < k then 1 else 0 := by
  intro k
  induction k with
  | zero => rfl
  | succ k ih =>
    show exS (exU u i x) k + exU u i x k = exS u k + u k + _
    rw [ih]
    by_cases q : k = i
    · rw [exU_p q, if_neg (by omega), if_pos (by omega), hx, q]; omega
    · rw [exU_n q]
      by_cases q2 : i < k
      · rw [if_pos q2, if_pos (show i < k + 1 by omega)]; omega
      · rw [if_neg q2, if_neg (show ¬ i < k + 1 by omega)]; omega
/-- the stack: a row of kept runs from the first stand on -/
def DK (h : Hp) (G : KG) (f : Nat) (s : Nat → Nat) (D : Nat) (o mk : Nat → Nat) : Prop := h.1 0 0 3 = nI D ∧ (∀ k, k < D → h.1 17 0 k = nI (o k) ∧ o k < f ∧ mk (o k) = 1) ∧ (∀ k k', k < D → k' < D → o k = o k' → k = k') ∧ (0 < D → o 0 = 0) ∧ ∀ k, k + 1 < D → ∃ p, p < 5 ∧ kpN G (s (o k)) p = true ∧ s (o (k + 1)) = nxN G (s (o k)) p
/-- the marks -/
def DM (h : Hp) (n : Nat) (G : KG) (f : Nat) (s : Nat → Nat) (D : Nat) (o mk us : Nat → Nat) : Prop := (∀ q, q < f → h.1 14 0 q = nI (mk q) ∧ mk q ≤ 3) ∧ mk 0 ≠ 0 ∧ (∀ q, q < f → mk q = 1 → (∃ k, k < D ∧ o k = q) ∧ h.1 15 0 q = nI (us q) ∧ us q ≤ n) ∧ (∀ q, q < f → (mk q = 2 ∨ mk q = 3) → us q = n + 1) ∧ (∀ q, (f ≤ q ∨ mk q = 0) → us q = 0) ∧ ∀ q, q < f → mk q ≠ 0 → FW h G f s q n ∧ ∀ p j, p < us q → p < n → kpN G (s q) p = true → j < f → s j = nxN G (s q) p → mk j ≠ 0
/-- what is known of those that are done -/
def DT (h : Hp) (G : KG) (f : Nat) (s mk : Nat → Nat) (T : Nat → Option Nat) : Prop := (∀ q, T q ≠ none → q < f) ∧ (∀ q, q < f → mk q = 2 → ∃ w, T q = some w) ∧ (∀ q w, q < f → T q = some w → mk q = 2 ∧ h.1 16 0 q = nI w ∧ Lst G (s q) w ∧ w ≤ 10 * csN T 2200) ∧ ∀ q, q < f → mk q = 3 → h.1 16 0 q = 0 ∧ Ev G (s q)
def DI (h : Hp) (n : Nat) (G : KG) (f : Nat) (s : Nat → Nat) (D : Nat) (o mk us : Nat → Nat) (T : Nat → Option Nat) : Prop := KT h n G f s ∧ f ≤ 2191 ∧ 0 < f ∧ s 0 = c0N G ∧ DK h G f s D o mk ∧ DM h n G f s D o mk us ∧ DT h G f s mk T
theorem DI.us6 {h : Hp} {n : Nat} {G : KG} {f : Nat} {s : Nat → Nat} {D : Nat} {o mk us : Nat → Nat} {T : Nat → Option Nat} (d : DI h n G f s D o mk us T) (hn : n ≤ 5) : ∀ q, us q ≤ 6 := by
  obtain ⟨-, -, -, -, -, ⟨m1, -, m2, m3, m4, -⟩, -⟩ := d
  intro q
  by_cases hq : q < f
  · have := (m1 q hq).2
    rcases (show mk q = 0 ∨ mk q = 1 ∨ mk q = 2 ∨ mk q = 3 by omega) with e | e | e | e
    · have := m4 q (Or.inr e); omega
    · have := (m2 q hq e).2.2; omega
    · have := m3 q hq (Or.inl e); omega
    · have := m3 q hq (Or.inr e); omega
  · have := m4 q (Or.inl (by omega)); omega
theorem DI.deep {h : Hp} {n : Nat} {G : KG} {f : Nat} {s : Nat → Nat} {D : Nat} {o mk us : Nat → Nat} {T : Nat → Option Nat} (d : DI h n G f s D o mk us T) : D ≤ f := by
  obtain ⟨-, -, -, -, ⟨-, k1, k2, -, -⟩, -, -⟩ := d
  exact pig f D o (fun k hk => (k1 k hk).2.1) k2
theorem FW.cp {h h' : Hp} {G : KG} {f : Nat} {s : Nat → Nat} {i P : Nat} (e : ∀ p, p < P → h'.1 18 0 (5 * i + p) = h.1 18 0 (5 * i + p)) (w : FW h G f s i P) : FW h' G f s i P := fun p hp => by
  rw [e p hp]; exact w p hp
/-- a follower is tried that has been seen -/
theorem DI.tried {h h' : Hp} {n : Nat} {G : KG} {f : Nat} {s : Nat → Nat} {D : Nat} {o mk us : Nat → Nat} {T : Nat → Option Nat} (d : DI h n G f s D o mk us T) {i : Nat} (hi : i < f) (h1 : mk i = 1) (hp : us i < n) (hfo : ∀ j, kpN G (s i) (us i) = true → j < f → s j = nxN G (s i) (us i) → mk j ≠ 0) (e15 : h'.1 15 0 i = nI (us i + 1)) (ho : ∀ k s q, ¬ (k = 15 ∧ q = i) → h'.1 k s q = h.1 k s q) : DI h' n G f s D o mk (exU us i (us i + 1)) T := by
  obtain ⟨t, hf, h0, hs0, ⟨k0, k1, k2, k3, k4⟩, ⟨m1, m0, m2, m3, m4, m5⟩, ⟨t1, t2, t3, t4⟩⟩ := d
  refine ⟨t.cp (fun k q hk => ho k 0 q (by omega)), hf, h0, hs0, ⟨(ho 0 0 3 (by omega)).trans k0, fun k hk => ⟨(ho 17 0 k (by omega)).trans (k1 k hk).1, (k1 k hk).2⟩, k2, k3, k4⟩, ⟨fun q hq => ⟨(ho 14 0 q (by omega)).trans (m1 q hq).1, (m1 q hq).2⟩, m0, fun q hq e => ?_, fun q hq e => ?_, fun q hq => ?_, fun q hq e => ⟨(m5 q hq e).1.cp (fun p _ => ho 18 0 _ (by omega)), fun p j h1' h2' h3' h4' h5' => ?_⟩⟩, ⟨t1, t2, fun q w hq e => ⟨(t3 q w hq e).1, (ho 16 0 q (by omega)).trans (t3 q w hq e).2.1, (t3 q w hq e).2.2⟩, fun q hq e => ⟨(ho 16 0 q (by omega)).trans (t4 q hq e).1, (t4 q hq e).2⟩⟩⟩
  · refine ⟨(m2 q hq e).1, ?_⟩
    by_cases w : q = i
    · rw [exU_p w, w]; exact ⟨e15, by omega⟩
    · rw [exU_n w, ho 15 0 q (by omega)]; exact (m2 q hq e).2
  · have w : q ≠ i := fun w => by rw [w, h1] at e; omega
    rw [exU_n w]; exact m3 q hq e
  · have w : q ≠ i := fun w => by rw [w, h1] at hq; omega
    rw [exU_n w]; exact m4 q hq
  · by_cases w : q = i
    · rw [exU_p w] at h1'
      by_cases w2 : p = us i
      · rw [w, w2] at h3' h5'; exact hfo j h3' h4' h5'
      · exact (m5 q hq e).2 p j (by rw [w]; omega) h2' h3' h4' h5'
    · rw [exU_n w] at h1'
      exact (m5 q hq e).2 p j h1' h2' h3' h4' h5'
/-- a follower is entered -/
theorem DI.entered {h h' : Hp} {n : Nat} {G : KG} {f f' : Nat} {s s' : Nat → Nat} {D : Nat} {o mk us : Nat → Nat} {T : Nat → Option Nat} (hG : VG G) (hn : n ≤ 5) (d : DI h n G f s D o mk us T) {i j : Nat} (hD : 0 < D) (hi : o (D - 1) = i) (hp : us i < n) (hk : kpN G (s i) (us i) = true) (hj : j < f) (ej : s j = nxN G (s i) (us i)) (hmj : mk j = 0)
    (t' : KT h' n G f' s') (hff : f ≤ f') (hf' : f' ≤ 2191) (hs' : ∀ q, q < f → s' q = s q) (e3 : h'.1 0 0 3 = nI (D + 1)) (e17 : h'.1 17 0 D = nI j) (o17 : ∀ k, k ≠ D → h'.1 17 0 k = h.1 17 0 k) (e14 : h'.1 14 0 j = 1) (o14 : ∀ q, q < f → q ≠ j → h'.1 14 0 q = h.1 14 0 q) (z14 : ∀ q, f ≤ q → q < f' → h'.1 14 0 q = 0) (ej15 : h'.1 15 0 j = 0) (ei15 : h'.1 15 0 i = nI (us i + 1)) (o15 : ∀ q, q ≠ i → q ≠ j → h'.1 15 0 q = h.1 15 0 q) (fw : FW h' G f' s' j n) (o18 : ∀ q p, q ≠ j → p < 5 → h'.1 18 0 (5 * q + p) = h.1 18 0 (5 * q + p)) (o16 : ∀ q, h'.1 16 0 q = h.1 16 0 q) :
    DI h' n G f' s' (D + 1) (exU o D j) (fun q => if q < f then exU mk j 1 q else 0) (exU us i (us i + 1)) T := by
  have hDf := d.deep
  obtain ⟨t, hf, h0, hs0, ⟨k0, k1, k2, k3, k4⟩, ⟨m1, m0, m2, m3, m4, m5⟩, ⟨t1, t2, t3, t4⟩⟩ := d
  obtain ⟨i17, hif, hmi⟩ := k1 (D - 1) (by omega)
  rw [hi] at hif hmi
  have hij : i ≠ j := fun w => by rw [w, hmj] at hmi; omega
  have hoj : ∀ k, k < D → o k ≠ j := fun k hk' w => by have := (k1 k hk').2.2; rw [w, hmj] at this; omega
  have hMf : ∀ q, q < f → (if q < f then exU mk j 1 q else 0) = exU mk j 1 q := fun q hq => if_pos hq
  have hinj := t'.inj (by omega)
  refine ⟨t', hf', by omega, (hs' 0 h0).trans hs0, ⟨e3, fun k hk' => ?_, fun k k' hk' hk'' e => ?_, fun _ => ?_, fun k hk' => ?_⟩, ⟨fun q hq => ?_, ?_, fun q hq e => ?_, fun q hq e => ?_, fun q hq => ?_, fun q hq e => ?_⟩, ⟨fun q hq => by have := t1 q hq; omega, fun q hq e => ?_, fun q w hq e => ?_, fun q hq e => ?_⟩⟩
  · by_cases w : k = D
    · rw [exU_p w, w]
      refine ⟨e17, by omega, ?_⟩
      dsimp only
      rw [if_pos hj, exU_p rfl]
    · have hkD : k < D := by omega
      rw [exU_n w, o17 k w]
      refine ⟨(k1 k hkD).1, by have := (k1 k hkD).2.1; omega, ?_⟩
      dsimp only
      rw [if_pos (k1 k hkD).2.1, exU_n (hoj k hkD)]
      exact (k1 k hkD).2.2
  · by_cases w : k = D
    · by_cases w' : k' = D
      · omega
      · rw [exU_p w, exU_n w'] at e
        exact absurd e.symm (hoj k' (by omega))
    · by_cases w' : k' = D
      · rw [exU_n w, exU_p w'] at e
        exact absurd e (hoj k (by omega))
      · rw [exU_n w, exU_n w'] at e
        exact k2 k k' (by omega) (by omega) e
  · rw [exU_n (show 0 ≠ D by omega)]; exact k3 hD
  · by_cases w : k + 1 = D
    · rw [exU_p w, exU_n (show k ≠ D by omega), show o k = i by rw [← hi, ← w]; rfl, hs' i hif, hs' j hj]
      exact ⟨us i, by omega, hk, ej⟩
    · rw [exU_n w, exU_n (show k ≠ D by omega), hs' _ (k1 k (by omega)).2.1, hs' _ (k1 (k + 1) (by omega)).2.1]
      exact k4 k (by omega)
  · by_cases w : q < f
    · dsimp only
      rw [if_pos w]
      by_cases w2 : q = j
      · rw [exU_p w2, w2]; exact ⟨e14, by omega⟩
      · rw [exU_n w2, o14 q w w2]; exact m1 q w
    · dsimp only
      rw [if_neg w]; exact ⟨z14 q (by omega) hq, by omega⟩
  · dsimp only
    rw [if_pos h0]
    by_cases w2 : 0 = j
    · rw [exU_p w2]; omega
    · rw [exU_n w2]; exact m0
  · dsimp only at e
    have w : q < f := by
      apply Classical.byContradiction
      intro w
      rw [if_neg w] at e; omega
    rw [if_pos w] at e
    by_cases w2 : q = j
    · refine ⟨⟨D, by omega, by rw [exU_p rfl, w2]⟩, ?_, ?_⟩
      · rw [w2, exU_n (show j ≠ i from fun z => hij z.symm), m4 j (Or.inr hmj)]; exact ej15
      · rw [w2, exU_n (show j ≠ i from fun z => hij z.symm), m4 j (Or.inr hmj)]; omega
    · rw [exU_n w2] at e
      obtain ⟨⟨k, hk1, hk2⟩, e15, eu⟩ := m2 q w e
      refine ⟨⟨k, by omega, by rw [exU_n (show k ≠ D by omega)]; exact hk2⟩, ?_⟩
      by_cases w3 : q = i
      · rw [exU_p w3, w3]; exact ⟨ei15, by omega⟩
      · rw [exU_n w3, o15 q w3 w2]; exact ⟨e15, eu⟩
  · dsimp only at e
    have w : q < f := by
      apply Classical.byContradiction
      intro w
      rw [if_neg w] at e; omega
    rw [if_pos w] at e
    have w2 : q ≠ j := fun z => by rw [exU_p z] at e; omega
    rw [exU_n w2] at e
    have w3 : q ≠ i := fun z => by rw [z, hmi] at e; omega
    rw [exU_n w3]; exact m3 q w e
  · dsimp only at hq
    by_cases w : q < f
    · rw [if_pos w] at hq
      by_cases w2 : q = j
      · rw [exU_p w2] at hq; omega
      · rw [exU_n w2] at hq
        have e := hq.resolve_left (by omega)
        have w3 : q ≠ i := fun z => by rw [z, hmi] at e; omega
        rw [exU_n w3]; exact m4 q (Or.inr e)
    · rw [exU_n (show q ≠ i by omega)]; exact m4 q (Or.inl (by omega))
  · dsimp only at e
    have w : q < f := by
      apply Classical.byContradiction
      intro w
      rw [if_neg w] at e; exact e rfl
    rw [if_pos w] at e
    by_cases w2 : q = j
    · rw [w2]
      refine ⟨fw, fun p j' a1 => ?_⟩
      rw [exU_n (show j ≠ i from fun z => hij z.symm), m4 j (Or.inr hmj)] at a1
      omega
    · rw [exU_n w2] at e
      obtain ⟨f1, f2⟩ := m5 q w e
      refine ⟨fun p hp' => ?_, fun p j' a1 a2 a3 a4 a5 => ?_⟩
      · rw [o18 q p w2 (by omega), hs' q w]
        refine ⟨fun hk' => ?_, (f1 p hp').2⟩
        obtain ⟨j', b1, b2, b3⟩ := (f1 p hp').1 hk'
        exact ⟨j', by omega, (hs' j' b1).trans b2, b3⟩
      · rw [hs' q w] at a3 a5
        obtain ⟨j2, b1, b2, b3⟩ := (f1 p a2).1 a3
        have ejj : j' = j2 := hinj j' j2 a4 (by omega) (by rw [a5, hs' j2 b1, b2])
        dsimp only
        rw [ejj, if_pos b1]
        by_cases w4 : j2 = j
        · rw [exU_p w4]; omega
        · rw [exU_n w4]
          by_cases w3 : q = i
          · rw [exU_p w3] at a1
            by_cases w5 : p = us i
            · rw [w3, w5, ← ej] at b2
              exact absurd (t.inj (by omega) j2 j b1 hj b2) w4
            · exact f2 p j2 (by rw [w3]; omega) a2 a3 b1 b2
          · rw [exU_n w3] at a1
            exact f2 p j2 a1 a2 a3 b1 b2
  · dsimp only at e
    have w : q < f := by
      apply Classical.byContradiction
      intro w
      rw [if_neg w] at e; omega
    rw [if_pos w] at e
    have w2 : q ≠ j := fun z => by rw [exU_p z] at e; omega
    rw [exU_n w2] at e
    exact t2 q w e
  · have w' : q < f := t1 q (by rw [e]; exact fun z => by cases z)
    obtain ⟨b1, b2, b3, b4⟩ := t3 q w w' e
    have w2 : q ≠ j := fun z => by rw [z, hmj] at b1; omega
    dsimp only
    rw [if_pos w', exU_n w2, o16, hs' q w']
    exact ⟨b1, b2, b3, b4⟩
  · dsimp only at e
    have w : q < f := by
      apply Classical.byContradiction
      intro w
      rw [if_neg w] at e; omega
    rw [if_pos w] at e
    have w2 : q ≠ j := fun z => by rw [exU_p z] at e; omega
    rw [exU_n w2] at e
    rw [o16, hs' q w]
    exact t4 q w e
