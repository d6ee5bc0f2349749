/-! what belongs to number t of all that is told -/
def tcb (t k s : Nat) : Bool := ((k == 7 || k == 36 || k == 37) && s == t) || ((k == 6 || k == 33 || k == 34 || k == 35 || k == 5 || k == 31 || k == 32 || k == 1 || k == 21 || k == 22 || k == 23) && (s == 2 * t || s == 2 * t + 1))
def tmb (t k i : Nat) : Bool := (k == 43 && decide (600 * t ≤ i) && decide (i < 600 * t + 600)) || ((k == 44 || k == 45 || k == 46) && i == t) || (k == 47 && decide (3 * t ≤ i) && decide (i < 3 * t + 3)) || (k == 48 && decide (36 * t ≤ i) && decide (i < 36 * t + 36)) || (k == 49 && decide (162 * t ≤ i) && decide (i < 162 * t + 162)) || (k == 50 && decide (52 * t ≤ i) && decide (i < 52 * t + 52))
def SameT (t : Nat) (hC hM hC' hM' : Hp) : Prop := (∀ k s i, tcb t k s = true → hC'.1 k s i = hC.1 k s i) ∧ (∀ k i, tmb t k i = true → hM'.1 k 0 i = hM.1 k 0 i)
theorem StRel.sameT {hC hM hC' hM' : Hp} {t k : Nat} (hk : k < 2) (e : SameT t hC hM hC' hM') (h : StRel hC hM (2 * t + k)) : StRel hC' hM' (2 * t + k) := by
  obtain ⟨sp, st, n, pl, li, le, hv, ⟨c1, c2, c3, c4⟩, ⟨m1, m2, m3, m4⟩⟩ := h
  have hn := hv.2.2.2.1
  have hs : (2 * t + k == 2 * t || 2 * t + k == 2 * t + 1) = true := by
    rcases (show k = 0 ∨ k = 1 by omega) with rfl | rfl <;> simp
  have b6 : tcb t 6 (2 * t + k) = true := by simp [tcb, hs]
  have b33 : tcb t 33 (2 * t + k) = true := by simp [tcb, hs]
  have b34 : tcb t 34 (2 * t + k) = true := by simp [tcb, hs]
  have b35 : tcb t 35 (2 * t + k) = true := by simp [tcb, hs]
  have bm : ∀ q, q < 18 → tmb t 48 (18 * (2 * t + k) + q) = true := by intro q hq; simp [tmb]; omega
  refine ⟨sp, st, n, pl, li, le, hv, ⟨by rw [e.1 _ _ _ b6]; exact c1, by rw [e.1 _ _ _ b6]; exact c2, by rw [e.1 _ _ _ b6]; exact c3, fun p hp => ?_⟩, ⟨by have d0 := e.2 48 _ (bm 0 (by omega)); rw [Nat.add_zero] at d0; rw [d0]; exact m1, by rw [e.2 48 _ (bm 1 (by omega))]; exact m2, by rw [e.2 48 _ (bm 2 (by omega))]; exact m3, fun p hp => ?_⟩⟩
  · rw [e.1 _ _ _ b33, e.1 _ _ _ b34, e.1 _ _ _ b35]; exact c4 p hp
  · rw [Nat.add_assoc, Nat.add_assoc (18 * (2 * t + k)) 8, Nat.add_assoc (18 * (2 * t + k)) 13, e.2 48 _ (bm (3 + p) (by omega)), e.2 48 _ (bm (8 + p) (by omega)), e.2 48 _ (bm (13 + p) (by omega)), ← Nat.add_assoc, ← Nat.add_assoc, ← Nat.add_assoc]; exact m4 p hp
theorem ShRel.sameT {hC hM hC' hM' : Hp} {t k : Nat} (hk : k < 2) (e : SameT t hC hM hC' hM') (h : ShRel hC hM (2 * t + k)) : ShRel hC' hM' (2 * t + k) := by
  obtain ⟨n, kd, pt, hv, ⟨c1, c2⟩, ⟨m1, m2⟩⟩ := h
  have hn := hv.1
  have hs : (2 * t + k == 2 * t || 2 * t + k == 2 * t + 1) = true := by
    rcases (show k = 0 ∨ k = 1 by omega) with rfl | rfl <;> simp
  have b5 : tcb t 5 (2 * t + k) = true := by simp [tcb, hs]
  have b31 : tcb t 31 (2 * t + k) = true := by simp [tcb, hs]
  have b32 : tcb t 32 (2 * t + k) = true := by simp [tcb, hs]
  have bm : ∀ q, q < 81 → tmb t 49 (81 * (2 * t + k) + q) = true := by intro q hq; simp [tmb]; omega
  refine ⟨n, kd, pt, hv, ⟨by rw [e.1 _ _ _ b5]; exact c1, fun p hp => ?_⟩, ⟨by have d0 := e.2 49 _ (bm 0 (by omega)); rw [Nat.add_zero] at d0; rw [d0]; exact m1, fun p hp => ?_⟩⟩
  · rw [e.1 _ _ _ b31, e.1 _ _ _ b32]; exact c2 p hp
  · have b1 := e.2 49 _ (bm (1 + 2 * p) (by omega))
    have b2 := e.2 49 _ (bm (2 + 2 * p) (by omega))
    rw [← Nat.add_assoc] at b1 b2
    rw [b1, b2]; exact m2 p hp
theorem LgRel.sameT {hC hM hC' hM' : Hp} {t k : Nat} (hk : k < 2) (e : SameT t hC hM hC' hM') (h : LgRel hC hM (2 * t + k)) : LgRel hC' hM' (2 * t + k) := by
  obtain ⟨r, n, sd, pt, bt, hv, ⟨c1, c2, c3⟩, ⟨m1, m2, m3⟩⟩ := h
  have hn := hv.2.1
  have hs : (2 * t + k == 2 * t || 2 * t + k == 2 * t + 1) = true := by
    rcases (show k = 0 ∨ k = 1 by omega) with rfl | rfl <;> simp
  have b1 : tcb t 1 (2 * t + k) = true := by simp [tcb, hs]
  have b21 : tcb t 21 (2 * t + k) = true := by simp [tcb, hs]
  have b22 : tcb t 22 (2 * t + k) = true := by simp [tcb, hs]
  have b23 : tcb t 23 (2 * t + k) = true := by simp [tcb, hs]
  have bm : ∀ q, q < 26 → tmb t 50 (26 * (2 * t + k) + q) = true := by intro q hq; simp [tmb]; omega
  refine ⟨r, n, sd, pt, bt, hv, ⟨by rw [e.1 _ _ _ b1]; exact c1, by rw [e.1 _ _ _ b1]; exact c2, fun p hp => ?_⟩, ⟨by have d0 := e.2 50 _ (bm 0 (by omega)); rw [Nat.add_zero] at d0; rw [d0]; exact m1, by rw [e.2 50 _ (bm 1 (by omega))]; exact m2, fun p hp => ?_⟩⟩
  · rw [e.1 _ _ _ b21, e.1 _ _ _ b22, e.1 _ _ _ b23]; exact c3 p hp
  · have d1 := e.2 50 _ (bm (2 + 3 * p) (by omega))
    have d2 := e.2 50 _ (bm (3 + 3 * p) (by omega))
    have d3 := e.2 50 _ (bm (4 + 3 * p) (by omega))
    rw [← Nat.add_assoc] at d1 d2 d3
    rw [d1, d2, d3]; exact m3 p hp
theorem TRel.sameT {hC hM hC' hM' : Hp} {t : Nat} (e : SameT t hC hM hC' hM') (h : TRel hC hM t) : TRel hC' hM' t := by
  obtain ⟨h1, ⟨n, h2, h3, h4⟩, h5, h6, c0, c1, c2, ⟨v0, v1, v2⟩, h8, h9, h10, h11, h12⟩ := h
  have b7 : tcb t 7 t = true := by simp [tcb]
  have b36 : tcb t 36 t = true := by simp [tcb]
  have b37 : tcb t 37 t = true := by simp [tcb]
  have q44 : tmb t 44 t = true := by simp [tmb]
  have q45 : tmb t 45 t = true := by simp [tmb]
  have q46 : tmb t 46 t = true := by simp [tmb]
  have q47 : ∀ q, q < 3 → tmb t 47 (3 * t + q) = true := by intro q hq; simp [tmb]; omega
  refine ⟨fun j hj => ?_, ⟨n, h2, by rw [e.1 _ _ _ b7]; exact h3, by rw [e.2 44 _ q44]; exact h4⟩, ?_, ?_, c0, c1, c2, ⟨v0, v1, v2⟩, ?_, ?_, fun k hk => (h10 k hk).sameT (by omega) e, fun k hk => (h11 k hk).sameT (by omega) e, fun k hk => (h12 k hk).sameT (by omega) e⟩
  · rw [e.1 _ _ _ b36, e.2 43 _ (by simp [tmb]; omega)]; exact h1 j hj
  · rw [e.1 _ _ _ b7, e.2 45 _ q45]; exact h5
  · rw [e.1 _ _ _ b7, e.2 46 _ q46]; exact h6
  · rw [e.1 _ _ _ b37, e.1 _ _ _ b37, e.1 _ _ _ b37]; exact h8
  · have d0 := e.2 47 _ (q47 0 (by omega))
    rw [Nat.add_zero] at d0
    rw [d0, e.2 47 _ (q47 1 (by omega)), e.2 47 _ (q47 2 (by omega))]; exact h9
