/-- the class's number b of all that is told becomes number a -/
def CCp (h h' : Hp) (b a : Nat) : Prop :=
  (∀ i, i < 600 → h'.1 36 a i = h.1 36 b i) ∧ h'.1 7 a 1 = h.1 7 b 1 ∧ h'.1 7 a 2 = h.1 7 b 2 ∧ h'.1 7 a 3 = h.1 7 b 3 ∧ (∀ i, i < 3 → h'.1 37 a i = h.1 37 b i) ∧
  (∀ k, k < 2 → ∀ q i, (q = 6 ∧ i < 3) ∨ (q = 5 ∧ i < 1) ∨ (q = 1 ∧ i < 2) ∨ ((q = 33 ∨ q = 34 ∨ q = 35) ∧ i < 5) ∨ ((q = 31 ∨ q = 32) ∧ i < 40) ∨ ((q = 21 ∨ q = 22 ∨ q = 23) ∧ i < 8) → h'.1 q (2 * a + k) i = h.1 q (2 * b + k) i) ∧
  ∀ k s i, tcb a k s = false → h'.1 k s i = h.1 k s i
theorem copy9 {a b : Nat} (h : Hp) (ha : a < 4) (hb : b < 4) (hab : a ≠ b) (hf : ∀ j, j < 600 → fits .byte (.int (h.1 36 b j)) = true) : ∃ h', fX9_copyFrom a b h = some ((), h') ∧ CCp h h' b a := by
  have hfit : fitB h 36 b 600 = true := by
    unfold fitB
    rw [List.all_eq_true]
    intro j hj
    rw [List.mem_range] at hj
    rw [Nat.mod_eq_of_lt (show b < cnt 36 from hb)]
    exact hf j hj
  have c7 : cnt 7 = 4 := rfl
  have c36 : cnt 36 = 4 := rfl
  have c37 : cnt 37 = 4 := rfl
  have c38 : cnt 38 = 4 := rfl
  have c39 : cnt 39 = 4 := rfl
  have c40 : cnt 40 = 4 := rfl
  obtain ⟨h5, e5, g5⟩ : ∃ h5, (cpy (wr (wr (wr (cpy h 36 b 36 a 600) 7 a 1 (rd (cpy h 36 b 36 a 600) 7 b 1)) 7 a 2 (rd (wr (cpy h 36 b 36 a 600) 7 a 1 (rd (cpy h 36 b 36 a 600) 7 b 1)) 7 b 2)) 7 a 3 (rd (wr (wr (cpy h 36 b 36 a 600) 7 a 1 (rd (cpy h 36 b 36 a 600) 7 b 1)) 7 a 2 (rd (wr (cpy h 36 b 36 a 600) 7 a 1 (rd (cpy h 36 b 36 a 600) 7 b 1)) 7 b 2)) 7 b 3)) 37 b 37 a 3) = h5 ∧ ∀ k s i, h5.1 k s i = if s = a ∧ ((k = 36 ∧ i < 600) ∨ (k = 7 ∧ (i = 1 ∨ i = 2 ∨ i = 3)) ∨ (k = 37 ∧ i < 3)) then h.1 k b i else h.1 k s i := by
    refine ⟨_, rfl, fun k s i => ?_⟩
    simp only [cpy_g, wr_g, rd_g, c7, c36, c37, Nat.mod_eq_of_lt ha, Nat.mod_eq_of_lt hb]
    by_cases hs : s = a
    · subst hs
      by_cases k7 : k = 7
      · subst k7
        rcases (show i = 1 ∨ i = 2 ∨ i = 3 ∨ (i ≠ 1 ∧ i ≠ 2 ∧ i ≠ 3) by omega) with rfl | rfl | rfl | q
        · simp
        · simp
        · simp
        · simp [q]
      · by_cases k36 : k = 36
        · subst k36; simp
        · by_cases k37 : k = 37
          · subst k37; simp
          · simp [k7, k36, k37]
    · simp [hs]
  obtain ⟨h6, e6, g6⟩ := cp8 h5 (show 2 * a < cnt 6 by show _ < 12; omega) (show 2 * b < cnt 6 by show _ < 12; omega) (by omega)
  obtain ⟨h7, e7, g7⟩ := cp7 h6 (show 2 * a < cnt 5 by show _ < 9; omega) (show 2 * b < cnt 5 by show _ < 9; omega) (by omega)
  obtain ⟨h8, e8, g8⟩ := cp3 h7 (show 2 * a < cnt 1 by show _ < 9; omega) (show 2 * b < cnt 1 by show _ < 9; omega) (by omega)
  obtain ⟨h9, e9, g9⟩ := cp8 h8 (show 2 * a + 1 < cnt 6 by show _ < 12; omega) (show 2 * b + 1 < cnt 6 by show _ < 12; omega) (by omega)
  obtain ⟨h10, e10, g10⟩ := cp7 h9 (show 2 * a + 1 < cnt 5 by show _ < 9; omega) (show 2 * b + 1 < cnt 5 by show _ < 9; omega) (by omega)
  obtain ⟨h11, e11, g11⟩ := cp3 h10 (show 2 * a + 1 < cnt 1 by show _ < 9; omega) (show 2 * b + 1 < cnt 1 by show _ < 9; omega) (by omega)
  refine ⟨h11, ?_, ?_⟩
  · unfold fX9_copyFrom
    rw [ck_p hfit]
    simp only [lt_eq, ck_t]
    rw [e5, show FU = 3999997 + 1 + 1 + 1 from rfl, itr1_s]
    unfold fX9_copyFrom_l56
    rw [if_neg (by decide)]
    simp only [c38, c39, c40, Nat.mod_eq_of_lt ha, Nat.mod_eq_of_lt hb, show Int32.toNatClampNeg 0 = 0 from rfl, Nat.mul_zero, Nat.add_zero, show ib 0 2 = true from rfl, ck_t, e6, e7, e8, bnd_eq, lt_eq]
    rw [itr1_s, if_neg (by decide)]
    simp only [show Int32.toNatClampNeg (0 + 1) = 1 from rfl, Nat.mul_one, Nat.add_zero, show ib (0 + 1) 2 = true from rfl, ck_t, e9, e10, e11, bnd_eq, lt_eq]
    rw [itr1_s, if_pos (by decide)]
  · have no : ∀ k s i, tcb a k s = false → h11.1 k s i = h.1 k s i := by
      intro k s i hk
      simp [tcb] at hk
      rw [g11, if_neg (by omega), g10, if_neg (by omega), g9, if_neg (by omega), g8, if_neg (by omega), g7, if_neg (by omega), g6, if_neg (by omega), g5, if_neg (by omega)]
    have up : ∀ k i, (k = 36 ∨ k = 7 ∨ k = 37) → h11.1 k a i = h5.1 k a i := by
      intro k i hk
      rw [g11, if_neg (by omega), g10, if_neg (by omega), g9, if_neg (by omega), g8, if_neg (by omega), g7, if_neg (by omega), g6, if_neg (by omega)]
    refine ⟨fun i hi => ?_, ?_, ?_, ?_, fun i hi => ?_, fun k hk q i hq => ?_, no⟩
    · rw [up _ _ (by decide), g5, if_pos ⟨rfl, by omega⟩]
    · rw [up _ _ (by decide), g5, if_pos ⟨rfl, by omega⟩]
    · rw [up _ _ (by decide), g5, if_pos ⟨rfl, by omega⟩]
    · rw [up _ _ (by decide), g5, if_pos ⟨rfl, by omega⟩]
    · rw [up _ _ (by decide), g5, if_pos ⟨rfl, by omega⟩]
    · rcases (show k = 0 ∨ k = 1 by omega) with rfl | rfl
      · rw [g11, if_neg (by omega), g10, if_neg (by omega), g9, if_neg (by omega)]
        rcases hq with hq | hq | hq | hq | hq | hq
        · rw [g8, if_neg (by omega), g7, if_neg (by omega), g6, if_pos ⟨by omega, by omega⟩, g5, if_neg (by omega)]; rfl
        · rw [g8, if_neg (by omega), g7, if_pos ⟨by omega, by omega⟩, g6, if_neg (by omega), g5, if_neg (by omega)]; rfl
        · rw [g8, if_pos ⟨by omega, by omega⟩, g7, if_neg (by omega), g6, if_neg (by omega), g5, if_neg (by omega)]; rfl
        · rw [g8, if_neg (by omega), g7, if_neg (by omega), g6, if_pos ⟨by omega, by omega⟩, g5, if_neg (by omega)]; rfl
        · rw [g8, if_neg (by omega), g7, if_pos ⟨by omega, by omega⟩, g6, if_neg (by omega), g5, if_neg (by omega)]; rfl
        · rw [g8, if_pos ⟨by omega, by omega⟩, g7, if_neg (by omega), g6, if_neg (by omega), g5, if_neg (by omega)]; rfl
      · have dn : ∀ s, (s = 2 * b + 1 ∨ s = 2 * a + 1) → h8.1 q s i = h.1 q s i := by
          intro s hs
          rw [g8, if_neg (by omega), g7, if_neg (by omega), g6, if_neg (by omega), g5, if_neg (by omega)]
        rcases hq with hq | hq | hq | hq | hq | hq
        · rw [g11, if_neg (by omega), g10, if_neg (by omega), g9, if_pos ⟨by omega, by omega⟩, dn _ (by omega)]
        · rw [g11, if_neg (by omega), g10, if_pos ⟨by omega, by omega⟩, g9, if_neg (by omega), dn _ (by omega)]
        · rw [g11, if_pos ⟨by omega, by omega⟩, g10, if_neg (by omega), g9, if_neg (by omega), dn _ (by omega)]
        · rw [g11, if_neg (by omega), g10, if_neg (by omega), g9, if_pos ⟨by omega, by omega⟩, dn _ (by omega)]
        · rw [g11, if_neg (by omega), g10, if_pos ⟨by omega, by omega⟩, g9, if_neg (by omega), dn _ (by omega)]
        · rw [g11, if_pos ⟨by omega, by omega⟩, g10, if_neg (by omega), g9, if_neg (by omega), dn _ (by omega)]
theorem TRel.copy {hC hM hC' hM' : Hp} {b a : Nat} (c : CCp hC hC' b a) (m : MCp hM hM' b a) (h : TRel hC hM b) : TRel hC' hM' a := by
  obtain ⟨c1, c2, c3, c4, c5, c6, -⟩ := c
  obtain ⟨m1, m2, m3, m4, m5, m6, m7, m8, -⟩ := m
  have h' := h
  obtain ⟨a1, ⟨n, a2, a3, a4⟩, -⟩ := h'
  refine h.cp ⟨fun k hk => ⟨fun i hi => c6 k hk _ i (by omega), fun i hi => c6 k hk _ i (by omega), fun i hi => c6 k hk _ i (by omega), fun i hi => c6 k hk _ i (by omega), fun i hi => c6 k hk _ i (by omega), fun i hi => c6 k hk _ i (by omega), fun i hi => c6 k hk _ i (by omega), fun i hi => c6 k hk _ i (by omega), fun i hi => c6 k hk _ i (by omega), fun i hi => c6 k hk _ i (by omega), fun i hi => c6 k hk _ i (by omega)⟩, m6, m7, m8⟩ ⟨c5, c3, c4⟩ ⟨m5, m3, m4⟩ (fun j hj => ?_) ⟨n, a2, c2.trans a3, m2.trans a4⟩
  rw [c1 j hj, m1 j hj]
  exact a1 j hj
theorem TRel.keep {hC hM hC' hM' : Hp} {b a t : Nat} (hta : t ≠ a) (c : CCp hC hC' b a) (m : MCp hM hM' b a) (h : TRel hC hM t) : TRel hC' hM' t := by
  refine h.sameT ⟨fun k s i hk => c.2.2.2.2.2.2 k s i ?_, fun k i hk => m.2.2.2.2.2.2.2.2 k 0 i ?_⟩
  · cases q : tcb a k s
    · rfl
    · exfalso
      simp [tcb] at hk q
      omega
  · cases q : tmb a k i
    · rfl
    · exfalso
      simp [tmb] at hk q
      omega
