/-! text() -/
def kin (s k : Nat) : Bool := if s = 0 then k == 6 || k == 33 || k == 34 || k == 35 else if s = 1 then k == 5 || k == 31 || k == 32 else k == 1 || k == 21 || k == 22 || k == 23
def wdh (s : Nat) : Nat := if s = 0 then 18 else if s = 1 then 81 else 26
theorem kin_no {s k : Nat} (hs : s < 3) (h0 : kin 0 k = false) (h1 : kin 1 k = false) (h2 : kin 2 k = false) : kin s k = false := by
  rcases (show s = 0 ∨ s = 1 ∨ s = 2 by omega) with rfl | rfl | rfl
  · exact h0
  · exact h1
  · exact h2
theorem rel_text {KI : Hp → Prop} (hKI : KStab KI) {hC hM hC' hM' : Hp} {s num : Nat} (hs : s < 3) (hnum : num < 2 ∨ num = 9) (R : Rel KI hC hM) (c' : Nat → Nat)
    (uC : ∀ k q i, k ≠ 3 → k ≠ 26 → ¬ (k = 7 ∧ q = 0) → ¬ (k = 37 ∧ q = 0) → ¬ (q = 8 ∧ (k = 6 ∨ k = 33 ∨ k = 34 ∨ k = 35 ∨ k = 5 ∨ k = 31 ∨ k = 32 ∨ k = 1 ∨ k = 21 ∨ k = 22 ∨ k = 23)) → ¬ (q = num ∧ kin s k = true) → hC'.1 k q i = hC.1 k q i)
    (uM : ∀ k i, k ≠ 10 → k ≠ 51 → k ≠ 52 → ¬ ((k = 44 ∨ k = 45 ∨ k = 46) ∧ i = 0) → ¬ (k = 47 ∧ i < 3) → ¬ (k = 48 + s ∧ wdh s * num ≤ i ∧ i < wdh s * num + wdh s) → hM'.1 k 0 i = hM.1 k 0 i)
    (hI : MInv hM') (f1 : hC'.1 7 0 1 = 0) (f2 : hM'.1 44 0 0 = 0) (f3 : hC'.1 7 0 2 = hM'.1 45 0 0) (f4 : hC'.1 7 0 3 = hM'.1 46 0 0)
    (cc : ∀ j, j < 3 → c' j ≤ 2 ∧ hC'.1 37 0 j = nI (c' j) ∧ hM'.1 47 0 j = nI (c' j))
    (hcnt : ∀ j k, j < 3 → k < c' j → (∃ c, c ≤ 2 ∧ hC.1 37 0 j = nI c ∧ k < c ∧ ¬ (j = s ∧ k = num)) ∨ (j = s ∧ k = num))
    (new : (s = 0 → num < 2 → StRel hC' hM' num) ∧ (s = 1 → num < 2 → ShRel hC' hM' num) ∧ (s = 2 → num < 2 → LgRel hC' hM' num)) : Rel KI hC' hM' := by
  obtain ⟨⟨t1, -, -, -, c0, c1, c2, ⟨v0, v1, v2⟩, ⟨e0, e1, e2⟩, -, h10, h11, h12⟩, hIm, hK, -⟩ := R
  have inj : ∀ {a b : Nat}, a ≤ 2 → b ≤ 2 → nI a = nI b → a = b := fun ha hb e => (eq_n (by omega) (by omega)).mp e
  refine ⟨⟨fun j hj => ?_, ⟨0, by omega, f1, f2⟩, f3, f4, c' 0, c' 1, c' 2, ⟨(cc 0 (by omega)).1, (cc 1 (by omega)).1, (cc 2 (by omega)).1⟩, ⟨(cc 0 (by omega)).2.1, (cc 1 (by omega)).2.1, (cc 2 (by omega)).2.1⟩, ⟨(cc 0 (by omega)).2.2, (cc 1 (by omega)).2.2, (cc 2 (by omega)).2.2⟩, fun k hk => ?_, fun k hk => ?_, fun k hk => ?_⟩, fun k hk => ?_, ?_, hI⟩
  · rw [uC 36 0 j (by decide) (by decide) (by decide) (by decide) (by decide) (fun w => by rw [kin_no hs (show kin 0 36 = false from rfl) (show kin 1 36 = false from rfl) (show kin 2 36 = false from rfl)] at w; cases w.2), uM 43 _ (by decide) (by decide) (by decide) (by omega) (by omega) (by omega)]
    exact t1 j hj
  · rw [Nat.mul_zero, Nat.zero_add]
    have hk2 : k < 2 := Nat.lt_of_lt_of_le hk (cc 0 (by omega)).1
    rcases hcnt 0 k (by omega) hk with ⟨c, w1, w2, w3, w4⟩ | ⟨w1, w2⟩
    · rw [inj w1 v0 (w2.symm.trans e0)] at w3
      have old := h10 k w3
      rw [Nat.mul_zero, Nat.zero_add] at old
      have nk : ∀ kk, kin 0 kk = true → ¬ (k = num ∧ kin s kk = true) := by
        rintro kk g ⟨rfl, w⟩
        rcases (show s = 0 ∨ s = 1 ∨ s = 2 by omega) with rfl | rfl | rfl
        · exact w4 ⟨rfl, rfl⟩
        · simp [kin] at g w; omega
        · simp [kin] at g w; omega
      refine old.cp (fun i hi => uC _ _ _ (by decide) (by decide) (by omega) (by omega) (by omega) (nk _ rfl)) (fun i hi => uC _ _ _ (by decide) (by decide) (by omega) (by omega) (by omega) (nk _ rfl)) (fun i hi => uC _ _ _ (by decide) (by decide) (by omega) (by omega) (by omega) (nk _ rfl)) (fun i hi => uC _ _ _ (by decide) (by decide) (by omega) (by omega) (by omega) (nk _ rfl)) (fun i hi => uM _ _ (by decide) (by decide) (by decide) (by omega) (by omega) ?_)
      rintro ⟨a1, a2, a3⟩
      obtain rfl : s = 0 := by omega
      rw [show wdh 0 = 18 from rfl] at a2 a3
      have : k ≠ num := fun e => w4 ⟨rfl, e⟩
      omega
    · exact w2 ▸ new.1 w1.symm (by omega)
  · rw [Nat.mul_zero, Nat.zero_add]
    have hk2 : k < 2 := Nat.lt_of_lt_of_le hk (cc 1 (by omega)).1
    rcases hcnt 1 k (by omega) hk with ⟨c, w1, w2, w3, w4⟩ | ⟨w1, w2⟩
    · rw [inj w1 v1 (w2.symm.trans e1)] at w3
      have old := h11 k w3
      rw [Nat.mul_zero, Nat.zero_add] at old
      have nk : ∀ kk, kin 1 kk = true → ¬ (k = num ∧ kin s kk = true) := by
        rintro kk g ⟨rfl, w⟩
        rcases (show s = 0 ∨ s = 1 ∨ s = 2 by omega) with rfl | rfl | rfl
        · simp [kin] at g w; omega
        · exact w4 ⟨rfl, rfl⟩
        · simp [kin] at g w; omega
      refine old.cp (fun i hi => uC _ _ _ (by decide) (by decide) (by omega) (by omega) (by omega) (nk _ rfl)) (fun i hi => uC _ _ _ (by decide) (by decide) (by omega) (by omega) (by omega) (nk _ rfl)) (fun i hi => uC _ _ _ (by decide) (by decide) (by omega) (by omega) (by omega) (nk _ rfl)) (fun i hi => uM _ _ (by decide) (by decide) (by decide) (by omega) (by omega) ?_)
      rintro ⟨a1, a2, a3⟩
      obtain rfl : s = 1 := by omega
      rw [show wdh 1 = 81 from rfl] at a2 a3
      have : k ≠ num := fun e => w4 ⟨rfl, e⟩
      omega
    · exact w2 ▸ new.2.1 w1.symm (by omega)
  · rw [Nat.mul_zero, Nat.zero_add]
    have hk2 : k < 2 := Nat.lt_of_lt_of_le hk (cc 2 (by omega)).1
    rcases hcnt 2 k (by omega) hk with ⟨c, w1, w2, w3, w4⟩ | ⟨w1, w2⟩
    · rw [inj w1 v2 (w2.symm.trans e2)] at w3
      have old := h12 k w3
      rw [Nat.mul_zero, Nat.zero_add] at old
      have nk : ∀ kk, kin 2 kk = true → ¬ (k = num ∧ kin s kk = true) := by
        rintro kk g ⟨rfl, w⟩
        rcases (show s = 0 ∨ s = 1 ∨ s = 2 by omega) with rfl | rfl | rfl
        · simp [kin] at g w; omega
        · simp [kin] at g w; omega
        · exact w4 ⟨rfl, rfl⟩
      refine old.cp (fun i hi => uC _ _ _ (by decide) (by decide) (by omega) (by omega) (by omega) (nk _ rfl)) (fun i hi => uC _ _ _ (by decide) (by decide) (by omega) (by omega) (by omega) (nk _ rfl)) (fun i hi => uC _ _ _ (by decide) (by decide) (by omega) (by omega) (by omega) (nk _ rfl)) (fun i hi => uC _ _ _ (by decide) (by decide) (by omega) (by omega) (by omega) (nk _ rfl)) (fun i hi => uM _ _ (by decide) (by decide) (by decide) (by omega) (by omega) ?_)
      rintro ⟨a1, a2, a3⟩
      obtain rfl : s = 2 := by omega
      rw [show wdh 2 = 26 from rfl] at a2 a3
      have : k ≠ num := fun e => w4 ⟨rfl, e⟩
      omega
    · exact w2 ▸ new.2.2 w1.symm (by omega)
  · obtain ⟨f, g1, g2, g3, g4⟩ := hIm k hk
    have nk : ∀ kk q, (q < 2 → kin 0 kk = false ∧ kin 1 kk = false ∧ kin 2 kk = false) → q ≠ 9 → ¬ (q = num ∧ kin s kk = true) := by
      rintro kk q a1 a2 ⟨rfl, w⟩
      have hq : q < 2 := by omega
      obtain ⟨b1, b2, b3⟩ := a1 hq
      rcases (show s = 0 ∨ s = 1 ∨ s = 2 by omega) with rfl | rfl | rfl
      · rw [b1] at w; cases w
      · rw [b2] at w; cases w
      · rw [b3] at w; cases w
    refine ⟨f, g1, ?_, ?_, fun hf => (g4 hf).sameT ⟨fun kk q i hq => ?_, fun kk i hq => ?_⟩⟩
    · rw [uC 42 0 k (by decide) (by decide) (by decide) (by decide) (by decide) (nk 42 0 (fun _ => ⟨rfl, rfl, rfl⟩) (by decide))]; exact g2
    · rw [uM 67 k (by decide) (by decide) (by decide) (by omega) (by omega) (by omega)]; exact g3
    · simp [tcb] at hq
      refine uC _ _ _ (by omega) (by omega) (by omega) (by omega) (by omega) (nk _ _ (fun hq2 => ?_) (by omega))
      have : (kk = 7 ∨ kk = 36 ∨ kk = 37) := by omega
      rcases this with rfl | rfl | rfl <;> exact ⟨rfl, rfl, rfl⟩
    · simp [tmb] at hq
      refine uM _ _ (by omega) (by omega) (by omega) (by omega) (by omega) ?_
      rintro ⟨a1, a2, a3⟩
      rcases (show s = 0 ∨ s = 1 ∨ s = 2 by omega) with rfl | rfl | rfl
      · rw [show wdh 0 = 18 from rfl] at a2 a3
        omega
      · rw [show wdh 1 = 81 from rfl] at a2 a3
        omega
      · rw [show wdh 2 = 26 from rfl] at a2 a3
        omega
  · refine hKI _ _ (fun k q i hk => ?_) hK
    simp [kkb] at hk
    refine uC _ _ _ (by omega) (by omega) (by omega) (by omega) (by omega) ?_
    rintro ⟨rfl, w⟩
    rcases (show s = 0 ∨ s = 1 ∨ s = 2 by omega) with rfl | rfl | rfl
    · simp [kin] at w; omega
    · simp [kin] at w; omega
    · simp [kin] at w; omega
