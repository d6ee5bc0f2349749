/-! full, and the end of a line -/
theorem blame_no {h : Hp} {f w : Nat} (h3 : h.1 3 0 3 = nI f) (hf : f ≠ 0) (hf3 : f ≤ 3) : fX5_blame (nI w) h = some ((), h) := by
  unfold fX5_blame
  rw [show rd h 3 0 3 = nI f from h3, if_neg (show ¬ nI f = 0 from fun q => hf ((eq_n (b := 0) (by omega) (by decide)).mp q))]
theorem adds_no {h : Hp} {f w a y : Nat} (h16 : h.1 10 0 16 = nI f) (hf : f ≠ 0) (hf3 : f ≤ 3) (h17 : h.1 10 0 17 = nI y) (hya : y < a) (ha : a < 700) : fX12_addsFault (nI w) (nI a) h = some ((), h) := by
  unfold fX12_addsFault
  simp only [jn_eq, lt_eq]
  rw [show rd h 10 0 16 = nI f from h16, show rd h 10 0 17 = nI y from h17, if_neg (show ¬ nI f = 0 from fun q => hf ((eq_n (b := 0) (by omega) (by decide)).mp q)), if_neg (show ¬ nI a < nI y from fun q => by rw [lt_n (by omega) (by omega)] at q; omega), if_neg (show ¬ nI a = nI y from fun q => by rw [eq_n (by omega) (by omega)] at q; omega)]
/-- the class's and the reference's word on a full list -/
theorem full_step {hC hM : Hp} {f x a : Nat} (bC bM : Bool) (h : FLT hC hM f x) (hxa : x ≤ a) (ha : a < 700) (h9 : hC.1 3 0 9 = nI a) (hb : f = 0 → bC = bM) :
    ∃ f' hC' hM', (if bC = true then fX5_blame 3 hC else some ((), hC)) = some ((), hC') ∧ (if bM = true then fX12_addsFault 3 (nI a) hM else some ((), hM)) = some ((), hM') ∧ FLT hC' hM' f' (a + 1) ∧ (f' = 0 → f = 0 ∧ bC = false) ∧ (∀ k s i, ¬ (k = 3 ∧ (i = 3 ∨ i = 4)) → hC'.1 k s i = hC.1 k s i) ∧ (∀ k s i, ¬ (k = 10 ∧ (i = 16 ∨ i = 17)) → hM'.1 k s i = hM.1 k s i) ∧ hM'.2 = hM.2 := by
  by_cases hf : f = 0
  · have := hb hf
    subst this
    cases bC
    · exact ⟨f, hC, hM, rfl, rfl, h.mono (by omega) (by omega), fun _ => ⟨hf, rfl⟩, fun _ _ _ _ => rfl, fun _ _ _ _ => rfl, rfl⟩
    · obtain ⟨hC', hM', e1, e2, ⟨f', hf', fl⟩, k1, k2, k3⟩ := blame_both (w := 3) h hxa ha (Or.inr rfl) h9
      exact ⟨f', hC', hM', e1, e2, fl, fun q => absurd q hf', k1, k2, k3⟩
  · obtain ⟨h1, h2, h3, h4, h5⟩ := id h
    obtain ⟨y, y1, y2, y3, y4⟩ := h5 hf
    refine ⟨f, hC, hM, ?_, ?_, h.mono (by omega) (by omega), fun q => absurd q hf, fun _ _ _ _ => rfl, fun _ _ _ _ => rfl, rfl⟩
    · cases bC
      · rfl
      · exact blame_no (w := 3) h2 hf h1
    · cases bM
      · rfl
      · exact adds_no (w := 3) h3 hf h1 y4 (by omega) ha
theorem end_both {hC hM : Hp} {b : Nat → Nat} {n p : Nat} (cC : CT hC b n p) (cM : MTk hM b n (tq b n p)) :
    ∃ hA, fX5_nextToken hC = some ((), hA) ∧ (∀ k s j, k ≠ 3 → hA.1 k s j = hC.1 k s j) ∧ (∀ j, j = 3 ∨ j = 4 → hA.1 3 0 j = hC.1 3 0 j) ∧ ((rd hA 3 0 8 = 3 ∧ rd hM 10 0 12 = 4 ∧ CT hA b n (tr b n (tq b n p)) ∧ tq b n p < tr b n (tq b n p) ∧ ∃ hM', fX12_token hM = some ((), hM') ∧ MTk hM' b n (tq b n (tr b n (tq b n p))) ∧ (∀ k s j, k ≠ 10 → hM'.1 k s j = hM.1 k s j) ∧ (∀ j, j = 16 ∨ j = 17 ∨ j = 20 → hM'.1 10 0 j = hM.1 10 0 j)) ∨
      (¬ rd hA 3 0 8 = 3 ∧ ¬ rd hM 10 0 12 = 4 ∧ (∃ hR, fX5_refuse hA = some (0, hR) ∧ hR.1 3 0 3 = 1 ∧ hR.1 3 0 4 = nI (tq b n p)) ∧ ∃ hF, fX12_fails hM = some (0, hF) ∧ hF.1 10 0 15 = nI (tq b n p))) := by
  have hn : n ≤ 600 := cC.2.2.2.1
  have hpn : p ≤ n := cC.2.2.2.2.1
  have hqn := tq_le (b := b) hpn
  obtain ⟨u, h1, e1, c1, k1, p1, fr1⟩ := nextToken_wp cC
  refine ⟨h1, e1, fun k s j hk => fr1 k s j (fun q hq hcov => by
    simp [wX5_nextToken] at hq
    rcases hq with rfl | rfl | rfl <;> exact hk hcov.1.symm), fun j hj => by rcases hj with rfl | rfl <;> exact fr1.at 3 0 _ rfl, ?_⟩
  have i12 : rd hM 10 0 12 = nI (mk (tk b n (tq b n p))) := cM.2.2.2.2.2.1
  have i11 : hM.1 10 0 11 = nI (tq b n p) := cM.2.2.2.2.1
  have e8 : rd h1 3 0 8 = nI (tk b n (tq b n p)) := k1
  by_cases h3 : tk b n (tq b n p) = 3
  · left
    have i9 : hM.1 10 0 9 = nI (tr b n (tq b n p)) := cM.2.2.2.2.2.2.2.2 (by omega)
    obtain ⟨u2, h4, e4, t4, fr4⟩ := token_wp (show MT hM b n (tr b n (tq b n p)) from ⟨cM.1, i9, hn, tr_le hqn, cM.2.2.2.1⟩)
    refine ⟨by rw [e8, h3]; rfl, by rw [i12, h3]; rfl, c1, tr_gt (by omega) (by omega), h4, e4, t4, fun k s j hk => fr4 k s j (fun q hq hcov => by
      simp [wX12_token] at hq
      rcases hq with rfl | rfl | rfl | rfl <;> exact hk hcov.1.symm), fun j hj => by rcases hj with rfl | rfl | rfl <;> exact fr4.at 10 0 _ rfl⟩
  · right
    obtain ⟨hR, eR, r3, r4, -, -, -⟩ := refuse_eq p1
    obtain ⟨hF, eF, f15, -, -⟩ := fails_eq i11
    refine ⟨fun q => h3 ?_, fun q => h3 ?_, ⟨hR, eR, r3, r4⟩, hF, eF, f15⟩
    · rw [e8] at q
      exact (eq_n (b := 3) (by have := tk_lt b n (tq b n p); omega) (by decide)).mp q
    · rw [i12] at q
      exact (mk_eq (tk_lt b n _) 3 (by decide)).mp q
/-- the reference's line of a sort, with its semicolon and the next token -/
def mLine (s : Nat) (w : Int64) (a : Int32) (h : Hp) : Option (Int32 × Hp) :=
  bnd (if s = 0 then fX12_stageLine w a h else if s = 1 then fX12_showLine w a h else fX12_logLine w a h) fun z h6 =>
    if z = 0 then some (0, h6) else if rd h6 10 0 12 = 4 then (bnd (fX12_token h6) fun _ h11 => some (1, h11)) else fX12_fails h6
theorem nof_0 (h : Hp) : fX5_numbersOf (nI 0) h = some (nI 1, h) := rfl
theorem nof_1 (h : Hp) : fX5_numbersOf (nI 1) h = some (nI 1, h) := rfl
theorem nof_2 (h : Hp) : fX5_numbersOf (nI 2) h = some (nI 3, h) := rfl
theorem nof_3 (h : Hp) : fX5_numbersOf (nI 3) h = some (nI 0, h) := rfl
theorem nof_4 (h : Hp) : fX5_numbersOf (nI 4) h = some (nI 1, h) := rfl
theorem nof_5 (h : Hp) : fX5_numbersOf (nI 5) h = some (nI 1, h) := rfl
theorem nof_6 (h : Hp) : fX5_numbersOf (nI 6) h = some (nI 1, h) := rfl
theorem nof_7 (h : Hp) : fX5_numbersOf (nI 7) h = some (nI 1, h) := rfl
theorem nof_8 (h : Hp) : fX5_numbersOf (nI 8) h = some (nI 1, h) := rfl
theorem nof_9 (h : Hp) : fX5_numbersOf (nI 9) h = some (nI 2, h) := rfl
theorem nof_10 (h : Hp) : fX5_numbersOf (nI 10) h = some (nI 2, h) := rfl
section CB
variable {h : Hp} {v : Nat}
theorem rng (hv : v < 100) (lo hi : Nat) (hlo : lo < 100) (hhi : hi < 100) : (if nI v < nI lo then some ((0 : Int32), h) else if nI hi < nI v then some (0, h) else some (1, h)) = some (if lo ≤ v ∧ v ≤ hi then 1 else 0, h) := by
  simp only [lt_n (show v < 2 ^ 31 by omega) (show lo < 2 ^ 31 by omega), lt_n (show hi < 2 ^ 31 by omega) (show v < 2 ^ 31 by omega)]
  by_cases h1 : v < lo
  · rw [if_pos h1, if_neg (by omega)]
  · rw [if_neg h1]
    by_cases h2 : hi < v
    · rw [if_pos h2, if_neg (by omega)]
    · rw [if_neg h2, if_pos (by omega)]
theorem upto (hv : v < 100) (hi : Nat) (hhi : hi < 100) : (if nI hi < nI v then some ((0 : Int32), h) else some (1, h)) = some (if 0 ≤ v ∧ v ≤ hi then 1 else 0, h) := by
  simp only [lt_n (show hi < 2 ^ 31 by omega) (show v < 2 ^ 31 by omega)]
  by_cases h2 : hi < v
  · rw [if_pos h2, if_neg (by omega)]
  · rw [if_neg h2, if_pos (by omega)]
theorem below (hv : v < 100) (hi : Nat) (hhi : hi + 1 < 100) : (if nI (hi + 1) ≤ nI v then some ((0 : Int32), h) else some (1, h)) = some (if 0 ≤ v ∧ v ≤ hi then 1 else 0, h) := by
  simp only [le_n (show hi + 1 < 2 ^ 31 by omega) (show v < 2 ^ 31 by omega)]
  by_cases h2 : hi + 1 ≤ v
  · rw [if_pos h2, if_neg (by omega)]
  · rw [if_neg h2, if_pos (by omega)]
theorem cb_0 (hv : v < 100) (e : h.1 26 0 0 = nI v) : fX5_canBe (nI 0) (nI 0) h = some (if 1 ≤ v ∧ v ≤ 9 then 1 else 0, h) := by
  have := rng (h := h) hv 1 9 (by decide) (by decide)
  rw [← e] at this
  exact this
theorem cb_1 (hv : v < 100) (e : h.1 26 0 0 = nI v) : fX5_canBe (nI 1) (nI 0) h = some (if 0 ≤ v ∧ v ≤ 9 then 1 else 0, h) := by
  have := below (h := h) hv 9 (by decide)
  rw [← e] at this
  exact this
theorem cb_20 (hv : v < 100) (e : h.1 26 0 0 = nI v) : fX5_canBe (nI 2) (nI 0) h = some (if 0 ≤ v ∧ v ≤ 9 then 1 else 0, h) := by
  have := below (h := h) hv 9 (by decide)
  have e2 : fX5_canBeOfPlate (nI 0) h = some (if 0 ≤ v ∧ v ≤ 9 then 1 else 0, h) := by rw [← e] at this; exact this
  show bnd (fX5_canBeOfPlate (nI 0) h) (fun x8 h7 => ck (zk x8) (some (x8, h7))) = _
  rw [e2, bnd_eq]
  split <;> rfl
theorem cb_21 (hv : v < 100) (e : h.1 26 0 1 = nI v) : fX5_canBe (nI 2) (nI 1) h = some (if 1 ≤ v ∧ v ≤ 6 then 1 else 0, h) := by
  have := rng (h := h) hv 1 6 (by decide) (by decide)
  have e2 : fX5_canBeOfPlate (nI 1) h = some (if 1 ≤ v ∧ v ≤ 6 then 1 else 0, h) := by rw [← e] at this; exact this
  show bnd (fX5_canBeOfPlate (nI 1) h) (fun x8 h7 => ck (zk x8) (some (x8, h7))) = _
  rw [e2, bnd_eq]
  split <;> rfl
theorem cb_22 {u w : Nat} (hv : v < 100) (hu : u < 100) (hw : w = if u ≤ 6 then u else 6) (e1 : h.1 26 0 1 = nI u) (e : h.1 26 0 2 = nI v) : fX5_canBe (nI 2) (nI 2) h = some (if 1 ≤ v ∧ v ≤ w then 1 else 0, h) := by
  have q0 : ra h 26 0 2 = nI v := e
  have q1 : ra h 26 0 1 = nI u := e1
  have hw' : v ≤ w ↔ v ≤ 6 ∧ v ≤ u := by rw [hw]; split <;> omega
  have e2 : fX5_canBeOfPlate (nI 2) h = some (if 1 ≤ v ∧ v ≤ w then 1 else 0, h) := by
    unfold fX5_canBeOfPlate
    rw [if_neg (show ¬ nI 2 = 0 by decide), if_neg (show ¬ nI 2 = 1 by decide)]
    simp only [jn_eq, zk_0, zk_1, show ib 2 3 = true from rfl, show ib 1 3 = true from rfl, ck_t]
    rw [q0, q1]
    have g1 : (nI v < 1) ↔ v < 1 := lt_n (b := 1) (by omega) (by decide)
    have g2 : ((6 : Int32) < nI v) ↔ 6 < v := lt_n (a := 6) (by decide) (by omega)
    have g3 : (nI u < nI v) ↔ u < v := lt_n (by omega) (by omega)
    by_cases h1 : v < 1
    · rw [if_pos (g1.mpr h1), if_neg (by omega)]
    · rw [if_neg (fun q => h1 (g1.mp q))]
      by_cases h2 : 6 < v
      · rw [if_pos (g2.mpr h2), if_neg (by omega)]
      · rw [if_neg (fun q => h2 (g2.mp q))]
        by_cases h3 : u < v
        · rw [if_pos (g3.mpr h3), if_neg (by omega)]
        · rw [if_neg (fun q => h3 (g3.mp q)), if_pos (by omega)]
  show bnd (fX5_canBeOfPlate (nI 2) h) (fun x8 h7 => ck (zk x8) (some (x8, h7))) = _
  rw [e2, bnd_eq]
  by_cases hh : 1 ≤ v ∧ v ≤ w
  · rw [if_pos hh]; rfl
  · rw [if_neg hh]; rfl
theorem cb_8 (hv : v < 100) (e : h.1 26 0 0 = nI v) : fX5_canBe (nI 8) (nI 0) h = some (if 0 ≤ v ∧ v ≤ 4 then 1 else 0, h) := by
  have := upto (h := h) hv 4 (by decide)
  rw [← e] at this
  exact this
theorem cb_d {k : Nat} (hk : k = 4 ∨ k = 5 ∨ k = 6 ∨ k = 7 ∨ k = 9 ∨ k = 10) (hv : v < 100) (e : h.1 26 0 0 = nI v) : fX5_canBe (nI k) (nI 0) h = some (if 0 ≤ v ∧ v ≤ 4 then 1 else 0, h) := by
  have := below (h := h) hv 4 (by decide)
  rw [← e] at this
  rcases hk with rfl | rfl | rfl | rfl | rfl | rfl <;> exact this
theorem cb_f {k : Nat} (hk : k = 9 ∨ k = 10) (hv : v < 100) (e : h.1 26 0 1 = nI v) : fX5_canBe (nI k) (nI 1) h = some (if 0 ≤ v ∧ v ≤ 30 then 1 else 0, h) := by
  have := upto (h := h) hv 30 (by decide)
  rw [← e] at this
  rcases hk with rfl | rfl <;> exact this
end CB
