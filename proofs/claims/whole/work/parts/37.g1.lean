/-! image and again: rows copied -/
def CpRow (h h' : Hp) (k w a b : Nat) : Prop := (∀ i, i < w → h'.1 k 0 (w * b + i) = h.1 k 0 (w * a + i)) ∧ ∀ k' s i, ¬ (k' = k ∧ w * b ≤ i ∧ i < w * b + w) → h'.1 k' s i = h.1 k' s i
theorem fits_nar {x : Int32} (h : fits .byte (.int x) = true) : vp_nar .byte x = x := by
  have h2 : -128 ≤ x ∧ x ≤ 127 := by simpa [fits] using h
  rw [vp_nar_byte]
  apply Int32.toInt_inj.mp
  rw [Int8.toInt_toInt32, Int32.toInt_toInt8]
  obtain ⟨l1, l2⟩ := h2
  rw [Int32.le_iff_toInt_le] at l1 l2
  have l1' : (-128 : Int) ≤ x.toInt := l1
  have l2' : x.toInt ≤ (127 : Int) := l2
  unfold Int.bmod
  dsimp only
  split <;> omega
theorem cpr_43 {P : Unit → Hp → Prop} {K : Hp → Option (Unit × Hp)} {a b : Nat} {h : Hp} (ha : a < 4) (hb : b < 4) (hab : a ≠ b) (hf : ∀ j, j < 600 → fits .byte (.int (h.1 43 0 (600 * a + j))) = true) (hK : ∀ h', CpRow h h' 43 600 a b → WP (K h') P) : WP (itr1 (fX12_copyAll_l2 (nI a) (nI b) K) FU 0 h) P := by
  refine wp_itr1 (fun m x h1 => ∃ i, i ≤ 600 ∧ m = 600 - i ∧ x = nI i ∧ (∀ j, j < i → h1.1 43 0 (600 * b + j) = h.1 43 0 (600 * a + j)) ∧ ∀ k' s j, ¬ (k' = 43 ∧ 600 * b ≤ j ∧ j < 600 * b + i) → h1.1 k' s j = h.1 k' s j) ?_ FU 600 _ _ (by decide) ⟨0, by omega, rfl, rfl, fun j hj => absurd hj (Nat.not_lt_zero _), fun _ _ _ _ => rfl⟩
  rintro m x h1 rec ⟨i, hi, rfl, rfl, e1, e2⟩ hrec
  unfold fX12_copyAll_l2
  refine wp_if (fun hc => ?_) (fun hc => ?_)
  · have h5 : ¬ i < 600 := fun q => nI_ge q (by decide) hc
    have : i = 600 := by omega
    subst this
    exact hK h1 ⟨e1, e2⟩
  · have hi' : i < 600 := by
      rcases Nat.lt_or_ge i 600 with q | q
      · exact q
      · exact absurd (nI_le q (by omega)) hc
    have q1 : (600 : Int32) * nI a + nI i = nI (600 * a + i) := by rw [show (600 : Int32) = nI 600 from rfl, nI_mul, nI_add]
    have q2 : (600 : Int32) * nI b + nI i = nI (600 * b + i) := by rw [show (600 : Int32) = nI 600 from rfl, nI_mul, nI_add]
    have q3 : h1.1 43 (0 % cnt 43) (600 * a + i) = h.1 43 0 (600 * a + i) := e2 _ _ _ (by omega)
    rw [q1, q2, ck_p (ib_nI (show 600 * a + i < 2400 by omega) (by decide)), ck_p (ib_nI (show 600 * b + i < 2400 by omega) (by decide)), lt_eq, lt_eq, nI_1, ra_n (by omega), q3, fits_nar (hf i hi')]
    refine hrec (600 - (i + 1)) _ _ (by omega) ⟨i + 1, by omega, rfl, rfl, fun j hj => ?_, fun k' s j hj => ?_⟩
    · rw [wa_g, nI_clamp (by omega)]
      by_cases hji : j = i
      · subst hji; rw [if_pos ⟨rfl, rfl, rfl⟩]
      · rw [if_neg (by omega)]; exact e1 j (by omega)
    · rw [wa_g, nI_clamp (by omega), if_neg (by omega)]
      exact e2 k' s j (by omega)
theorem cpr_44 {a b : Nat} {h : Hp} (ha : a < 4) (hb : b < 4) (hab : a ≠ b) : WP (fX12_copyRow_44 1 (nI a) (nI b) h) (fun _ h' => CpRow h h' 44 1 a b) := by
  unfold fX12_copyRow_44
  refine wp_itr1 (fun m x h1 => ∃ i, i ≤ 1 ∧ m = 1 - i ∧ x = nI i ∧ (∀ j, j < i → h1.1 44 0 (1 * b + j) = h.1 44 0 (1 * a + j)) ∧ ∀ k' s j, ¬ (k' = 44 ∧ 1 * b ≤ j ∧ j < 1 * b + i) → h1.1 k' s j = h.1 k' s j) ?_ FU 1 _ _ (by decide) ⟨0, by omega, rfl, rfl, fun j hj => absurd hj (Nat.not_lt_zero _), fun _ _ _ _ => rfl⟩
  rintro m x h1 rec ⟨i, hi, rfl, rfl, e1, e2⟩ hrec
  unfold fX12_copyRow_44_l3
  refine wp_if (fun hc => ?_) (fun hc => ?_)
  · have h5 : ¬ i < 1 := fun q => nI_ge q (by decide) hc
    have : i = 1 := by omega
    subst this
    exact wp_some ⟨e1, e2⟩
  · have hi' : i < 1 := by
      rcases Nat.lt_or_ge i 1 with q | q
      · exact q
      · exact absurd (nI_le q (by omega)) hc
    have q1 : (1 : Int32) * nI a + nI i = nI (1 * a + i) := by rw [show (1 : Int32) = nI 1 from rfl, nI_mul, nI_add]
    have q2 : (1 : Int32) * nI b + nI i = nI (1 * b + i) := by rw [show (1 : Int32) = nI 1 from rfl, nI_mul, nI_add]
    have q3 : h1.1 44 (0 % cnt 44) (1 * a + i) = h.1 44 0 (1 * a + i) := e2 _ _ _ (by omega)
    rw [q1, q2, ck_p (ib_nI (show 1 * a + i < 4 by omega) (by decide)), ck_p (ib_nI (show 1 * b + i < 4 by omega) (by decide)), lt_eq, lt_eq, nI_1, ra_n (by omega), q3]
    refine hrec (1 - (i + 1)) _ _ (by omega) ⟨i + 1, by omega, rfl, rfl, fun j hj => ?_, fun k' s j hj => ?_⟩
    · rw [wa_g, nI_clamp (by omega)]
      by_cases hji : j = i
      · subst hji; rw [if_pos ⟨rfl, rfl, rfl⟩]
      · rw [if_neg (by omega)]; exact e1 j (by omega)
    · rw [wa_g, nI_clamp (by omega), if_neg (by omega)]
      exact e2 k' s j (by omega)
theorem cpr_45 {a b : Nat} {h : Hp} (ha : a < 4) (hb : b < 4) (hab : a ≠ b) : WP (fX12_copyRow_45 1 (nI a) (nI b) h) (fun _ h' => CpRow h h' 45 1 a b) := by
  unfold fX12_copyRow_45
  refine wp_itr1 (fun m x h1 => ∃ i, i ≤ 1 ∧ m = 1 - i ∧ x = nI i ∧ (∀ j, j < i → h1.1 45 0 (1 * b + j) = h.1 45 0 (1 * a + j)) ∧ ∀ k' s j, ¬ (k' = 45 ∧ 1 * b ≤ j ∧ j < 1 * b + i) → h1.1 k' s j = h.1 k' s j) ?_ FU 1 _ _ (by decide) ⟨0, by omega, rfl, rfl, fun j hj => absurd hj (Nat.not_lt_zero _), fun _ _ _ _ => rfl⟩
  rintro m x h1 rec ⟨i, hi, rfl, rfl, e1, e2⟩ hrec
  unfold fX12_copyRow_45_l3
  refine wp_if (fun hc => ?_) (fun hc => ?_)
  · have h5 : ¬ i < 1 := fun q => nI_ge q (by decide) hc
    have : i = 1 := by omega
    subst this
    exact wp_some ⟨e1, e2⟩
  · have hi' : i < 1 := by
      rcases Nat.lt_or_ge i 1 with q | q
      · exact q
      · exact absurd (nI_le q (by omega)) hc
    have q1 : (1 : Int32) * nI a + nI i = nI (1 * a + i) := by rw [show (1 : Int32) = nI 1 from rfl, nI_mul, nI_add]
    have q2 : (1 : Int32) * nI b + nI i = nI (1 * b + i) := by rw [show (1 : Int32) = nI 1 from rfl, nI_mul, nI_add]
    have q3 : h1.1 45 (0 % cnt 45) (1 * a + i) = h.1 45 0 (1 * a + i) := e2 _ _ _ (by omega)
    rw [q1, q2, ck_p (ib_nI (show 1 * a + i < 4 by omega) (by decide)), ck_p (ib_nI (show 1 * b + i < 4 by omega) (by decide)), lt_eq, lt_eq, nI_1, ra_n (by omega), q3]
    refine hrec (1 - (i + 1)) _ _ (by omega) ⟨i + 1, by omega, rfl, rfl, fun j hj => ?_, fun k' s j hj => ?_⟩
    · rw [wa_g, nI_clamp (by omega)]
      by_cases hji : j = i
      · subst hji; rw [if_pos ⟨rfl, rfl, rfl⟩]
      · rw [if_neg (by omega)]; exact e1 j (by omega)
    · rw [wa_g, nI_clamp (by omega), if_neg (by omega)]
      exact e2 k' s j (by omega)
theorem cpr_46 {a b : Nat} {h : Hp} (ha : a < 4) (hb : b < 4) (hab : a ≠ b) : WP (fX12_copyRow_46 1 (nI a) (nI b) h) (fun _ h' => CpRow h h' 46 1 a b) := by
  unfold fX12_copyRow_46
  refine wp_itr1 (fun m x h1 => ∃ i, i ≤ 1 ∧ m = 1 - i ∧ x = nI i ∧ (∀ j, j < i → h1.1 46 0 (1 * b + j) = h.1 46 0 (1 * a + j)) ∧ ∀ k' s j, ¬ (k' = 46 ∧ 1 * b ≤ j ∧ j < 1 * b + i) → h1.1 k' s j = h.1 k' s j) ?_ FU 1 _ _ (by decide) ⟨0, by omega, rfl, rfl, fun j hj => absurd hj (Nat.not_lt_zero _), fun _ _ _ _ => rfl⟩
  rintro m x h1 rec ⟨i, hi, rfl, rfl, e1, e2⟩ hrec
  unfold fX12_copyRow_46_l3
  refine wp_if (fun hc => ?_) (fun hc => ?_)
  · have h5 : ¬ i < 1 := fun q => nI_ge q (by decide) hc
    have : i = 1 := by omega
    subst this
    exact wp_some ⟨e1, e2⟩
  · have hi' : i < 1 := by
      rcases Nat.lt_or_ge i 1 with q | q
      · exact q
      · exact absurd (nI_le q (by omega)) hc
    have q1 : (1 : Int32) * nI a + nI i = nI (1 * a + i) := by rw [show (1 : Int32) = nI 1 from rfl, nI_mul, nI_add]
    have q2 : (1 : Int32) * nI b + nI i = nI (1 * b + i) := by rw [show (1 : Int32) = nI 1 from rfl, nI_mul, nI_add]
    have q3 : h1.1 46 (0 % cnt 46) (1 * a + i) = h.1 46 0 (1 * a + i) := e2 _ _ _ (by omega)
    rw [q1, q2, ck_p (ib_nI (show 1 * a + i < 4 by omega) (by decide)), ck_p (ib_nI (show 1 * b + i < 4 by omega) (by decide)), lt_eq, lt_eq, nI_1, ra_n (by omega), q3]
    refine hrec (1 - (i + 1)) _ _ (by omega) ⟨i + 1, by omega, rfl, rfl, fun j hj => ?_, fun k' s j hj => ?_⟩
    · rw [wa_g, nI_clamp (by omega)]
      by_cases hji : j = i
      · subst hji; rw [if_pos ⟨rfl, rfl, rfl⟩]
      · rw [if_neg (by omega)]; exact e1 j (by omega)
    · rw [wa_g, nI_clamp (by omega), if_neg (by omega)]
      exact e2 k' s j (by omega)
theorem cpr_47 {a b : Nat} {h : Hp} (ha : a < 4) (hb : b < 4) (hab : a ≠ b) : WP (fX12_copyRow_47 3 (nI a) (nI b) h) (fun _ h' => CpRow h h' 47 3 a b) := by
  unfold fX12_copyRow_47
  refine wp_itr1 (fun m x h1 => ∃ i, i ≤ 3 ∧ m = 3 - i ∧ x = nI i ∧ (∀ j, j < i → h1.1 47 0 (3 * b + j) = h.1 47 0 (3 * a + j)) ∧ ∀ k' s j, ¬ (k' = 47 ∧ 3 * b ≤ j ∧ j < 3 * b + i) → h1.1 k' s j = h.1 k' s j) ?_ FU 3 _ _ (by decide) ⟨0, by omega, rfl, rfl, fun j hj => absurd hj (Nat.not_lt_zero _), fun _ _ _ _ => rfl⟩
  rintro m x h1 rec ⟨i, hi, rfl, rfl, e1, e2⟩ hrec
  unfold fX12_copyRow_47_l3
  refine wp_if (fun hc => ?_) (fun hc => ?_)
  · have h5 : ¬ i < 3 := fun q => nI_ge q (by decide) hc
    have : i = 3 := by omega
    subst this
    exact wp_some ⟨e1, e2⟩
  · have hi' : i < 3 := by
      rcases Nat.lt_or_ge i 3 with q | q
      · exact q
      · exact absurd (nI_le q (by omega)) hc
    have q1 : (3 : Int32) * nI a + nI i = nI (3 * a + i) := by rw [show (3 : Int32) = nI 3 from rfl, nI_mul, nI_add]
    have q2 : (3 : Int32) * nI b + nI i = nI (3 * b + i) := by rw [show (3 : Int32) = nI 3 from rfl, nI_mul, nI_add]
    have q3 : h1.1 47 (0 % cnt 47) (3 * a + i) = h.1 47 0 (3 * a + i) := e2 _ _ _ (by omega)
    rw [q1, q2, ck_p (ib_nI (show 3 * a + i < 12 by omega) (by decide)), ck_p (ib_nI (show 3 * b + i < 12 by omega) (by decide)), lt_eq, lt_eq, nI_1, ra_n (by omega), q3]
    refine hrec (3 - (i + 1)) _ _ (by omega) ⟨i + 1, by omega, rfl, rfl, fun j hj => ?_, fun k' s j hj => ?_⟩
    · rw [wa_g, nI_clamp (by omega)]
      by_cases hji : j = i
      · subst hji; rw [if_pos ⟨rfl, rfl, rfl⟩]
      · rw [if_neg (by omega)]; exact e1 j (by omega)
    · rw [wa_g, nI_clamp (by omega), if_neg (by omega)]
      exact e2 k' s j (by omega)
theorem cpr_48 {a b : Nat} {h : Hp} (ha : a < 4) (hb : b < 4) (hab : a ≠ b) : WP (fX12_copyRow_48 36 (nI a) (nI b) h) (fun _ h' => CpRow h h' 48 36 a b) := by
  unfold fX12_copyRow_48
  refine wp_itr1 (fun m x h1 => ∃ i, i ≤ 36 ∧ m = 36 - i ∧ x = nI i ∧ (∀ j, j < i → h1.1 48 0 (36 * b + j) = h.1 48 0 (36 * a + j)) ∧ ∀ k' s j, ¬ (k' = 48 ∧ 36 * b ≤ j ∧ j < 36 * b + i) → h1.1 k' s j = h.1 k' s j) ?_ FU 36 _ _ (by decide) ⟨0, by omega, rfl, rfl, fun j hj => absurd hj (Nat.not_lt_zero _), fun _ _ _ _ => rfl⟩
  rintro m x h1 rec ⟨i, hi, rfl, rfl, e1, e2⟩ hrec
  unfold fX12_copyRow_48_l3
  refine wp_if (fun hc => ?_) (fun hc => ?_)
  · have h5 : ¬ i < 36 := fun q => nI_ge q (by decide) hc
    have : i = 36 := by omega
    subst this
    exact wp_some ⟨e1, e2⟩
  · have hi' : i < 36 := by
      rcases Nat.lt_or_ge i 36 with q | q
      · exact q
      · exact absurd (nI_le q (by omega)) hc
    have q1 : (36 : Int32) * nI a + nI i = nI (36 * a + i) := by rw [show (36 : Int32) = nI 36 from rfl, nI_mul, nI_add]
    have q2 : (36 : Int32) * nI b + nI i = nI (36 * b + i) := by rw [show (36 : Int32) = nI 36 from rfl, nI_mul, nI_add]
    have q3 : h1.1 48 (0 % cnt 48) (36 * a + i) = h.1 48 0 (36 * a + i) := e2 _ _ _ (by omega)
    rw [q1, q2, ck_p (ib_nI (show 36 * a + i < 144 by omega) (by decide)), ck_p (ib_nI (show 36 * b + i < 144 by omega) (by decide)), lt_eq, lt_eq, nI_1, ra_n (by omega), q3]
    refine hrec (36 - (i + 1)) _ _ (by omega) ⟨i + 1, by omega, rfl, rfl, fun j hj => ?_, fun k' s j hj => ?_⟩
    · rw [wa_g, nI_clamp (by omega)]
      by_cases hji : j = i
      · subst hji; rw [if_pos ⟨rfl, rfl, rfl⟩]
      · rw [if_neg (by omega)]; exact e1 j (by omega)
    · rw [wa_g, nI_clamp (by omega), if_neg (by omega)]
      exact e2 k' s j (by omega)
theorem cpr_49 {a b : Nat} {h : Hp} (ha : a < 4) (hb : b < 4) (hab : a ≠ b) : WP (fX12_copyRow_49 162 (nI a) (nI b) h) (fun _ h' => CpRow h h' 49 162 a b) := by
  unfold fX12_copyRow_49
  refine wp_itr1 (fun m x h1 => ∃ i, i ≤ 162 ∧ m = 162 - i ∧ x = nI i ∧ (∀ j, j < i → h1.1 49 0 (162 * b + j) = h.1 49 0 (162 * a + j)) ∧ ∀ k' s j, ¬ (k' = 49 ∧ 162 * b ≤ j ∧ j < 162 * b + i) → h1.1 k' s j = h.1 k' s j) ?_ FU 162 _ _ (by decide) ⟨0, by omega, rfl, rfl, fun j hj => absurd hj (Nat.not_lt_zero _), fun _ _ _ _ => rfl⟩
  rintro m x h1 rec ⟨i, hi, rfl, rfl, e1, e2⟩ hrec
  unfold fX12_copyRow_49_l3
  refine wp_if (fun hc => ?_) (fun hc => ?_)
  · have h5 : ¬ i < 162 := fun q => nI_ge q (by decide) hc
    have : i = 162 := by omega
    subst this
    exact wp_some ⟨e1, e2⟩
  · have hi' : i < 162 := by
      rcases Nat.lt_or_ge i 162 with q | q
      · exact q
      · exact absurd (nI_le q (by omega)) hc
    have q1 : (162 : Int32) * nI a + nI i = nI (162 * a + i) := by rw [show (162 : Int32) = nI 162 from rfl, nI_mul, nI_add]
    have q2 : (162 : Int32) * nI b + nI i = nI (162 * b + i) := by rw [show (162 : Int32) = nI 162 from rfl, nI_mul, nI_add]
    have q3 : h1.1 49 (0 % cnt 49) (162 * a + i) = h.1 49 0 (162 * a + i) := e2 _ _ _ (by omega)
    rw [q1, q2, ck_p (ib_nI (show 162 * a + i < 648 by omega) (by decide)), ck_p (ib_nI (show 162 * b + i < 648 by omega) (by decide)), lt_eq, lt_eq, nI_1, ra_n (by omega), q3]
    refine hrec (162 - (i + 1)) _ _ (by omega) ⟨i + 1, by omega, rfl, rfl, fun j hj => ?_, fun k' s j hj => ?_⟩
    · rw [wa_g, nI_clamp (by omega)]
      by_cases hji : j = i
      · subst hji; rw [if_pos ⟨rfl, rfl, rfl⟩]
      · rw [if_neg (by omega)]; exact e1 j (by omega)
    · rw [wa_g, nI_clamp (by omega), if_neg (by omega)]
      exact e2 k' s j (by omega)
theorem cpr_50 {a b : Nat} {h : Hp} (ha : a < 4) (hb : b < 4) (hab : a ≠ b) : WP (fX12_copyRow_50 52 (nI a) (nI b) h) (fun _ h' => CpRow h h' 50 52 a b) := by
  unfold fX12_copyRow_50
  refine wp_itr1 (fun m x h1 => ∃ i, i ≤ 52 ∧ m = 52 - i ∧ x = nI i ∧ (∀ j, j < i → h1.1 50 0 (52 * b + j) = h.1 50 0 (52 * a + j)) ∧ ∀ k' s j, ¬ (k' = 50 ∧ 52 * b ≤ j ∧ j < 52 * b + i) → h1.1 k' s j = h.1 k' s j) ?_ FU 52 _ _ (by decide) ⟨0, by omega, rfl, rfl, fun j hj => absurd hj (Nat.not_lt_zero _), fun _ _ _ _ => rfl⟩
  rintro m x h1 rec ⟨i, hi, rfl, rfl, e1, e2⟩ hrec
  unfold fX12_copyRow_50_l3
  refine wp_if (fun hc => ?_) (fun hc => ?_)
  · have h5 : ¬ i < 52 := fun q => nI_ge q (by decide) hc
    have : i = 52 := by omega
    subst this
    exact wp_some ⟨e1, e2⟩
  · have hi' : i < 52 := by
      rcases Nat.lt_or_ge i 52 with q | q
      · exact q
      · exact absurd (nI_le q (by omega)) hc
    have q1 : (52 : Int32) * nI a + nI i = nI (52 * a + i) := by rw [show (52 : Int32) = nI 52 from rfl, nI_mul, nI_add]
    have q2 : (52 : Int32) * nI b + nI i = nI (52 * b + i) := by rw [show (52 : Int32) = nI 52 from rfl, nI_mul, nI_add]
    have q3 : h1.1 50 (0 % cnt 50) (52 * a + i) = h.1 50 0 (52 * a + i) := e2 _ _ _ (by omega)
    rw [q1, q2, ck_p (ib_nI (show 52 * a + i < 208 by omega) (by decide)), ck_p (ib_nI (show 52 * b + i < 208 by omega) (by decide)), lt_eq, lt_eq, nI_1, ra_n (by omega), q3]
    refine hrec (52 - (i + 1)) _ _ (by omega) ⟨i + 1, by omega, rfl, rfl, fun j hj => ?_, fun k' s j hj => ?_⟩
    · rw [wa_g, nI_clamp (by omega)]
      by_cases hji : j = i
      · subst hji; rw [if_pos ⟨rfl, rfl, rfl⟩]
      · rw [if_neg (by omega)]; exact e1 j (by omega)
    · rw [wa_g, nI_clamp (by omega), if_neg (by omega)]
      exact e2 k' s j (by omega)
/-- the reference's row a of all that is told becomes row b -/
def MCp (h h' : Hp) (a b : Nat) : Prop :=
  (∀ i, i < 600 → h'.1 43 0 (600 * b + i) = h.1 43 0 (600 * a + i)) ∧ h'.1 44 0 b = h.1 44 0 a ∧ h'.1 45 0 b = h.1 45 0 a ∧ h'.1 46 0 b = h.1 46 0 a ∧
  (∀ i, i < 3 → h'.1 47 0 (3 * b + i) = h.1 47 0 (3 * a + i)) ∧ (∀ i, i < 36 → h'.1 48 0 (36 * b + i) = h.1 48 0 (36 * a + i)) ∧ (∀ i, i < 162 → h'.1 49 0 (162 * b + i) = h.1 49 0 (162 * a + i)) ∧ (∀ i, i < 52 → h'.1 50 0 (52 * b + i) = h.1 50 0 (52 * a + i)) ∧
  ∀ k s i, tmb b k i = false → h'.1 k s i = h.1 k s i
theorem copyAll_wp {a b : Nat} {h : Hp} (ha : a < 4) (hb : b < 4) (hab : a ≠ b) (hf : ∀ j, j < 600 → fits .byte (.int (h.1 43 0 (600 * a + j))) = true) : WP (fX12_copyAll (nI a) (nI b) h) (fun _ h' => MCp h h' a b) := by
  unfold fX12_copyAll
  refine cpr_43 ha hb hab hf (fun h1 r1 => ?_)
  refine wp_bnd (wp_mono (cpr_44 ha hb hab) (fun _ h2 r2 => ?_))
  refine wp_bnd (wp_mono (cpr_45 ha hb hab) (fun _ h3 r3 => ?_))
  refine wp_bnd (wp_mono (cpr_46 ha hb hab) (fun _ h4 r4 => ?_))
  refine wp_bnd (wp_mono (cpr_47 ha hb hab) (fun _ h5 r5 => ?_))
  refine wp_bnd (wp_mono (cpr_48 ha hb hab) (fun _ h6 r6 => ?_))
  refine wp_bnd (wp_mono (cpr_49 ha hb hab) (fun _ h7 r7 => ?_))
  refine wp_bnd (wp_mono (cpr_50 ha hb hab) (fun _ h8 r8 => ?_))
  refine wp_some ?_
  have g8 : ∀ k s i, k ≠ 50 → h8.1 k s i = h7.1 k s i := fun k s i q => r8.2 _ _ _ (by omega)
  have g7 : ∀ k s i, k ≠ 49 → h7.1 k s i = h6.1 k s i := fun k s i q => r7.2 _ _ _ (by omega)
  have g6 : ∀ k s i, k ≠ 48 → h6.1 k s i = h5.1 k s i := fun k s i q => r6.2 _ _ _ (by omega)
  have g5 : ∀ k s i, k ≠ 47 → h5.1 k s i = h4.1 k s i := fun k s i q => r5.2 _ _ _ (by omega)
  have g4 : ∀ k s i, k ≠ 46 → h4.1 k s i = h3.1 k s i := fun k s i q => r4.2 _ _ _ (by omega)
  have g3 : ∀ k s i, k ≠ 45 → h3.1 k s i = h2.1 k s i := fun k s i q => r3.2 _ _ _ (by omega)
  have g2 : ∀ k s i, k ≠ 44 → h2.1 k s i = h1.1 k s i := fun k s i q => r2.2 _ _ _ (by omega)
  have g1 : ∀ k s i, k ≠ 43 → h1.1 k s i = h.1 k s i := fun k s i q => r1.2 _ _ _ (by omega)
  refine ⟨fun i hi => ?_, ?_, ?_, ?_, fun i hi => ?_, fun i hi => ?_, fun i hi => ?_, fun i hi => ?_, fun k s i hk => ?_⟩
  · rw [g8 _ _ _ (by decide), g7 _ _ _ (by decide), g6 _ _ _ (by decide), g5 _ _ _ (by decide), g4 _ _ _ (by decide), g3 _ _ _ (by decide), g2 _ _ _ (by decide)]; exact r1.1 i hi
  · have q := r2.1 0 (by omega)
    simp only [Nat.one_mul, Nat.add_zero] at q
    rw [g8 _ _ _ (by decide), g7 _ _ _ (by decide), g6 _ _ _ (by decide), g5 _ _ _ (by decide), g4 _ _ _ (by decide), g3 _ _ _ (by decide), q, g1 _ _ _ (by decide)]
  · have q := r3.1 0 (by omega)
    simp only [Nat.one_mul, Nat.add_zero] at q
    rw [g8 _ _ _ (by decide), g7 _ _ _ (by decide), g6 _ _ _ (by decide), g5 _ _ _ (by decide), g4 _ _ _ (by decide), q, g2 _ _ _ (by decide), g1 _ _ _ (by decide)]
  · have q := r4.1 0 (by omega)
    simp only [Nat.one_mul, Nat.add_zero] at q
    rw [g8 _ _ _ (by decide), g7 _ _ _ (by decide), g6 _ _ _ (by decide), g5 _ _ _ (by decide), q, g3 _ _ _ (by decide), g2 _ _ _ (by decide), g1 _ _ _ (by decide)]
  · rw [g8 _ _ _ (by decide), g7 _ _ _ (by decide), g6 _ _ _ (by decide), r5.1 i hi, g4 _ _ _ (by decide), g3 _ _ _ (by decide), g2 _ _ _ (by decide), g1 _ _ _ (by decide)]
  · rw [g8 _ _ _ (by decide), g7 _ _ _ (by decide), r6.1 i hi, g5 _ _ _ (by decide), g4 _ _ _ (by decide), g3 _ _ _ (by decide), g2 _ _ _ (by decide), g1 _ _ _ (by decide)]
  · rw [g8 _ _ _ (by decide), r7.1 i hi, g6 _ _ _ (by decide), g5 _ _ _ (by decide), g4 _ _ _ (by decide), g3 _ _ _ (by decide), g2 _ _ _ (by decide), g1 _ _ _ (by decide)]
  · rw [r8.1 i hi, g7 _ _ _ (by decide), g6 _ _ _ (by decide), g5 _ _ _ (by decide), g4 _ _ _ (by decide), g3 _ _ _ (by decide), g2 _ _ _ (by decide), g1 _ _ _ (by decide)]
  · simp [tmb] at hk
    rw [r8.2 _ _ _ (by omega), r7.2 _ _ _ (by omega), r6.2 _ _ _ (by omega), r5.2 _ _ _ (by omega), r4.2 _ _ _ (by omega), r3.2 _ _ _ (by omega), r2.2 _ _ _ (by omega), r1.2 _ _ _ (by omega)]
/-- the class's copies -/
theorem cp8 {a b : Nat} (h : Hp) (ha : a < cnt 6) (hb : b < cnt 6) (hab : a ≠ b) : ∃ h', fX8_copyFrom a b h = some ((), h') ∧ ∀ k s i, h'.1 k s i = if s = a ∧ ((k = 6 ∧ i < 3) ∨ ((k = 33 ∨ k = 34 ∨ k = 35) ∧ i < 5)) then h.1 k b i else h.1 k s i := by
  refine ⟨_, rfl, fun k s i => ?_⟩
  have c33 : cnt 33 = cnt 6 := rfl
  have c34 : cnt 34 = cnt 6 := rfl
  have c35 : cnt 35 = cnt 6 := rfl
  simp only [cpy_g, wr_g, rd_g, c33, c34, c35, Nat.mod_eq_of_lt ha, Nat.mod_eq_of_lt hb]
  by_cases hs : s = a
  · subst hs
    by_cases k0 : k = 6
    · subst k0
      rcases (show i = 0 ∨ i = 1 ∨ i = 2 ∨ 3 ≤ i by omega) with rfl | rfl | rfl | hi
      · simp [hab, Ne.symm hab]
      · simp [hab, Ne.symm hab]
      · simp [hab, Ne.symm hab]
      · simp [show ¬ i < 3 by omega, show ¬ i = 0 by omega, show ¬ i = 1 by omega, show ¬ i = 2 by omega]
    · by_cases hi : i < 5
      · rcases (show k = 33 ∨ k = 34 ∨ k = 35 ∨ (k ≠ 33 ∧ k ≠ 34 ∧ k ≠ 35) by omega) with rfl | rfl | rfl | q
        · simp [hi, Ne.symm hab]
        · simp [hi, Ne.symm hab]
        · simp [hi, Ne.symm hab]
        · simp [k0, q]
      · simp [k0, hi]
  · simp [hs]
theorem cp7 {a b : Nat} (h : Hp) (ha : a < cnt 5) (hb : b < cnt 5) (hab : a ≠ b) : ∃ h', fX7_copyFrom a b h = some ((), h') ∧ ∀ k s i, h'.1 k s i = if s = a ∧ ((k = 5 ∧ i < 1) ∨ ((k = 31 ∨ k = 32) ∧ i < 40)) then h.1 k b i else h.1 k s i := by
  refine ⟨_, rfl, fun k s i => ?_⟩
  have c31 : cnt 31 = cnt 5 := rfl
  have c32 : cnt 32 = cnt 5 := rfl
  simp only [cpy_g, wr_g, rd_g, c31, c32, Nat.mod_eq_of_lt ha, Nat.mod_eq_of_lt hb]
  by_cases hs : s = a
  · subst hs
    by_cases k0 : k = 5
    · subst k0
      rcases (show i = 0 ∨ 1 ≤ i by omega) with rfl | hi
      · simp [hab, Ne.symm hab]
      · simp [show ¬ i < 1 by omega, show ¬ i = 0 by omega]
    · by_cases hi : i < 40
      · rcases (show k = 31 ∨ k = 32 ∨ (k ≠ 31 ∧ k ≠ 32) by omega) with rfl | rfl | q
        · simp [hi, Ne.symm hab]
        · simp [hi, Ne.symm hab]
        · simp [k0, q]
      · simp [k0, hi]
  · simp [hs]
theorem cp3 {a b : Nat} (h : Hp) (ha : a < cnt 1) (hb : b < cnt 1) (hab : a ≠ b) : ∃ h', fX3_copyFrom a b h = some ((), h') ∧ ∀ k s i, h'.1 k s i = if s = a ∧ ((k = 1 ∧ i < 2) ∨ ((k = 21 ∨ k = 22 ∨ k = 23) ∧ i < 8)) then h.1 k b i else h.1 k s i := by
  refine ⟨_, rfl, fun k s i => ?_⟩
  have c21 : cnt 21 = cnt 1 := rfl
  have c22 : cnt 22 = cnt 1 := rfl
  have c23 : cnt 23 = cnt 1 := rfl
  simp only [cpy_g, wr_g, rd_g, c21, c22, c23, Nat.mod_eq_of_lt ha, Nat.mod_eq_of_lt hb]
  by_cases hs : s = a
  · subst hs
    by_cases k0 : k = 1
    · subst k0
      rcases (show i = 0 ∨ i = 1 ∨ 2 ≤ i by omega) with rfl | rfl | hi
      · simp [hab, Ne.symm hab]
      · simp [hab, Ne.symm hab]
      · simp [show ¬ i < 2 by omega, show ¬ i = 0 by omega, show ¬ i = 1 by omega]
    · by_cases hi : i < 8
      · rcases (show k = 21 ∨ k = 22 ∨ k = 23 ∨ (k ≠ 21 ∧ k ≠ 22 ∧ k ≠ 23) by omega) with rfl | rfl | rfl | q
        · simp [hi, Ne.symm hab]
        · simp [hi, Ne.symm hab]
        · simp [hi, Ne.symm hab]
        · simp [k0, q]
      · simp [k0, hi]
  · simp [hs]
