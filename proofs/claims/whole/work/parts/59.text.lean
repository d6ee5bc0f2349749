/-! loops that count up -/
theorem wp_for1 {ρ : Type} {P : ρ → Hp → Prop} {body : (Int32 → Hp → Option (ρ × Hp)) → Int32 → Hp → Option (ρ × Hp)} (n : Nat) (I : Nat → Hp → Prop) (stp : ∀ i h rec, i < n → I i h → (∀ h', I (i + 1) h' → WP (rec (nI (i + 1)) h') P) → WP (body rec (nI i) h) P) (fin : ∀ h rec, I n h → WP (body rec (nI n) h) P) (F : Nat) (h : Hp) {i0 : Nat} (hi : i0 ≤ n) (hF : n < F) (h0 : I i0 h) : WP (itr1 body F (nI i0) h) P := by
  refine wp_itr1 (fun m x h' => ∃ i, i ≤ n ∧ m = n - i ∧ x = nI i ∧ I i h') ?_ F (n - i0) _ _ (by omega) ⟨i0, hi, rfl, rfl, h0⟩
  rintro m x h1 rec ⟨i, hi, rfl, rfl, hI⟩ hrec
  rcases Nat.lt_or_ge i n with q | q
  · exact stp i h1 rec q hI (fun h' hI' => hrec (n - (i + 1)) _ _ (by omega) ⟨i + 1, by omega, rfl, rfl, hI'⟩)
  · have : i = n := by omega
    subst this
    exact fin h1 rec hI
theorem wp_for2 {ρ : Type} {P : ρ → Hp → Prop} {body : (Int32 → Int32 → Hp → Option (ρ × Hp)) → Int32 → Int32 → Hp → Option (ρ × Hp)} (n : Nat) (I : Nat → Int32 → Hp → Prop) (stp : ∀ i a h rec, i < n → I i a h → (∀ a' h', I (i + 1) a' h' → WP (rec a' (nI (i + 1)) h') P) → WP (body rec a (nI i) h) P) (fin : ∀ a h rec, I n a h → WP (body rec a (nI n) h) P) (F : Nat) (a : Int32) (h : Hp) {i0 : Nat} (hi : i0 ≤ n) (hF : n < F) (h0 : I i0 a h) : WP (itr2 body F a (nI i0) h) P := by
  refine wp_itr2 (fun m y x h' => ∃ i, i ≤ n ∧ m = n - i ∧ x = nI i ∧ I i y h') ?_ F (n - i0) _ _ _ (by omega) ⟨i0, hi, rfl, rfl, h0⟩
  rintro m y x h1 rec ⟨i, hi, rfl, rfl, hI⟩ hrec
  rcases Nat.lt_or_ge i n with q | q
  · exact stp i y h1 rec q hI (fun a' h' hI' => hrec (n - (i + 1)) _ _ _ (by omega) ⟨i + 1, by omega, rfl, rfl, hI'⟩)
  · have : i = n := by omega
    subst this
    exact fin y h1 rec hI
theorem FUb {n : Nat} (h : n ≤ 3999999) : n < FU := by
  have := FU_big
  omega
/-! the reference's told row: made empty, stored -/
theorem clear81 {h : Hp} {K : Hp → Option (Int32 × Hp)} {P : Int32 → Hp → Prop} (hK : ∀ h', (∀ j, j < 81 → h'.1 51 0 j = 0) → (∀ k s i, k ≠ 51 → h'.1 k s i = h.1 k s i) → WP (K h') P) : WP (itr1 (fX12_readText_l2 K) FU 0 h) P := by
  refine wp_for1 81 (fun i h' => (∀ j, j < i → h'.1 51 0 j = 0) ∧ ∀ k s j, k ≠ 51 → h'.1 k s j = h.1 k s j) ?_ ?_ FU h (i0 := 0) (by omega) (FUb (by decide)) ⟨fun j hj => absurd hj (Nat.not_lt_zero _), fun _ _ _ _ => rfl⟩
  · rintro i h1 rec hi ⟨e1, e2⟩ hrec
    unfold fX12_readText_l2
    rw [if_neg (show ¬ (81 : Int32) ≤ nI i from fun q => nI_ge hi (by decide) q), ck_p (ib_nI hi (by decide)), lt_eq, lt_eq, nI_1]
    refine hrec _ ⟨fun j hj => ?_, fun k s j hk => ?_⟩
    · rw [wa_g, nI_clamp (by omega)]
      by_cases hji : j = i
      · rw [if_pos ⟨rfl, rfl, hji⟩]
      · rw [if_neg (by omega)]; exact e1 j (by omega)
    · rw [wa_g, if_neg (by omega)]; exact e2 k s j hk
  · rintro h1 rec ⟨e1, e2⟩
    unfold fX12_readText_l2
    rw [if_pos (show (81 : Int32) ≤ nI 81 by decide)]
    exact hK h1 e1 e2
theorem sto_48 {b : Nat} {h : Hp} (hb : b < 8) : WP (fX12_store_48 18 (nI b) h) (fun _ h' => (∀ i, i < 18 → h'.1 48 0 (18 * b + i) = h.1 51 0 i) ∧ ∀ k' s i, ¬ (k' = 48 ∧ 18 * b ≤ i ∧ i < 18 * b + 18) → h'.1 k' s i = h.1 k' s i) := by
  unfold fX12_store_48
  refine wp_for1 18 (fun i h1 => (∀ j, j < i → h1.1 48 0 (18 * b + j) = h.1 51 0 j) ∧ ∀ k' s j, ¬ (k' = 48 ∧ 18 * b ≤ j ∧ j < 18 * b + i) → h1.1 k' s j = h.1 k' s j) ?_ ?_ FU h (i0 := 0) (by omega) (FUb (by decide)) ⟨fun j hj => absurd hj (Nat.not_lt_zero _), fun _ _ _ _ => rfl⟩
  · rintro i h1 rec hi ⟨e1, e2⟩ hrec
    unfold fX12_store_48_l3
    have q2 : (18 : Int32) * nI b + nI i = nI (18 * b + i) := by rw [show (18 : Int32) = nI 18 from rfl, nI_mul, nI_add]
    have q3 : h1.1 51 (0 % cnt 51) i = h.1 51 0 i := e2 _ _ _ (by omega)
    rw [if_neg (show ¬ (18 : Int32) ≤ nI i from fun q => nI_ge hi (by decide) q), q2, ck_p (ib_nI (show i < 81 by omega) (by decide)), ck_p (ib_nI (show 18 * b + i < 144 by omega) (by decide)), lt_eq, lt_eq, nI_1, ra_n (by omega), q3]
    refine hrec _ ⟨fun j hj => ?_, fun k' s j hj => ?_⟩
    · rw [wa_g, nI_clamp (by omega)]
      by_cases hji : j = i
      · subst hji; rw [if_pos ⟨rfl, rfl, rfl⟩]
      · rw [if_neg (by omega)]; exact e1 j (by omega)
    · rw [wa_g, nI_clamp (by omega), if_neg (by omega)]
      exact e2 k' s j (by omega)
  · rintro h1 rec ⟨e1, e2⟩
    unfold fX12_store_48_l3
    rw [if_pos (show (18 : Int32) ≤ nI 18 by decide)]
    exact wp_some ⟨e1, e2⟩
theorem sto_49 {b : Nat} {h : Hp} (hb : b < 8) : WP (fX12_store_49 81 (nI b) h) (fun _ h' => (∀ i, i < 81 → h'.1 49 0 (81 * b + i) = h.1 51 0 i) ∧ ∀ k' s i, ¬ (k' = 49 ∧ 81 * b ≤ i ∧ i < 81 * b + 81) → h'.1 k' s i = h.1 k' s i) := by
  unfold fX12_store_49
  refine wp_for1 81 (fun i h1 => (∀ j, j < i → h1.1 49 0 (81 * b + j) = h.1 51 0 j) ∧ ∀ k' s j, ¬ (k' = 49 ∧ 81 * b ≤ j ∧ j < 81 * b + i) → h1.1 k' s j = h.1 k' s j) ?_ ?_ FU h (i0 := 0) (by omega) (FUb (by decide)) ⟨fun j hj => absurd hj (Nat.not_lt_zero _), fun _ _ _ _ => rfl⟩
  · rintro i h1 rec hi ⟨e1, e2⟩ hrec
    unfold fX12_store_49_l3
    have q2 : (81 : Int32) * nI b + nI i = nI (81 * b + i) := by rw [show (81 : Int32) = nI 81 from rfl, nI_mul, nI_add]
    have q3 : h1.1 51 (0 % cnt 51) i = h.1 51 0 i := e2 _ _ _ (by omega)
    rw [if_neg (show ¬ (81 : Int32) ≤ nI i from fun q => nI_ge hi (by decide) q), q2, ck_p (ib_nI (show i < 81 by omega) (by decide)), ck_p (ib_nI (show 81 * b + i < 648 by omega) (by decide)), lt_eq, lt_eq, nI_1, ra_n (by omega), q3]
    refine hrec _ ⟨fun j hj => ?_, fun k' s j hj => ?_⟩
    · rw [wa_g, nI_clamp (by omega)]
      by_cases hji : j = i
      · subst hji; rw [if_pos ⟨rfl, rfl, rfl⟩]
      · rw [if_neg (by omega)]; exact e1 j (by omega)
    · rw [wa_g, nI_clamp (by omega), if_neg (by omega)]
      exact e2 k' s j (by omega)
  · rintro h1 rec ⟨e1, e2⟩
    unfold fX12_store_49_l3
    rw [if_pos (show (81 : Int32) ≤ nI 81 by decide)]
    exact wp_some ⟨e1, e2⟩
theorem sto_50 {b : Nat} {h : Hp} (hb : b < 8) : WP (fX12_store_50 26 (nI b) h) (fun _ h' => (∀ i, i < 26 → h'.1 50 0 (26 * b + i) = h.1 51 0 i) ∧ ∀ k' s i, ¬ (k' = 50 ∧ 26 * b ≤ i ∧ i < 26 * b + 26) → h'.1 k' s i = h.1 k' s i) := by
  unfold fX12_store_50
  refine wp_for1 26 (fun i h1 => (∀ j, j < i → h1.1 50 0 (26 * b + j) = h.1 51 0 j) ∧ ∀ k' s j, ¬ (k' = 50 ∧ 26 * b ≤ j ∧ j < 26 * b + i) → h1.1 k' s j = h.1 k' s j) ?_ ?_ FU h (i0 := 0) (by omega) (FUb (by decide)) ⟨fun j hj => absurd hj (Nat.not_lt_zero _), fun _ _ _ _ => rfl⟩
  · rintro i h1 rec hi ⟨e1, e2⟩ hrec
    unfold fX12_store_50_l3
    have q2 : (26 : Int32) * nI b + nI i = nI (26 * b + i) := by rw [show (26 : Int32) = nI 26 from rfl, nI_mul, nI_add]
    have q3 : h1.1 51 (0 % cnt 51) i = h.1 51 0 i := e2 _ _ _ (by omega)
    rw [if_neg (show ¬ (26 : Int32) ≤ nI i from fun q => nI_ge hi (by decide) q), q2, ck_p (ib_nI (show i < 81 by omega) (by decide)), ck_p (ib_nI (show 26 * b + i < 208 by omega) (by decide)), lt_eq, lt_eq, nI_1, ra_n (by omega), q3]
    refine hrec _ ⟨fun j hj => ?_, fun k' s j hj => ?_⟩
    · rw [wa_g, nI_clamp (by omega)]
      by_cases hji : j = i
      · subst hji; rw [if_pos ⟨rfl, rfl, rfl⟩]
      · rw [if_neg (by omega)]; exact e1 j (by omega)
    · rw [wa_g, nI_clamp (by omega), if_neg (by omega)]
      exact e2 k' s j (by omega)
  · rintro h1 rec ⟨e1, e2⟩
    unfold fX12_store_50_l3
    rw [if_pos (show (26 : Int32) ≤ nI 26 by decide)]
    exact wp_some ⟨e1, e2⟩
theorem CoS_0 : CoS Co0 := by
  rintro f hC hM hC' hM' eC eM ⟨c1, c2, h1, h2, h3, h4, h5⟩
  refine ⟨c1, c2, h1, (eC _ _ _ (by decide)).trans h2, h3, (eM _ _ _ (by decide)).trans h4, fun hf => ?_⟩
  obtain ⟨sp, st, m, pl, li, le, hv, hs, hm⟩ := h5 hf
  refine ⟨sp, st, m, pl, li, le, hv, ⟨(eC _ _ _ (by decide)).trans hs.1, (eC _ _ _ (by decide)).trans hs.2.1, (eC _ _ _ (by decide)).trans hs.2.2.1, fun p hp => ?_⟩, ⟨(eM _ _ _ (by decide)).trans hm.1, (eM _ _ _ (by decide)).trans hm.2.1, (eM _ _ _ (by decide)).trans hm.2.2.1, fun p hp => ?_⟩⟩
  · rw [eC _ _ _ (by decide), eC _ _ _ (by decide), eC _ _ _ (by decide)]; exact hs.2.2.2 p hp
  · rw [eM _ _ _ (by decide), eM _ _ _ (by decide), eM _ _ _ (by decide)]; exact hm.2.2.2 p hp
theorem CoS_1 : CoS Co1 := by
  rintro f hC hM hC' hM' eC eM ⟨c1, c2, h1, h2, h3, h4, h5⟩
  refine ⟨c1, c2, h1, (eC _ _ _ (by decide)).trans h2, h3, (eM _ _ _ (by decide)).trans h4, fun hf => ?_⟩
  obtain ⟨m, kd, pt, hv, hs, hm⟩ := h5 hf
  refine ⟨m, kd, pt, hv, ⟨(eC _ _ _ (by decide)).trans hs.1, fun p hp => ?_⟩, ⟨(eM _ _ _ (by decide)).trans hm.1, fun p hp => ?_⟩⟩
  · rw [eC _ _ _ (by decide), eC _ _ _ (by decide)]; exact hs.2 p hp
  · rw [eM _ _ _ (by decide), eM _ _ _ (by decide)]; exact hm.2 p hp
theorem CoS_2 : CoS Co2 := by
  rintro f hC hM hC' hM' eC eM ⟨c1, c2, h1, h2, h3, h4, h5⟩
  refine ⟨c1, c2, h1, (eC _ _ _ (by decide)).trans h2, h3, (eM _ _ _ (by decide)).trans h4, fun hf => ?_⟩
  obtain ⟨r, m, sd, pt, bt, hv, hs, hm⟩ := h5 hf
  refine ⟨r, m, sd, pt, bt, hv, ⟨(eC _ _ _ (by decide)).trans hs.1, (eC _ _ _ (by decide)).trans hs.2.1, fun p hp => ?_⟩, ⟨(eM _ _ _ (by decide)).trans hm.1, (eM _ _ _ (by decide)).trans hm.2.1, fun p hp => ?_⟩⟩
  · rw [eC _ _ _ (by decide), eC _ _ _ (by decide), eC _ _ _ (by decide)]; exact hs.2.2 p hp
  · rw [eM _ _ _ (by decide), eM _ _ _ (by decide), eM _ _ _ (by decide)]; exact hm.2.2 p hp
def CoN (s : Nat) : Nat → Hp → Hp → Prop := if s = 0 then Co0 else if s = 1 then Co1 else Co2
theorem CoN_S {s : Nat} (hs : s < 3) : CoS (CoN s) := by
  rcases (show s = 0 ∨ s = 1 ∨ s = 2 by omega) with rfl | rfl | rfl
  · exact CoS_0
  · exact CoS_1
  · exact CoS_2
theorem CoN_L {s : Nat} (hs : s < 3) : LOK s (CoN s) := by
  rcases (show s = 0 ∨ s = 1 ∨ s = 2 by omega) with rfl | rfl | rfl
  · exact line_0
  · exact line_1
  · exact line_2
/-- class and reference read a whole tape alike -/
theorem read_both {s n : Nat} (hs : s < 3) (hn : n ≤ 600) {hC hM : Hp} (hb : ∀ j, j < 600 → hC.1 36 0 j = hM.1 43 0 j) (c7 : hC.1 7 0 1 = nI n) (m10 : hM.1 10 0 10 = nI n) :
    ∃ r hC' hM' vf vp, fX5_readTape 0 (nI s) hC = some ((), hC') ∧ fX12_readText (nI s) hM = some (r, hM') ∧ hC'.1 3 0 3 = vf ∧ hC'.1 3 0 4 = vp ∧ hM'.1 45 0 0 = vf ∧ hM'.1 46 0 0 = vp ∧ (∀ k i, (k = 45 ∨ k = 46) → i ≠ 0 → hM'.1 k 0 i = hM.1 k 0 i) ∧ ((r = 1 ∧ vf = 0 ∧ CoN s 0 hC' hM') ∨ (r = 0 ∧ vf ≠ 0)) := by
  let b : Nat → Nat := fun j => by8 (hC.1 36 0 j)
  let h9 : Hp := wr (wr (wr (wr (wr (wr (wr (wr (wr (wr (wr hC 3 0 5 1) 3 0 6 (nI n)) 3 0 7 0) 3 0 3 0) 3 0 4 (-1)) 6 8 0 2) 6 8 1 0) 6 8 2 0) 5 8 0 0) 1 8 0 1) 1 8 1 0
  have e9 : fX5_readTape 0 (nI s) hC = itr1 (fX5_readTape_l63 (nI s) (fun h14 => some ((), h14))) FU 0 h9 := by
    unfold fX5_readTape
    rw [ck_p (show decide (0 % cnt 36 = 0) = true from rfl), lt_eq, ck_p (show decide (rd (wr hC 3 0 5 1) 3 0 5 = 1) = true from rfl)]
    have e : rd (wr hC 3 0 5 1) 7 0 1 = nI n := c7
    rw [e, if_neg (show ¬ (600 : Int32) < nI n from fun w => absurd ((lt_n (a := 600) (by decide) (by omega)).mp w) (by omega))]
    rfl
  have kC9 : ∀ k s' i, k ≠ 3 → k ≠ 6 → k ≠ 5 → k ≠ 1 → h9.1 k s' i = hC.1 k s' i := by
    intro k s' i a1 a2 a3 a4
    show (wr _ 1 8 1 0).1 k s' i = _
    rw [wr_other a4, wr_other a4, wr_other a3, wr_other a2, wr_other a2, wr_other a2, wr_other a1, wr_other a1, wr_other a1, wr_other a1, wr_other a1]
  have cC : CT h9 b n 0 := ⟨rfl, rfl, rfl, hn, Nat.zero_le _, fun j hj => by
    rw [kC9 36 0 j (by decide) (by decide) (by decide) (by decide)]
    exact by8_eq _⟩
  have tail : ∀ z : Int32, ∀ h3 : Hp, (∀ j, j < 81 → h3.1 51 0 j = 0) → (∀ k s i, k ≠ 51 → h3.1 k s i = hM.1 k s i) → (z = if s = 0 then 2 else if s = 2 then 1 else 0) →
      WP (bnd (fX12_token (wr (wr (wa h3 51 0 0 z) 10 0 9 0) 10 0 16 0)) fun _ h9 =>
        bnd (fX12_allLines (nI s) h9) fun x11 h10 =>
        jn (κ := Int32 → Hp → Option (Int32 × Hp)) (fun z0_11 h13 => ck (ib 0 4) (lt (wa h13 45 0 0 z0_11) fun h14 =>
        jn (κ := Int32 → Hp → Option (Int32 × Hp)) (fun z0_14 h16 => ck (ib 0 4) (lt (wa h16 46 0 0 z0_14) fun h17 =>
        ck (ib 0 4) (
        if (ra h17 45 0 0) = 0 then (ck (zk 1) (some (1, h17)))
        else (ck (zk 0) (some (0, h17)))))) fun k114_14 =>
        if x11 = 0 then (k114_14 (rd h14 10 0 15) h14)
        else (if (rd h14 10 0 16) ≤ 0 then (k114_14 (-1) h14)
        else (k114_14 (rd h14 10 0 17) h14)))) fun k82_11 =>
        if x11 = 0 then (k82_11 1 h10)
        else (k82_11 (rd h10 10 0 16) h10))
      (fun r hM' => ∃ hC' vf vp, fX5_readTape 0 (nI s) hC = some ((), hC') ∧ hC'.1 3 0 3 = vf ∧ hC'.1 3 0 4 = vp ∧ hM'.1 45 0 0 = vf ∧ hM'.1 46 0 0 = vp ∧ (∀ k i, (k = 45 ∨ k = 46) → i ≠ 0 → hM'.1 k 0 i = hM.1 k 0 i) ∧ ((r = 1 ∧ vf = 0 ∧ CoN s 0 hC' hM') ∨ (r = 0 ∧ vf ≠ 0))) := by
    intro z h3 z81 k51 hz
    have cM : MT (wr (wr (wa h3 51 0 0 z) 10 0 9 0) 10 0 16 0) b n 0 := by
      refine ⟨?_, rfl, hn, Nat.zero_le _, fun j hj => ?_⟩
      · exact (k51 10 0 10 (by decide)).trans m10
      · have : (wr (wr (wa h3 51 0 0 z) 10 0 9 0) 10 0 16 0).1 43 0 j = hC.1 36 0 j := (k51 43 0 j (by decide)).trans (hb j hj).symm
        rw [this]
        exact by8_eq _
    refine wp_bnd (wp_mono (token_wp cM) ?_)
    rintro _ hT ⟨cT, frT⟩
    have kT : ∀ k s j, k ≠ 10 → hT.1 k s j = (wa h3 51 0 0 z).1 k s j := fun k s j hk => by
      rw [frT k s j (fun q hq hcov => by
        simp [wX12_token] at hq
        rcases hq with rfl | rfl | rfl | rfl <;> exact hk hcov.1.symm), wr_other hk, wr_other hk]
    have t16 : hT.1 10 0 16 = 0 := frT.at 10 0 16 rfl
    have fl0 : FLT h9 hT 0 0 := ⟨by decide, rfl, t16, fun _ => rfl, fun w => absurd rfl w⟩
    have told0 : hT.1 51 0 0 = z := by rw [kT 51 0 0 (by decide)]; rfl
    have told1 : ∀ j, 0 < j → j < 81 → hT.1 51 0 j = 0 := fun j h0 hj => by
      rw [kT 51 0 j (by decide), wa_g, if_neg (by
        rintro ⟨-, -, w⟩
        have : (0 : Int32).toNatClampNeg = 0 := rfl
        omega)]
      exact z81 j hj
    have co : CoN s 0 h9 hT := by
      rcases (show s = 0 ∨ s = 1 ∨ s = 2 by omega) with rfl | rfl | rfl
      · refine ⟨0, 0, by decide, rfl, by decide, told1 2 (by decide) (by decide), fun _ => ⟨2, 0, 0, fun _ => 0, fun _ => 0, fun _ => 0, ⟨by decide, by decide, by decide, by decide, fun p hp => absurd hp (Nat.not_lt_zero _)⟩, ⟨rfl, rfl, rfl, fun p hp => absurd hp (Nat.not_lt_zero _)⟩, ⟨?_, told1 1 (by decide) (by decide), told1 2 (by decide) (by decide), fun p hp => absurd hp (Nat.not_lt_zero _)⟩⟩⟩
        rw [told0, hz]; rfl
      · have z0 : hT.1 51 0 0 = 0 := by rw [told0, hz]; rfl
        exact ⟨0, 0, by decide, rfl, by decide, z0, fun _ => ⟨0, fun _ => 0, fun _ => 0, ⟨by decide, fun p hp => absurd hp (Nat.not_lt_zero _)⟩, ⟨rfl, fun p hp => absurd hp (Nat.not_lt_zero _)⟩, ⟨z0, fun p hp => absurd hp (Nat.not_lt_zero _)⟩⟩⟩
      · have z0 : hT.1 51 0 0 = 1 := by rw [told0, hz]; rfl
        have z1 := told1 1 (by decide) (by decide)
        exact ⟨0, 0, by decide, rfl, by decide, z1, fun _ => ⟨1, 0, fun _ => 0, fun _ => 0, fun _ => 0, ⟨by decide, by decide, fun p hp => absurd hp (Nat.not_lt_zero _)⟩, ⟨rfl, rfl, fun p hp => absurd hp (Nat.not_lt_zero _)⟩, ⟨z0, z1, fun p hp => absurd hp (Nat.not_lt_zero _)⟩⟩⟩
    obtain ⟨y, hC', hA, e1, e2, hres⟩ := lines hs (CoN_S hs) (CoN_L hs) hn 601 FU FU 0 0 0 0 h9 hT (by omega) (by have := FU_big; omega) (by have := FU_big; omega) cC cT fl0 (Nat.le_refl _) (Nat.le_refl _) co
    rw [show (nI 0 : Int32) = 0 from rfl] at e1
    have e2' : fX12_allLines (nI s) hT = some (y, hA) := e2
    have frA := frX12_allLines (nI s) hT _ _ e2'
    have zc : (0 : Int32).toNatClampNeg = 0 := rfl
    have k45 : ∀ (v w : Int32) k i, (k = 45 ∨ k = 46) → i ≠ 0 → (wa (wa hA 45 0 0 v) 46 0 0 w).1 k 0 i = hM.1 k 0 i := by
      intro v w k i hk hi
      rw [wa_g, zc, if_neg (by omega), wa_g, zc, if_neg (by omega)]
      have a1 : hA.1 k 0 i = hT.1 k 0 i := by rcases hk with rfl | rfl <;> exact frA.cell _ 0 rfl i
      rw [a1, kT k 0 i (by omega), wa_g, if_neg (by omega), k51 k 0 i (by omega)]
    rw [e2', bnd_eq, jn_eq]
    have kA : ∀ (v w : Int32) k s' j, k ≠ 45 → k ≠ 46 → (wa (wa hA 45 0 0 v) 46 0 0 w).1 k s' j = hA.1 k s' j := fun v w k s' j a1 a2 => by rw [wa_g, if_neg (by omega), wa_g, if_neg (by omega)]
    have coA : ∀ v w f, CoN s f hC' hA → CoN s f hC' (wa (wa hA 45 0 0 v) 46 0 0 w) := by
      intro v w f hh
      rcases (show s = 0 ∨ s = 1 ∨ s = 2 by omega) with rfl | rfl | rfl
      · obtain ⟨c1, c2, h1, h2, h3, h4, h5⟩ := hh
        exact ⟨c1, c2, h1, h2, h3, h4, h5⟩
      · obtain ⟨c1, c2, h1, h2, h3, h4, h5⟩ := hh
        exact ⟨c1, c2, h1, h2, h3, h4, h5⟩
      · obtain ⟨c1, c2, h1, h2, h3, h4, h5⟩ := hh
        exact ⟨c1, c2, h1, h2, h3, h4, h5⟩
    rcases hres with ⟨rfl, f, x, fl, co'⟩ | ⟨rfl, r3, a, r4, r15⟩
    · rw [if_neg (show ¬ (1 : Int32) = 0 by decide)]
      dsimp only
      rw [ck_p (show ib 0 4 = true from rfl), lt_eq, jn_eq, if_neg (show ¬ (1 : Int32) = 0 by decide)]
      obtain ⟨g1, g2, g3, g4, g5⟩ := fl
      have r16 : rd (wa hA 45 0 0 (rd hA 10 0 16)) 10 0 16 = nI f := g3
      rw [r16]
      by_cases hf : f = 0
      · subst hf
        rw [if_pos (show nI 0 ≤ 0 by decide)]
        dsimp only
        rw [ck_p (show ib 0 4 = true from rfl), lt_eq, ck_p (show ib 0 4 = true from rfl)]
        have q45 : ra (wa (wa hA 45 0 0 (rd hA 10 0 16)) 46 0 0 (-1)) 45 0 0 = 0 := g3
        rw [if_pos q45, ck_p zk_1]
        exact wp_some ⟨hC', 0, -1, e9.trans e1, g2, g4 rfl, g3, rfl, k45 _ _, Or.inl ⟨rfl, rfl, coA _ _ _ co'⟩⟩
      · have hnz : ¬ nI f = 0 := fun w => hf ((eq_n (b := 0) (by omega) (by decide)).mp w)
        obtain ⟨a, a1, a2, a3, a4⟩ := g5 hf
        rw [if_neg (show ¬ nI f ≤ 0 from fun w => hf (by have := (le_n (b := 0) (by omega) (by decide)).mp w; omega))]
        dsimp only
        rw [ck_p (show ib 0 4 = true from rfl), lt_eq, ck_p (show ib 0 4 = true from rfl)]
        have q45 : ra (wa (wa hA 45 0 0 (rd hA 10 0 16)) 46 0 0 (rd (wa hA 45 0 0 (rd hA 10 0 16)) 10 0 17)) 45 0 0 = nI f := g3
        rw [q45, if_neg hnz, ck_p zk_0]
        exact wp_some ⟨hC', nI f, nI a, e9.trans e1, g2, a3, g3, a4, k45 _ _, Or.inr ⟨rfl, hnz⟩⟩
    · rw [if_pos rfl]
      dsimp only
      rw [ck_p (show ib 0 4 = true from rfl), lt_eq, jn_eq, if_pos rfl]
      dsimp only
      rw [ck_p (show ib 0 4 = true from rfl), lt_eq, ck_p (show ib 0 4 = true from rfl)]
      have q45 : ra (wa (wa hA 45 0 0 1) 46 0 0 (rd (wa hA 45 0 0 1) 10 0 15)) 45 0 0 = 1 := rfl
      rw [q45, if_neg (show ¬ (1 : Int32) = 0 by decide), ck_p zk_0]
      exact wp_some ⟨hC', 1, nI a, e9.trans e1, r3, r4, rfl, r15, k45 _ _, Or.inr ⟨rfl, by decide⟩⟩
  have main : WP (fX12_readText (nI s) hM) (fun r hM' => ∃ hC' vf vp, fX5_readTape 0 (nI s) hC = some ((), hC') ∧ hC'.1 3 0 3 = vf ∧ hC'.1 3 0 4 = vp ∧ hM'.1 45 0 0 = vf ∧ hM'.1 46 0 0 = vp ∧ (∀ k i, (k = 45 ∨ k = 46) → i ≠ 0 → hM'.1 k 0 i = hM.1 k 0 i) ∧ ((r = 1 ∧ vf = 0 ∧ CoN s 0 hC' hM') ∨ (r = 0 ∧ vf ≠ 0))) := by
    unfold fX12_readText
    refine clear81 (fun h3 z81 k51 => ?_)
    rw [jn_eq]
    rcases (show s = 0 ∨ s = 1 ∨ s = 2 by omega) with hs' | hs' | hs'
    · rw [if_pos (show nI s = 0 by rw [hs']; rfl)]
      exact tail 2 h3 z81 k51 (by rw [hs']; rfl)
    · rw [if_neg (show ¬ nI s = 0 by rw [hs']; decide), if_neg (show ¬ nI s = 2 by rw [hs']; decide)]
      exact tail 0 h3 z81 k51 (by rw [hs']; rfl)
    · rw [if_neg (show ¬ nI s = 0 by rw [hs']; decide), if_pos (show nI s = 2 by rw [hs']; rfl)]
      exact tail 1 h3 z81 k51 (by rw [hs']; rfl)
  obtain ⟨r, hM', e, hC', vf, vp, q⟩ := main
  exact ⟨r, hC', hM', vf, vp, q.1, e, q.2⟩
