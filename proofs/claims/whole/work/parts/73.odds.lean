/-! odds() -/
theorem wp_for3 {ρ : Type} {P : ρ → Hp → Prop} {body : (Int32 → Int32 → Int32 → Hp → Option (ρ × Hp)) → Int32 → Int32 → Int32 → Hp → Option (ρ × Hp)} (n : Nat) (I : Nat → Int32 → Int32 → Hp → Prop) (stp : ∀ i a b h rec, i < n → I i a b h → (∀ a' b' h', I (i + 1) a' b' h' → WP (rec a' b' (nI (i + 1)) h') P) → WP (body rec a b (nI i) h) P) (fin : ∀ a b h rec, I n a b h → WP (body rec a b (nI n) h) P) (F : Nat) (a b : Int32) (h : Hp) {i0 : Nat} (hi : i0 ≤ n) (hF : n < F) (h0 : I i0 a b h) : WP (itr3 body F a b (nI i0) h) P := by
  refine wp_itr3 (fun m y z x h' => ∃ i, i ≤ n ∧ m = n - i ∧ x = nI i ∧ I i y z h') ?_ F (n - i0) _ _ _ _ (by omega) ⟨i0, hi, rfl, rfl, h0⟩
  rintro m y z x h1 rec ⟨i, hi, rfl, rfl, hI⟩ hrec
  rcases Nat.lt_or_ge i n with q | q
  · exact stp i y z h1 rec q hI (fun a' b' h' hI' => hrec (n - (i + 1)) _ _ _ _ (by omega) ⟨i + 1, by omega, rfl, rfl, hI'⟩)
  · have : i = n := by omega
    subst this
    exact fin y z h1 rec hI
theorem wp_same {o : Option (Int32 × Hp)} {v : Int32} {h : Hp} (w : WP o (fun r h' => r = v ∧ h' = h)) : o = some (v, h) := by
  obtain ⟨r, h', e, rfl, rfl⟩ := w
  exact e
theorem power_eq {h : Hp} {b t : Nat} (ht : t ≤ 1000) : fX11_power (nI b) (nI t) h = some (nI (b ^ t), h) := by
  apply wp_same
  unfold fX11_power
  refine wp_for2 t (fun i a h' => a = nI (b ^ i) ∧ h' = h) ?_ ?_ FU 1 h (i0 := 0) (by omega) (FUb (by omega)) ⟨rfl, rfl⟩
  · rintro i a h1 rec hi ⟨rfl, rfl⟩ hrec
    unfold fX11_power_l4
    rw [if_neg (fun w => nI_ge hi (by omega) w), lt_eq, lt_eq, nI_1, nI_mul]
    exact hrec _ _ ⟨by rw [Nat.pow_succ], rfl⟩
  · rintro a h1 rec ⟨rfl, rfl⟩
    unfold fX11_power_l4
    rw [if_pos (nI_le (Nat.le_refl _) (by omega))]
    exact wp_some ⟨rfl, rfl⟩
theorem times_eq {h : Hp} {b t : Nat} (ht : t ≤ 1000) : fX12_times (nI b) (nI t) h = some (nI (b ^ t), h) := by
  apply wp_same
  unfold fX12_times
  refine wp_for2 t (fun i a h' => a = nI (b ^ i) ∧ h' = h) ?_ ?_ FU 1 h (i0 := 0) (by omega) (FUb (by omega)) ⟨rfl, rfl⟩
  · rintro i a h1 rec hi ⟨rfl, rfl⟩ hrec
    unfold fX12_times_l4
    rw [if_neg (fun w => nI_ge hi (by omega) w), lt_eq, lt_eq, nI_1, nI_mul]
    exact hrec _ _ ⟨by rw [Nat.pow_succ], rfl⟩
  · rintro a h1 rec ⟨rfl, rfl⟩
    unfold fX12_times_l4
    rw [if_pos (nI_le (Nat.le_refl _) (by omega))]
    exact wp_some ⟨rfl, rfl⟩
theorem gcd_step {x y : Nat} : Nat.gcd x y = Nat.gcd y (x % y) := by
  rw [Nat.gcd_comm x y, Nat.gcd_rec y x, Nat.gcd_comm]
theorem half {x y : Nat} (h0 : 0 < y) (h1 : x % y ≠ 0) : 2 * (y % (x % y)) < y := by
  have h2 : x % y < y := Nat.mod_lt _ h0
  have h3 : y % (x % y) < x % y := Nat.mod_lt _ (by omega)
  have h4 : y % (x % y) = (y - x % y) % (x % y) := by rw [Nat.mod_eq_sub_mod (by omega)]
  have h5 : (y - x % y) % (x % y) ≤ y - x % y := Nat.mod_le _ _
  omega
theorem cd_eq {h : Hp} : ∀ (m x y i F : Nat), y < 2 ^ m → m ≤ 31 → x < 2 ^ 31 → i + 2 * m ≤ 99 → 2 * m < F → itr3 (fX11_commonDivisor_l7 (fun y3 h4 => some (y3, h4))) F (nI x) (nI y) (nI i) h = some (nI (Nat.gcd x y), h) := by
  intro m
  induction m with
  | zero =>
    intro x y i F hy _ hx hi hF
    have : y = 0 := by omega
    subst this
    obtain ⟨F, rfl⟩ : ∃ f, F = f + 1 := ⟨F - 1, by omega⟩
    rw [itr3_s]
    unfold fX11_commonDivisor_l7
    rw [if_neg (show ¬ (100 : Int32) ≤ nI i from fun w => nI_ge (show i < 100 by omega) (by decide) w), if_pos (show nI 0 = 0 from rfl), Nat.gcd_zero_right]
  | succ m ih =>
    intro x y i F hy hm hx hi hF
    obtain ⟨F, rfl⟩ : ∃ f, F = f + 1 + 1 := ⟨F - 2, by omega⟩
    have hy31 : y < 2 ^ 31 := Nat.lt_of_lt_of_le hy (Nat.pow_le_pow_right (by decide) hm)
    have hne : ∀ z, z < 2 ^ 31 → z ≠ 0 → (!decide (nI z = 0)) = true := fun z hz h0 => by
      rw [Bool.not_eq_true', decide_eq_false_iff_not]
      exact fun q => h0 ((eq0_n hz).mp q)
    by_cases h0 : y = 0
    · subst h0
      rw [itr3_s]
      unfold fX11_commonDivisor_l7
      rw [if_neg (show ¬ (100 : Int32) ≤ nI i from fun w => nI_ge (show i < 100 by omega) (by decide) w), if_pos (show nI 0 = 0 from rfl), Nat.gcd_zero_right]
    · rw [itr3_s]
      have hlt : x % y < y := Nat.mod_lt _ (by omega)
      have s1 : fX11_commonDivisor_l7 (fun y3 h4 => some (y3, h4)) (itr3 (fX11_commonDivisor_l7 (fun y3 h4 => some (y3, h4))) (F + 1)) (nI x) (nI y) (nI i) h = itr3 (fX11_commonDivisor_l7 (fun y3 h4 => some (y3, h4))) (F + 1) (nI y) (nI (x % y)) (nI (i + 1)) h := by
        generalize itr3 (fX11_commonDivisor_l7 (fun y3 h4 => some (y3, h4))) (F + 1) = R
        unfold fX11_commonDivisor_l7
        rw [if_neg (show ¬ (100 : Int32) ≤ nI i from fun w => nI_ge (show i < 100 by omega) (by decide) w), if_neg (fun w => h0 ((eq0_n hy31).mp w)), ck_p (hne y hy31 h0), nI_rem hx hy31, lt_eq, lt_eq, nI_1]
      rw [s1, itr3_s]
      by_cases h1 : x % y = 0
      · unfold fX11_commonDivisor_l7
        rw [if_neg (show ¬ (100 : Int32) ≤ nI (i + 1) from fun w => nI_ge (show i + 1 < 100 by omega) (by decide) w), if_pos (show nI (x % y) = 0 by rw [h1]; rfl), gcd_step, h1, Nat.gcd_zero_right]
      · have s2 : fX11_commonDivisor_l7 (fun y3 h4 => some (y3, h4)) (itr3 (fX11_commonDivisor_l7 (fun y3 h4 => some (y3, h4))) F) (nI y) (nI (x % y)) (nI (i + 1)) h = itr3 (fX11_commonDivisor_l7 (fun y3 h4 => some (y3, h4))) F (nI (x % y)) (nI (y % (x % y))) (nI (i + 1 + 1)) h := by
          generalize itr3 (fX11_commonDivisor_l7 (fun y3 h4 => some (y3, h4))) F = R
          unfold fX11_commonDivisor_l7
          rw [if_neg (show ¬ (100 : Int32) ≤ nI (i + 1) from fun w => nI_ge (show i + 1 < 100 by omega) (by decide) w), if_neg (fun w => h1 ((eq0_n (by omega)).mp w)), ck_p (hne _ (by omega) h1), nI_rem hy31 (by omega), lt_eq, lt_eq, nI_1]
        have hh := half (by omega) h1
        rw [Nat.pow_succ] at hy
        rw [s2, ih _ _ _ _ (by omega) (by omega) (by omega) (by omega) (by omega), gcd_step (x := x), gcd_step (x := y)]
theorem commonDivisor_eq {h : Hp} {x y : Nat} (hx : x < 2 ^ 31) (hy : y < 2 ^ 31) : fX11_commonDivisor (nI x) (nI y) h = some (nI (Nat.gcd x y), h) := cd_eq 31 x y 0 FU hy (by decide) hx (by decide) (FUb (by decide))
theorem cmn_eq {h : Hp} : ∀ (y x F : Nat), y < F → x < 2 ^ 31 → y < 2 ^ 31 → itr2 (fX12_common_l4 (fun y2 h3 => some (y2, h3))) F (nI x) (nI y) h = some (nI (Nat.gcd x y), h) := by
  intro y
  induction y using Nat.strongRecOn with
  | _ y ih =>
    intro x F hF hx hy
    obtain ⟨F, rfl⟩ : ∃ f, F = f + 1 := ⟨F - 1, by omega⟩
    rw [itr2_s]
    by_cases h0 : y = 0
    · subst h0
      unfold fX12_common_l4
      rw [if_pos (show nI 0 = 0 from rfl), Nat.gcd_zero_right]
    · have hlt : x % y < y := Nat.mod_lt _ (by omega)
      have hne : (!decide (nI y = 0)) = true := by
        rw [Bool.not_eq_true', decide_eq_false_iff_not]
        exact fun q => h0 ((eq0_n hy).mp q)
      rw [gcd_step, ← ih (x % y) hlt y F (by omega) hy (by omega)]
      generalize itr2 (fX12_common_l4 (fun y2 h3 => some (y2, h3))) F = R
      unfold fX12_common_l4
      rw [if_neg (fun w => h0 ((eq0_n hy).mp w)), ck_p hne, nI_rem hx hy, lt_eq]
theorem common_eq {h : Hp} {x y : Nat} (hx : x ≤ 3000000) (hy : y < 2 ^ 31) : fX12_common (nI x) (nI y) h = some (nI (Nat.gcd x y), h) := by
  unfold fX12_common
  by_cases h0 : y ≤ 3000000
  · exact cmn_eq y x FU (FUb (by omega)) (by omega) hy
  · obtain ⟨F, hF⟩ : ∃ f, FU = f + 1 := ⟨3999999, rfl⟩
    rw [hF, itr2_s]
    have hlt : x % y ≤ x := Nat.mod_le _ _
    have hne : (!decide (nI y = 0)) = true := by
      rw [Bool.not_eq_true', decide_eq_false_iff_not]
      exact fun q => by have := (eq0_n hy).mp q; omega
    have := FU_big
    rw [gcd_step, ← cmn_eq (h := h) (x % y) y F (by omega) hy (by omega)]
    generalize itr2 (fX12_common_l4 (fun y2 h3 => some (y2, h3))) F = R
    unfold fX12_common_l4
    rw [if_neg (fun w => by have := (eq0_n hy).mp w; omega), ck_p hne, nI_rem (by omega) hy, lt_eq]
/-! the ways to stand -/
def chN (n : Nat) : Nat → Nat
  | 0 => 1
  | k + 1 => chN n k * (n - k) / (k + 1)
theorem chN_le : ∀ n, n ≤ 6 → ∀ k, k ≤ 7 → chN n k ≤ 20 := by decide
def osN (l p n : Nat) : Nat → Nat
  | 0 => 0
  | k + 1 => osN l p n k + (if n + k < l then chN n k * p ^ k * (10 - p) ^ (n - k) else 0)
theorem term_le {p n k : Nat} (hp : p ≤ 10) (hn : n ≤ 6) (hk : k ≤ n) : chN n k * p ^ k * (10 - p) ^ (n - k) ≤ 20000000 := by
  have h1 := chN_le n hn k (by omega)
  have h2 : p ^ k ≤ 10 ^ k := Nat.pow_le_pow_left hp k
  have h3 : (10 - p) ^ (n - k) ≤ 10 ^ (n - k) := Nat.pow_le_pow_left (by omega) _
  have h4 : p ^ k * (10 - p) ^ (n - k) ≤ 10 ^ n := by
    have := Nat.mul_le_mul h2 h3
    rwa [← Nat.pow_add, show k + (n - k) = n by omega] at this
  have h5 : (10 : Nat) ^ n ≤ 10 ^ 6 := Nat.pow_le_pow_right (by decide) hn
  rw [Nat.mul_assoc]
  have := Nat.mul_le_mul h1 (Nat.le_trans h4 h5)
  omega
theorem osN_le {l p n : Nat} (hp : p ≤ 10) (hn : n ≤ 6) : ∀ k, k ≤ n + 1 → osN l p n k ≤ k * 20000000 := by
  intro k
  induction k with
  | zero => intro _; exact Nat.zero_le _
  | succ k ih =>
    intro hk
    have := ih (by omega)
    have t := term_le hp hn (show k ≤ n by omega)
    show osN l p n k + (if n + k < l then chN n k * p ^ k * (10 - p) ^ (n - k) else 0) ≤ _
    rw [Nat.add_mul, Nat.one_mul]
    by_cases g : n + k < l
    · rw [if_pos g]; exact Nat.add_le_add this t
    · rw [if_neg g]; exact Nat.le_trans this (Nat.le_add_right _ _)
theorem ne_succ {i : Nat} (hi : i < 1000) : (!decide (nI i + (1 : Int32) = 0)) = true := by
  rw [nI_1, Bool.not_eq_true', decide_eq_false_iff_not]
  exact fun q => by have := (eq0_n (by omega)).mp q; omega
theorem waysToStand_eq {h : Hp} {l p n : Nat} (hl : l ≤ 6) (hp : p ≤ 10) (hn : n ≤ 6) : fX11_waysToStand (nI l) (nI p) (nI n) h = some (nI (osN l p n (n + 1)), h) := by
  apply wp_same
  unfold fX11_waysToStand
  refine wp_for3 (n + 1) (fun i a b h' => a = nI (osN l p n i) ∧ b = nI (chN n i) ∧ h' = h) ?_ ?_ FU 0 1 h (i0 := 0) (by omega) (FUb (by omega)) ⟨rfl, rfl, rfl⟩
  · rintro i a b h1 rec hi ⟨rfl, rfl, rfl⟩ hrec
    unfold fX11_waysToStand_l8
    have hc := chN_le n hn i (by omega)
    have hmul : chN n i * (n - i) ≤ 20 * 6 := Nat.mul_le_mul hc (by omega)
    have hch : nI (chN n i) * (nI n - nI i) / (nI i + (1 : Int32)) = nI (chN n (i + 1)) := by
      rw [nI_sub (by omega), nI_mul, nI_1, nI_div (by omega) (by omega)]; rfl
    rw [if_neg (fun w => by have := (lt_n (by omega) (by omega)).mp w; omega), jn_eq, hch, nI_add]
    by_cases g : n + i < l
    · have e10 : (10 : Int32) - nI p = nI (10 - p) := nI_sub (a := 10) hp
      rw [if_neg (fun w => by have := (le_n (by omega) (by omega)).mp w; omega), power_eq (by omega), bnd_eq, e10, nI_sub (by omega), power_eq (by omega), bnd_eq, lt_eq]
      dsimp only
      rw [ck_p (ne_succ (by omega)), lt_eq, lt_eq, nI_1, nI_mul, nI_mul, nI_add]
      exact hrec _ _ _ ⟨by show _ = nI (osN l p n i + _); rw [if_pos g], rfl, rfl⟩
    · rw [if_pos (nI_le (by omega) (by omega))]
      dsimp only
      rw [ck_p (ne_succ (by omega)), lt_eq, lt_eq, nI_1]
      exact hrec _ _ _ ⟨by show _ = nI (osN l p n i + _); rw [if_neg g]; rfl, rfl, rfl⟩
  · rintro a b h1 rec ⟨rfl, rfl, rfl⟩
    unfold fX11_waysToStand_l8
    rw [if_pos (nI_lt (by omega) (by omega))]
    exact wp_some ⟨rfl, rfl⟩
theorem oddsL_wp {h : Hp} {l p n q : Nat} {K : Int32 → Hp → Option (Int32 × Hp)} {P : Int32 → Hp → Prop} (hl : l ≤ 6) (hp : p ≤ 10) (hn : n ≤ 6) (hq : q < 5) (e55 : h.1 55 0 q = nI l) (hK : WP (K (nI (osN l p n (n + 1))) h) P) : WP (itr3 (fX12_odds_l53 (nI q) (nI p) (nI n) K) FU 0 1 0 h) P := by
  refine wp_for3 (n + 1) (fun i a b h' => a = nI (osN l p n i) ∧ b = nI (chN n i) ∧ h' = h) ?_ ?_ FU 0 1 h (i0 := 0) (by omega) (FUb (by omega)) ⟨rfl, rfl, rfl⟩
  · rintro i a b h1 rec hi ⟨rfl, rfl, rfl⟩ hrec
    unfold fX12_odds_l53
    have hc := chN_le n hn i (by omega)
    have hmul : chN n i * (n - i) ≤ 20 * 6 := Nat.mul_le_mul hc (by omega)
    have hch : nI (chN n i) * (nI n - nI i) / (nI i + (1 : Int32)) = nI (chN n (i + 1)) := by
      rw [nI_sub (by omega), nI_mul, nI_1, nI_div (by omega) (by omega)]; rfl
    have r55 : ra h1 55 0 (nI q) = nI l := by rw [ra_n (by omega)]; exact e55
    rw [if_neg (fun w => by have := (lt_n (by omega) (by omega)).mp w; omega), ck_p (ib_nI hq (by decide)), jn_eq, hch, nI_add, r55]
    by_cases g : n + i < l
    · have e10 : (10 : Int32) - nI p = nI (10 - p) := nI_sub (a := 10) hp
      rw [if_neg (fun w => by have := (le_n (by omega) (by omega)).mp w; omega), times_eq (by omega), bnd_eq, e10, nI_sub (by omega), times_eq (by omega), bnd_eq]
      dsimp only
      rw [lt_eq, ck_p (ne_succ (by omega)), lt_eq, lt_eq, nI_1, nI_mul, nI_mul, nI_add]
      exact hrec _ _ _ ⟨by show _ = nI (osN l p n i + _); rw [if_pos g], rfl, rfl⟩
    · rw [if_pos (nI_le (by omega) (by omega))]
      dsimp only
      rw [lt_eq, ck_p (ne_succ (by omega)), lt_eq, lt_eq, nI_1, show nI (osN l p n i) + (0 : Int32) = nI (osN l p n i + 0) from nI_add _ 0]
      exact hrec _ _ _ ⟨by show _ = nI (osN l p n i + _); rw [if_neg g], rfl, rfl⟩
  · rintro a b h1 rec ⟨rfl, rfl, rfl⟩
    unfold fX12_odds_l53
    rw [if_pos (nI_lt (by omega) (by omega))]
    exact hK
theorem part_eq {h : Hp} {u d : Nat} {z : Int32} (hd1 : 1 ≤ d) (hd : d ≤ 3000000) (hu : u < 2 ^ 31) : fX12_part (nI u) (nI d) z h = some (nI ((if z = 0 then u else d) / Nat.gcd u d), h) := by
  unfold fX12_part
  have hg : 0 < Nat.gcd d u := Nat.gcd_pos_of_pos_left _ (by omega)
  have hgl : Nat.gcd d u ≤ d := Nat.gcd_le_left _ (by omega)
  have hne : (!decide (nI (Nat.gcd d u) = 0)) = true := by
    rw [Bool.not_eq_true', decide_eq_false_iff_not]
    exact fun q => by have := (eq0_n (by omega)).mp q; omega
  have fin : ∀ v, v < 2 ^ 31 → (bnd (fX12_common (nI d) (nI u) h) fun x4 h3 => ck (!decide (x4 = 0)) (some (nI v / x4, h3))) = some (nI (v / Nat.gcd u d), h) := by
    intro v hv
    rw [common_eq hd hu, bnd_eq, ck_p hne, nI_div hv (by omega), Nat.gcd_comm]
  rw [jn_eq]
  by_cases hz : z = 0
  · rw [if_pos hz, if_pos hz]; exact fin u hu
  · rw [if_neg hz, if_neg hz]; exact fin d (by omega)
theorem divC {h : Hp} {u d : Nat} {z : Int32} (hd1 : 1 ≤ d) (hd : d ≤ 3000000) (hu : u < 2 ^ 31) : (jn (κ := Int32 → Hp → Option (Int32 × Hp)) (fun z0_11 h13 => lt (if 1 < nI (Nat.gcd u d) then nI (Nat.gcd u d) else 1) fun x14 => ck (!decide (x14 = 0)) (some (z0_11 / x14, h13))) fun k95_11 => if z = 0 then (k95_11 (nI u) h) else (k95_11 (nI d) h)) = some (nI ((if z = 0 then u else d) / Nat.gcd u d), h) := by
  have hg : 0 < Nat.gcd u d := Nat.gcd_pos_of_pos_right _ (by omega)
  have hgl : Nat.gcd u d ≤ d := Nat.gcd_le_right _ (by omega)
  have hne : (!decide (nI (Nat.gcd u d) = 0)) = true := by
    rw [Bool.not_eq_true', decide_eq_false_iff_not]
    exact fun q => by have := (eq0_n (by omega)).mp q; omega
  have m1 : (if (1 : Int32) < nI (Nat.gcd u d) then nI (Nat.gcd u d) else 1) = nI (Nat.gcd u d) := by
    by_cases q : Nat.gcd u d = 1
    · rw [q]; rfl
    · rw [if_pos (show (1 : Int32) < nI (Nat.gcd u d) from nI_lt (a := 1) (by omega) (by omega))]
  rw [jn_eq, m1]
  by_cases hz : z = 0
  · rw [if_pos hz, if_pos hz]
    dsimp only
    rw [lt_eq, ck_p hne, nI_div hu (by omega)]
  · rw [if_neg hz, if_neg hz]
    dsimp only
    rw [lt_eq, ck_p hne, nI_div (by omega) (by omega)]
theorem MH.fr {h h' : Hp} {sp st n : Nat} {pl li le : Nat → Nat} (e : ∀ k s i, ¬ (k = 10 ∧ i = 0) → h'.1 k s i = h.1 k s i) (m : MH h sp st n pl li le) : MH h' sp st n pl li le := by
  obtain ⟨a1, a2, a3, a4, a5⟩ := m
  refine ⟨(e _ _ _ (by decide)).trans a1, (e _ _ _ (by decide)).trans a2, (e _ _ _ (by decide)).trans a3, (e _ _ _ (by decide)).trans a4, fun p hp => ?_⟩
  rw [e _ _ _ (by omega), e _ _ _ (by omega), e _ _ _ (by omega)]; exact a5 p hp
theorem out_iff2 {a : Int32} {c : Nat} (hc : c < 1000) : (a < 0 ∨ nI c < a) ↔ (a < 0 ∨ nI (c + 1) ≤ a) := by
  have := out_iff (a := a) (c := c + 1) (by omega)
  rw [← this, show nI (c + 1) - 1 = nI c from nI_sub (b := 1) (by omega)]
theorem st_odds {KI : Hp → Prop} (hKI : KStab KI) : Stp_odds (Rel KI) := by
  intro a b p n z hz
  refine stp_q hKI (frX11_odds a b p n z) (frX12_odds a b p n z) rfl rfl rfl rfl (fun hC hM hR => ?_)
  obtain ⟨⟨-, -, -, -, c0, c1, c2, ⟨v0, v1, -⟩, ⟨e0, e1, e2⟩, ⟨m0, m1, m2⟩, hSt, -⟩, -⟩ := hR
  have m0' : (wr hM 10 0 0 0).1 47 0 0 = nI c0 := m0
  unfold fX11_odds fX12_odds
  rw [lt_eq, in_eq, bnd_eq]
  have i10 : (p < 0 ∨ (10 : Int32) < p) ↔ (p < 0 ∨ nI 11 ≤ p) := out_iff2 (c := 10) (by decide)
  have i6 : (n < 0 ∨ (6 : Int32) < n) ↔ (n < 0 ∨ nI 7 ≤ n) := out_iff2 (c := 6) (by decide)
  -- the class answers -1 whenever one of the four is wrong
  have cNo : ∀ j sp st k pl li le, j < c0 → SV sp st k pl li le → CSt hC j sp st k pl li le → ((b < 0 ∨ nI k ≤ b) ∨ (p < 0 ∨ (10 : Int32) < p) ∨ (n < 0 ∨ (6 : Int32) < n)) → ∀ o : Hp → Option (Int32 × Hp), (bnd (fX8_has j b hC) fun x5 h4 => if x5 = 0 then (some ((-1 : Int32), h4)) else (if p < 0 then (some ((-1), h4)) else (if (10 : Int32) < p then (some ((-1), h4)) else (if n < 0 then (some ((-1), h4)) else (if n ≤ 6 then o h4 else (some ((-1), h4))))))) = some (-1, hC) := by
    intro j sp st k pl li le hj hv hcs hno o
    rw [has8_eq (by omega) hcs.2.2.1, bnd_eq]
    by_cases g1 : b < 0 ∨ nI k ≤ b
    · rw [if_pos g1, if_pos rfl]
    · rw [if_neg g1, if_neg ne10]
      by_cases g2 : p < 0
      · rw [if_pos g2]
      · rw [if_neg g2]
        by_cases g3 : (10 : Int32) < p
        · rw [if_pos g3]
        · rw [if_neg g3]
          have g4 : n < 0 ∨ (6 : Int32) < n := (hno.resolve_left g1).resolve_left (fun w => w.elim g2 g3)
          by_cases g5 : n < 0
          · rw [if_pos g5]
          · rw [if_neg g5, if_neg (fun w => by
              have z1 := Int32.lt_iff_toInt_lt.mp (g4.resolve_left g5)
              have z2 := Int32.le_iff_toInt_le.mp w
              omega)]
  rcases int_cases a c0 (by omega) with ha | ⟨j, hj, rfl⟩
  · rw [stageAt_no e0 ha, bnd_eq]
    refine ⟨-1, hC, wr hM 10 0 0 0, rfl, ?_⟩
    by_cases g1 : p < 0 ∨ (10 : Int32) < p
    · rw [if_pos g1, if_pos rfl]
    · rw [if_neg g1, if_neg ne10, in_eq, bnd_eq]
      by_cases g2 : n < 0 ∨ (6 : Int32) < n
      · rw [if_pos g2, if_pos rfl]
      · rw [if_neg g2, if_neg ne10, hand_no m0' v0 ha, bnd_eq, if_pos rfl]
  · obtain ⟨sp, st, k, pl, li, le, hv, hcs, hms⟩ := hSt j hj
    rw [Nat.mul_zero, Nat.zero_add] at hcs hms
    have hk := hv.2.2.2.1
    rw [stageAt_yes e0 hj v0, bnd_eq, nl_s]
    by_cases g1 : p < 0 ∨ (10 : Int32) < p
    · rw [if_pos g1, if_pos rfl, cNo j sp st k pl li le hj hv hcs (Or.inr (Or.inl g1))]
      exact ⟨_, _, _, rfl, rfl⟩
    · rw [if_neg g1, if_neg ne10, in_eq, bnd_eq]
      by_cases g2 : n < 0 ∨ (6 : Int32) < n
      · rw [if_pos g2, if_pos rfl, cNo j sp st k pl li le hj hv hcs (Or.inr (Or.inr g2))]
        exact ⟨_, _, _, rfl, rfl⟩
      · obtain ⟨rH, hH, eH, rfl, mH, h21, frH⟩ := hand_yes (h := wr hM 10 0 0 0) m0' v0 hj hk hms
        rw [if_neg g2, if_neg ne10, eH, bnd_eq, if_neg ne10, isPlate_eq mH.1 hk, bnd_eq]
        by_cases g3 : b < 0 ∨ nI k ≤ b
        · rw [if_pos g3, if_pos rfl, cNo j sp st k pl li le hj hv hcs (Or.inl g3)]
          exact ⟨_, _, _, rfl, rfl⟩
        · obtain ⟨q, hq, rfl⟩ := (int_cases b k (by omega)).resolve_left g3
          obtain ⟨pp, hpp, rfl⟩ := (int_cases p 11 (by decide)).resolve_left (fun w => g1 (i10.mpr w))
          obtain ⟨nn, hnn, rfl⟩ := (int_cases n 7 (by decide)).resolve_left (fun w => g2 (i6.mpr w))
          have hle : le q ≤ 6 := by have := hv.2.2.2.2 q hq; omega
          have hos := osN_le (l := le q) (p := pp) (n := nn) (by omega) (by omega) (nn + 1) (Nat.le_refl _)
          have hos2 : (nn + 1) * 20000000 ≤ 7 * 20000000 := Nat.mul_le_mul_right _ (by omega)
          have h10 : (10 : Nat) ^ nn ≤ 10 ^ 6 := Nat.pow_le_pow_right (by decide) (by omega)
          have h1 : 1 ≤ (10 : Nat) ^ nn := Nat.one_le_pow _ _ (by decide)
          have main : WP (itr3 (fX12_odds_l53 (nI q) (nI pp) (nI nn) (fun y19 h20 => bnd (fX12_times 10 (nI nn) h20) fun x22 h21 => bnd (fX12_part y19 x22 z h21) fun x24 h23 => some (x24, h23))) FU 0 1 0 hH) (fun r _ => r = nI ((if z = 0 then osN (le q) pp nn (nn + 1) else 10 ^ nn) / Nat.gcd (osN (le q) pp nn (nn + 1)) (10 ^ nn))) := by
            refine oddsL_wp hle (by omega) (by omega) (by omega) (mH.2.2.2.2 q hq).2.2 ?_
            rw [show fX12_times 10 (nI nn) hH = _ from times_eq (b := 10) (by omega), bnd_eq, part_eq h1 (by omega) (by omega), bnd_eq]
            exact wp_some rfl
          obtain ⟨r, hM', eM, rfl⟩ := main
          rw [if_neg g3, if_neg ne10]
          refine ⟨_, hC, hM', ?_, eM⟩
          rw [has8_eq (by omega) hcs.2.2.1, bnd_eq, if_neg g3, if_neg ne10, if_neg (fun w => g1 (Or.inl w)), if_neg (fun w => g1 (Or.inr w)), if_neg (fun w => g2 (Or.inl w)), if_pos (show nI nn ≤ 6 from nI_le (b := 6) (by omega) (by decide)), ck_p (ib_nI (by omega) (by decide))]
          have r35 : ra hC 35 j (nI q) = nI (le q) := by rw [ra_n (by omega), show j % cnt 35 = j from Nat.mod_eq_of_lt (show j < 12 by omega)]; exact (hcs.2.2.2 q hq).2.2
          rw [r35, waysToStand_eq hle (by omega) (by omega), bnd_eq, show fX11_power 10 (nI nn) hC = _ from power_eq (b := 10) (by omega), bnd_eq, commonDivisor_eq (by omega) (by omega), bnd_eq]
          exact divC h1 (by omega) (by omega)
