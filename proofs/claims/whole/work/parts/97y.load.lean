/-! load: in which order the plates fall -/
def prB (le : Nat → Nat) (p q : Nat) : Prop := le p < le q ∨ (le p = le q ∧ p < q)
def rkN (le : Nat → Nat) (p : Nat) : Nat → Nat
  | 0 => 0
  | k + 1 => rkN le p k + (if le k < le p ∨ (le k = le p ∧ k < p) then 1 else 0)
theorem rk_p {le : Nat → Nat} {p k : Nat} (h : prB le k p) : rkN le p (k + 1) = rkN le p k + 1 := by
  show rkN le p k + (if le k < le p ∨ (le k = le p ∧ k < p) then 1 else 0) = _
  rw [if_pos (show le k < le p ∨ (le k = le p ∧ k < p) from h)]
theorem rk_n {le : Nat → Nat} {p k : Nat} (h : ¬ prB le k p) : rkN le p (k + 1) = rkN le p k := by
  show rkN le p k + (if le k < le p ∨ (le k = le p ∧ k < p) then 1 else 0) = _
  rw [if_neg (show ¬ (le k < le p ∨ (le k = le p ∧ k < p)) from h), Nat.add_zero]
theorem prB.irr {le : Nat → Nat} {p : Nat} : ¬ prB le p p := by rintro (h | h) <;> omega
theorem prB.trans {le : Nat → Nat} {p q r : Nat} (a : prB le p q) (b : prB le q r) : prB le p r := by
  unfold prB at *
  omega
theorem prB.tot {le : Nat → Nat} {p q : Nat} (h : p ≠ q) : prB le p q ∨ prB le q p := by
  unfold prB
  omega
theorem rk_lt {le : Nat → Nat} {w z : Nat} (h : prB le w z) : ∀ k, rkN le w k ≤ rkN le z k ∧ (w < k → rkN le w k + 1 ≤ rkN le z k) := by
  intro k
  induction k with
  | zero => exact ⟨Nat.le_refl _, fun q => absurd q (Nat.not_lt_zero _)⟩
  | succ k ih =>
    by_cases g : prB le k w
    · rw [rk_p g, rk_p (g.trans h)]
      refine ⟨by omega, fun q => ?_⟩
      have hne : w ≠ k := fun e => by rw [e] at g; exact g.irr
      have := ih.2 (by omega)
      omega
    · rw [rk_n g]
      by_cases g2 : prB le k z
      · rw [rk_p g2]
        refine ⟨by omega, fun q => ?_⟩
        omega
      · rw [rk_n g2]
        refine ⟨ih.1, fun q => ?_⟩
        have hne : w ≠ k := fun e => by rw [← e] at g2; exact g2 h
        exact ih.2 (by omega)
theorem rk_b {le : Nat → Nat} {p : Nat} : ∀ k, rkN le p k ≤ k ∧ (p < k → rkN le p k + 1 ≤ k) := by
  intro k
  induction k with
  | zero => exact ⟨Nat.le_refl _, fun q => absurd q (Nat.not_lt_zero _)⟩
  | succ k ih =>
    by_cases g : prB le k p
    · rw [rk_p g]
      refine ⟨by omega, fun q => ?_⟩
      have hne : p ≠ k := fun e => by rw [e] at g; exact g.irr
      have := ih.2 (by omega)
      omega
    · rw [rk_n g]
      exact ⟨by omega, fun q => by omega⟩
theorem rk_inj {le : Nat → Nat} {n p q : Nat} (hp : p < n) (hq : q < n) (e : rkN le p n = rkN le q n) : p = q := by
  apply Classical.byContradiction
  intro hne
  rcases prB.tot (le := le) hne with h | h
  · have := (rk_lt h n).2 hp
    omega
  · have := (rk_lt h n).2 hq
    omega
theorem rk_on {le : Nat → Nat} {n i : Nat} (hi : i < n) : ∃ p, p < n ∧ rkN le p n = i := by
  apply Classical.byContradiction
  intro hno
  have hne : ∀ p, p < n → rkN le p n ≠ i := fun p hp e => hno ⟨p, hp, e⟩
  have := pig (n - 1) n (fun p => if rkN le p n < i then rkN le p n else rkN le p n - 1) (fun p hp => by
    have h1 := (rk_b (le := le) (p := p) n).2 hp
    have h2 := hne p hp
    show (if rkN le p n < i then rkN le p n else rkN le p n - 1) < n - 1
    by_cases g : rkN le p n < i
    · rw [if_pos g]; omega
    · rw [if_neg g]; omega) (fun p q hp hq e => by
    have h2 := hne p hp
    have h3 := hne q hq
    have e' : (if rkN le p n < i then rkN le p n else rkN le p n - 1) = (if rkN le q n < i then rkN le q n else rkN le q n - 1) := e
    refine rk_inj (le := le) hp hq ?_
    by_cases g : rkN le p n < i
    · by_cases g' : rkN le q n < i
      · rw [if_pos g, if_pos g'] at e'; exact e'
      · rw [if_pos g, if_neg g'] at e'; omega
    · by_cases g' : rkN le q n < i
      · rw [if_neg g, if_pos g'] at e'; omega
      · rw [if_neg g, if_neg g'] at e'; omega)
  omega
theorem beforeC {h : Hp} {j p sp st n : Nat} {pl li le : Nat → Nat} (hj : j < 10) (hp : p < n) (hs : SV sp st n pl li le) (c : CSt h j sp st n pl li le) : fX8_fallsBefore j (nI p) h = some (nI (rkN le p n), h) := by
  have hn := hs.2.2.2.1
  apply wp_same
  unfold fX8_fallsBefore
  refine wp_for2 n (fun i a h' => a = nI (rkN le p i) ∧ h' = h) ?_ ?_ FU 0 h (i0 := 0) (by omega) (FUb (by omega)) ⟨rfl, rfl⟩
  · rintro i a h1 rec hi ⟨rfl, rfl⟩ hrec
    unfold fX8_fallsBefore_l4
    have bi := hs.2.2.2.2 i hi
    have bp := hs.2.2.2.2 p hp
    rw [c.r2 hj, if_neg (fun q => nI_ge hi (by omega) q), ck_p (ib_nI (by omega) (by decide)), ck_p (ib_nI (by omega) (by decide)), jn_eq, jn_eq, c.r35 hj hn hi, c.r35 hj hn hp]
    have yes : prB le i p → WP (lt (nI (rkN le p i) + 1) fun x6 => lt (nI i + 1) fun x3 => rec x6 x3 h1) (fun r h' => r = nI (rkN le p n) ∧ h' = h1) := fun g => by
      rw [lt_eq, lt_eq, nI_1, nI_1]
      exact hrec _ _ ⟨by rw [rk_p g], rfl⟩
    have no : ¬ prB le i p → WP (lt (nI i + 1) fun x3 => rec (nI (rkN le p i)) x3 h1) (fun r h' => r = nI (rkN le p n) ∧ h' = h1) := fun g => by
      rw [lt_eq, nI_1]
      exact hrec _ _ ⟨by rw [rk_n g], rfl⟩
    by_cases g1 : le i < le p
    · rw [if_pos (nI_lt g1 (by omega))]
      exact yes (Or.inl g1)
    · rw [if_neg (fun q => g1 ((lt_n (by omega) (by omega)).mp q)), ck_p (ib_nI (by omega) (by decide)), ck_p (ib_nI (by omega) (by decide))]
      by_cases g2 : le i = le p
      · rw [if_pos (by rw [g2])]
        by_cases g3 : p ≤ i
        · rw [if_pos (nI_le g3 (by omega))]
          exact no (fun q => by unfold prB at q; omega)
        · rw [if_neg (fun q => g3 ((le_n (by omega) (by omega)).mp q))]
          exact yes (Or.inr ⟨g2, by omega⟩)
      · rw [if_neg (fun q => g2 ((eq_n (by omega) (by omega)).mp q))]
        exact no (fun q => by unfold prB at q; omega)
  · rintro a h1 rec ⟨rfl, rfl⟩
    unfold fX8_fallsBefore_l4
    rw [c.r2 hj, if_pos (nI_le (Nat.le_refl _) (by omega))]
    exact wp_some ⟨rfl, rfl⟩
theorem fallC {h : Hp} {j k sp st n : Nat} {pl li le : Nat → Nat} (hj : j < 10) (hk : k < 2 ^ 31) (hs : SV sp st n pl li le) (c : CSt h j sp st n pl li le) : ∃ r, fX8_falling j (nI k) h = some (r, h) ∧ ((∃ p, p < n ∧ r = nI p ∧ rkN le p n = k) ∨ (r = -1 ∧ n ≤ k)) := by
  have hn := hs.2.2.2.1
  suffices hw : WP (fX8_falling j (nI k) h) (fun r h' => h' = h ∧ ((∃ p, p < n ∧ r = nI p ∧ rkN le p n = k) ∨ (r = -1 ∧ n ≤ k))) by
    obtain ⟨r, h', e, rfl, q⟩ := hw
    exact ⟨r, e, q⟩
  unfold fX8_falling
  refine wp_for1 n (fun i h' => h' = h ∧ ∀ p, p < i → rkN le p n ≠ k) ?_ ?_ FU h (i0 := 0) (by omega) (FUb (by omega)) ⟨rfl, fun p hp => absurd hp (Nat.not_lt_zero _)⟩
  · rintro i h1 rec hi ⟨rfl, hno⟩ hrec
    unfold fX8_falling_l2
    have hb := (rk_b (le := le) (p := i) n).1
    rw [c.r2 hj, if_neg (fun q => nI_ge hi (by omega) q), beforeC hj hi hs c, bnd_eq]
    by_cases g : rkN le i n = k
    · rw [if_pos (by rw [g])]
      exact wp_some ⟨rfl, Or.inl ⟨i, hi, rfl, g⟩⟩
    · rw [if_neg (fun q => g ((eq_n (by omega) hk).mp q)), lt_eq, nI_1]
      refine hrec _ ⟨rfl, fun p hp => ?_⟩
      by_cases z : p = i
      · rw [z]; exact g
      · exact hno p (by omega)
  · rintro h1 rec ⟨rfl, hno⟩
    unfold fX8_falling_l2
    rw [c.r2 hj, if_pos (nI_le (Nat.le_refl _) (by omega))]
    refine wp_some ⟨rfl, Or.inr ⟨rfl, ?_⟩⟩
    apply Classical.byContradiction
    intro q
    obtain ⟨p, hp, e⟩ := rk_on (le := le) (show k < n by omega)
    exact hno p hp e
theorem fallM {h : Hp} {k sp st n : Nat} {pl li le : Nat → Nat} (hk : k < n) (hs : SV sp st n pl li le) (m : MB h sp st n pl li le) : ∃ p, fX12_fallingOf (nI k) h = some (nI p, h) ∧ p < n ∧ rkN le p n = k := by
  have hn := hs.2.2.2.1
  suffices hw : WP (fX12_fallingOf (nI k) h) (fun r h' => h' = h ∧ ∃ p, p < n ∧ r = nI p ∧ rkN le p n = k) by
    obtain ⟨r, h', e, rfl, p, hp, rfl, q⟩ := hw
    exact ⟨p, e, hp, q⟩
  unfold fX12_fallingOf
  refine wp_for3 (k + 1) (fun i a b h' => h' = h ∧ (∃ v, a = nI v ∧ v < 2 ^ n ∧ ∀ p, p < n → (v.testBit p = true ↔ rkN le p n < i)) ∧ (0 < i → ∃ p, p < n ∧ b = nI p ∧ rkN le p n + 1 = i)) ?_ ?_ FU _ _ h (i0 := 0) (by omega) (FUb (by omega)) ⟨rfl, ⟨0, rfl, Nat.two_pow_pos n, fun p _ => ⟨fun q => absurd q (by rw [Nat.zero_testBit]; decide), fun q => absurd q (Nat.not_lt_zero _)⟩⟩, fun q => absurd q (Nat.not_lt_zero _)⟩
  · rintro i a b h1 rec hi ⟨rfl, ⟨v, rfl, hv, hbits⟩, -⟩ hrec
    unfold fX12_fallingOf_l7
    have h32 := pw32 hn
    rw [if_neg (show ¬ nI k < nI i from fun q => by have := (lt_n (by omega) (by omega)).mp q; omega)]
    refine wp_for2 n (fun p x h' => h' = h1 ∧ ((x = -1 ∧ ∀ q, q < p → v.testBit q = true) ∨ ∃ w, w < p ∧ x = nI w ∧ v.testBit w = false ∧ ∀ q, q < p → v.testBit q = false → q = w ∨ prB le w q)) ?_ ?_ FU _ h1 (i0 := 0) (by omega) (FUb (by omega)) ⟨rfl, Or.inl ⟨rfl, fun q hq => absurd hq (Nat.not_lt_zero _)⟩⟩
    · rintro p x h2 rec2 hp ⟨rfl, hx⟩ hrec2
      unfold fX12_fallingOf_l18
      have bp := hs.2.2.2.2 p hp
      rw [m.r22, if_neg (fun q => nI_ge hp (by omega) q), jn_eq, jn_eq]
      have hasv := hasM_eq v (by omega) p (by omega) h2
      -- the plate is taken where it is not had and less
      have keep : v.testBit p = true → ∀ y z : Int32, WP (bnd (fX12_has (nI v) (nI p) h2) fun x4 h3 => jn (κ := Int32 → Hp → Option (Int32 × Hp)) (fun z0_4 h6 => lt (nI p + 1) fun x7 => rec2 z0_4 x7 h6) fun k75_4 => jn (κ := Hp → Option (Int32 × Hp)) (fun h9 => k75_4 x h9) fun k74_7 => if x4 = 0 then (if y = 0 then (k74_7 h3) else (k75_4 (nI p) h3)) else (k74_7 h3)) (fun r h' => h' = h2 ∧ ∃ p, p < n ∧ r = nI p ∧ rkN le p n = k) := fun hb y _ => by
        rw [hasv, bnd_eq, if_pos hb, jn_eq, jn_eq, if_neg ne10]
        dsimp only
        rw [lt_eq, nI_1]
        refine hrec2 _ _ ⟨rfl, ?_⟩
        rcases hx with ⟨rfl, hall⟩ | ⟨w, hw, rfl, hwb, hmin⟩
        · refine Or.inl ⟨rfl, fun q hq => ?_⟩
          by_cases g : q = p
          · rw [g]; exact hb
          · exact hall q (by omega)
        · refine Or.inr ⟨w, by omega, rfl, hwb, fun q hq hqb => ?_⟩
          by_cases g : q = p
          · rw [g, hb] at hqb; cases hqb
          · exact hmin q (by omega) hqb
      have free : v.testBit p = false → ∀ y : Int32, WP (bnd (fX12_has (nI v) (nI p) h2) fun x4 h3 => jn (κ := Int32 → Hp → Option (Int32 × Hp)) (fun z0_4 h6 => lt (nI p + 1) fun x7 => rec2 z0_4 x7 h6) fun k75_4 => jn (κ := Hp → Option (Int32 × Hp)) (fun h9 => k75_4 x h9) fun k74_7 => if x4 = 0 then (if y = 0 then (k74_7 h3) else (k75_4 (nI p) h3)) else (k74_7 h3)) (fun r h' => h' = h2 ∧ ∃ p, p < n ∧ r = nI p ∧ rkN le p n = k) ↔ (if y = 0 then WP (rec2 x (nI (p + 1)) h2) (fun r h' => h' = h2 ∧ ∃ p, p < n ∧ r = nI p ∧ rkN le p n = k) else WP (rec2 (nI p) (nI (p + 1)) h2) (fun r h' => h' = h2 ∧ ∃ p, p < n ∧ r = nI p ∧ rkN le p n = k)) := fun hb y => by
        rw [hasv, bnd_eq, if_neg (by rw [hb]; decide), jn_eq, jn_eq, if_pos rfl]
        by_cases g : y = 0
        · rw [if_pos g, if_pos g]
          dsimp only
          rw [lt_eq, nI_1]
        · rw [if_neg g, if_neg g]
          dsimp only
          rw [lt_eq, nI_1]
      by_cases hb : v.testBit p = true
      · rcases id hx with ⟨e1, -⟩ | ⟨w, hw, e1, -⟩
        · rw [if_pos e1]
          exact keep hb 1 0
        · have bw := hs.2.2.2.2 w (by omega)
          rw [if_neg (show ¬ x = -1 by rw [e1]; exact nI_nm1 (by omega)), ck_p (ib_nI (by omega) (by decide)), e1, ck_p (ib_nI (by omega) (by decide)), m.r55 hn (show w < n by omega), m.r55 hn hp]
          by_cases g : le w ≤ le p
          · rw [if_pos (nI_le g (by omega))]
            rw [← e1]
            exact keep hb 0 0
          · rw [if_neg (fun q => g ((le_n (by omega) (by omega)).mp q))]
            rw [← e1]
            exact keep hb 1 0
      · have hbf : v.testBit p = false := Bool.not_eq_true _ |>.mp hb
        rcases id hx with ⟨e1, hall⟩ | ⟨w, hw, e1, hwb, hmin⟩
        · rw [if_pos e1]
          refine (free hbf 1).mpr ?_
          rw [if_neg ne10]
          refine hrec2 _ _ ⟨rfl, Or.inr ⟨p, by omega, rfl, hbf, fun q hq hqb => ?_⟩⟩
          by_cases g : q = p
          · exact Or.inl g
          · rw [hall q (by omega)] at hqb; cases hqb
        · have bw := hs.2.2.2.2 w (by omega)
          rw [if_neg (show ¬ x = -1 by rw [e1]; exact nI_nm1 (by omega)), ck_p (ib_nI (by omega) (by decide)), e1, ck_p (ib_nI (by omega) (by decide)), m.r55 hn (show w < n by omega), m.r55 hn hp]
          by_cases g : le w ≤ le p
          · rw [if_pos (nI_le g (by omega)), ← e1]
            refine (free hbf 0).mpr ?_
            rw [if_pos rfl]
            refine hrec2 _ _ ⟨rfl, Or.inr ⟨w, by omega, e1, hwb, fun q hq hqb => ?_⟩⟩
            by_cases g2 : q = p
            · rw [g2]
              right
              unfold prB
              omega
            · exact hmin q (by omega) hqb
          · rw [if_neg (fun q => g ((le_n (by omega) (by omega)).mp q)), ← e1]
            refine (free hbf 1).mpr ?_
            rw [if_neg ne10]
            refine hrec2 _ _ ⟨rfl, Or.inr ⟨p, by omega, rfl, hbf, fun q hq hqb => ?_⟩⟩
            by_cases g2 : q = p
            · exact Or.inl g2
            · right
              have pw : prB le p w := Or.inl (by omega)
              rcases hmin q (by omega) hqb with rfl | z
              · exact pw
              · exact pw.trans z
    · rintro x h2 rec2 ⟨rfl, hx⟩
      unfold fX12_fallingOf_l18
      rw [m.r22, if_pos (nI_le (Nat.le_refl _) (by omega))]
      dsimp only
      obtain ⟨z, hz, ez⟩ := rk_on (le := le) (show i < n by omega)
      have hzb : v.testBit z = false := by
        cases hb : v.testBit z with
        | false => rfl
        | true => have := (hbits z hz).mp hb; omega
      obtain ⟨w, hw, rfl, hwb, hmin⟩ : ∃ w, w < n ∧ x = nI w ∧ v.testBit w = false ∧ ∀ q, q < n → v.testBit q = false → q = w ∨ prB le w q := by
        rcases hx with ⟨-, hall⟩ | w
        · rw [hall z hz] at hzb; cases hzb
        · exact w
      have hwz : z = w := by
        rcases hmin z hz hzb with e | hpr
        · exact e
        · have a := (rk_lt hpr n).2 hw
          have b := (hbits w hw).mpr (by omega)
          rw [hwb] at b; cases b
      subst hwz
      rw [shl1 (show z ≤ 24 by omega), nI_or, lt_eq, lt_eq, nI_1]
      refine hrec _ _ _ ⟨rfl, ⟨v ||| 2 ^ z, rfl, ?_, fun p hp => ?_⟩, fun _ => ⟨z, hz, rfl, by omega⟩⟩
      · exact Nat.or_lt_two_pow hv (Nat.pow_lt_pow_right (by decide) hz)
      · rw [Nat.testBit_or, Bool.or_eq_true, hbits p hp, Nat.testBit_two_pow, decide_eq_true_eq]
        constructor
        · rintro (q | q)
          · omega
          · rw [← q, ez]; omega
        · intro q
          by_cases g : rkN le p n < i
          · exact Or.inl g
          · exact Or.inr (rk_inj (le := le) hz hp (by omega))
  · rintro a b h1 rec ⟨rfl, -, hw⟩
    unfold fX12_fallingOf_l7
    obtain ⟨p, hp, rfl, e⟩ := hw (by omega)
    rw [if_pos (show nI k < nI (k + 1) from nI_lt (by omega) (by omega))]
    exact wp_some ⟨rfl, p, hp, rfl, by omega⟩
