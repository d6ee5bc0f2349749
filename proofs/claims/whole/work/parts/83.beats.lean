/-! beats over packed numbers -/
def upN (L : Nat → Nat) : Nat → Nat
  | 0 => 0
  | k + 1 => upN L k + (if 0 < L k then 1 else 0)
theorem upN_le (L : Nat → Nat) : ∀ k, upN L k ≤ k := by
  intro k
  induction k with
  | zero => exact Nat.le_refl _
  | succ k ih => show upN L k + (if 0 < L k then 1 else 0) ≤ k + 1; split <;> omega
theorem standing_eq {L : Nat → Nat} (hd : D7 L) (h : Hp) : fX0_standing (nI (pkN L)) h = some (nI (upN L 5), h) := by
  apply wp_same
  unfold fX0_standing
  refine wp_for2 5 (fun i a h' => a = nI (upN L i) ∧ h' = h) ?_ ?_ FU 0 h (i0 := 0) (by omega) (FUb (by decide)) ⟨rfl, rfl⟩
  · rintro i a h1 rec hi ⟨rfl, rfl⟩ hrec
    unfold fX0_standing_l4
    have h7 := hd i hi
    rw [if_neg (show ¬ (5 : Int32) ≤ nI i from fun q => nI_ge hi (by decide) q), leftOf_eq hd hi, bnd_eq, jn_eq]
    by_cases g : L i = 0
    · rw [if_pos ((le0_n (by omega)).mpr g)]
      dsimp only
      rw [lt_eq, nI_1]
      exact hrec _ _ ⟨by show _ = nI (upN L i + _); rw [if_neg (by omega)]; rfl, rfl⟩
    · rw [if_neg (fun q => g ((le0_n (by omega)).mp q)), lt_eq]
      dsimp only
      rw [lt_eq, nI_1, nI_1]
      exact hrec _ _ ⟨by show _ = nI (upN L i + _); rw [if_pos (by omega)], rfl⟩
  · rintro a h1 rec ⟨rfl, rfl⟩
    unfold fX0_standing_l4
    rw [if_pos (show (5 : Int32) ≤ nI 5 by decide)]
    exact wp_some ⟨rfl, rfl⟩
def snN (L : Nat → Nat) : Nat → Nat
  | 0 => 6
  | k + 1 => min (snN L k) (L k)
theorem snN_le (L : Nat → Nat) : ∀ k, snN L k ≤ 6 := by
  intro k
  induction k with
  | zero => exact Nat.le_refl _
  | succ k ih => show min (snN L k) (L k) ≤ 6; omega
theorem mj12 {j : Nat} (hj : j < 12) {k : Nat} (hk : cnt k = 12) : j % cnt k = j := by rw [hk]; exact Nat.mod_eq_of_lt hj
theorem soonest_eq {L : Nat → Nat} (hd : D7 L) {h : Hp} {j n : Nat} (hj : j < 12) (hn : n ≤ 5) (e2 : h.1 6 j 2 = nI n) : fX0_soonest j (nI (pkN L)) h = some (nI (snN L n), h) := by
  apply wp_same
  unfold fX0_soonest
  refine wp_for2 n (fun i a h' => a = nI (snN L i) ∧ h' = h) ?_ ?_ FU 6 h (i0 := 0) (by omega) (FUb (by omega)) ⟨rfl, rfl⟩
  · rintro i a h1 rec hi ⟨rfl, rfl⟩ hrec
    unfold fX0_soonest_l5
    have r2 : rd h1 6 j 2 = nI n := by show h1.1 6 (j % cnt 6) 2 = _; rw [mj12 hj rfl]; exact e2
    have h7 := hd i (by omega)
    have h6 := snN_le L i
    rw [r2, if_neg (fun q => nI_ge hi (by omega) q), leftOf_eq hd (by omega), bnd_eq, lt_eq, lt_eq, nI_1, minI (by omega) (by omega)]
    exact hrec _ _ ⟨rfl, rfl⟩
  · rintro a h1 rec ⟨rfl, rfl⟩
    unfold fX0_soonest_l5
    have r2 : rd h1 6 j 2 = nI n := by show h1.1 6 (j % cnt 6) 2 = _; rw [mj12 hj rfl]; exact e2
    rw [r2, if_pos (nI_le (Nat.le_refl _) (by omega))]
    exact wp_some ⟨rfl, rfl⟩
def peN (n : Nat) (le : Nat → Nat) : Nat → Nat := fun k => if k < n then le k else 0
theorem packed_eq {h : Hp} {j sp st n : Nat} {pl li le : Nat → Nat} (hj : j < 12) (hv : SV sp st n pl li le) (hc : CSt h j sp st n pl li le) : fX8_packed j h = some (nI (pkN (peN n le)), h) := by
  apply wp_same
  have hn := hv.2.2.2.1
  unfold fX8_packed
  have hD : ∀ i, i ≤ n → D7 (peN i le) := fun i hi k hk => by
    unfold peN
    split
    · have := hv.2.2.2.2 k (by omega); omega
    · omega
  refine wp_for2 n (fun i a h' => a = nI (pkN (peN i le)) ∧ h' = h) ?_ ?_ FU 0 h (i0 := 0) (by omega) (FUb (by omega)) ⟨rfl, rfl⟩
  · rintro i a h1 rec hi ⟨rfl, rfl⟩ hrec
    unfold fX8_packed_l4
    have r2 : rd h1 6 j 2 = nI n := by show h1.1 6 (j % cnt 6) 2 = _; rw [mj12 hj rfl]; exact hc.2.2.1
    have r35 : ra h1 35 j (nI i) = nI (le i) := by rw [ra_n (by omega), mj12 hj rfl]; exact (hc.2.2.2 i hi).2.2
    have hle := hv.2.2.2.2 i hi
    rw [r2, if_neg (fun q => nI_ge hi (by omega) q), ck_p (ib_nI (by omega) (by decide)), r35, with_eq (hD i (by omega)) (by omega) (by omega), bnd_eq, lt_eq, nI_1]
    refine hrec _ _ ⟨?_, rfl⟩
    have : updN (peN i le) i (le i) = peN (i + 1) le := by
      funext q
      unfold updN peN
      by_cases g : q = i
      · rw [if_pos g, if_pos (by omega), g]
      · rw [if_neg g]
        by_cases g2 : q < i
        · rw [if_pos g2, if_pos (by omega)]
        · rw [if_neg g2, if_neg (by omega)]
    rw [this]
  · rintro a h1 rec ⟨rfl, rfl⟩
    unfold fX8_packed_l4
    have r2 : rd h1 6 j 2 = nI n := by show h1.1 6 (j % cnt 6) 2 = _; rw [mj12 hj rfl]; exact hc.2.2.1
    rw [r2, if_pos (nI_le (Nat.le_refl _) (by omega))]
    exact wp_some ⟨rfl, rfl⟩
/-- the left beats behind a run of w beats of way and one of spinning -/
def rnL (w p e : Nat) (L : Nat → Nat) : Nat → Nat := fun q => if q = p ∧ w < L p then e else L q - (w + 1)
theorem rnL_D7 {w p e : Nat} {L : Nat → Nat} (hd : D7 L) (he : e ≤ 7) : D7 (rnL w p e L) := fun q hq => by
  unfold rnL
  have := hd q hq
  split <;> omega
theorem behindRunC_eq {L : Nat → Nat} (hd : D7 L) {h : Hp} {j sp st n a p : Nat} {pl li le : Nat → Nat} (hj : j < 12) (hv : SV sp st n pl li le) (hc : CSt h j sp st n pl li le) (ha : a ≤ 9) (hp : p < n) : fX0_behindRun j (nI a) (nI (pkN L)) (nI p) h = some (nI (pkN (rnL (wayN sp a (pl p)) p (li p) L)), h) := by
  have hn := hv.2.2.2.1
  have hq := hv.2.2.2.2 p hp
  have h7 := hd p (by omega)
  have hw := wayN_le hv.1 ha hq.1
  unfold fX0_behindRun
  have r33 : ra h 33 j (nI p) = nI (pl p) := by rw [ra_n (by omega), mj12 hj rfl]; exact (hc.2.2.2 p hp).1
  have r34 : ra h 34 j (nI p) = nI (li p) := by rw [ra_n (by omega), mj12 hj rfl]; exact (hc.2.2.2 p hp).2.1
  rw [ck_p (ib_nI (by omega) (by decide)), r33, way8_eq hj hv.1 hv.2.1 hc.1 ha hq.1, bnd_eq, nI_1, passed_eq hd (by omega), bnd_eq, leftOf_eq hd (by omega), bnd_eq]
  by_cases g : wayN sp a (pl p) < L p
  · have hd' : D7 (fun k => L k - (wayN sp a (pl p) + 1)) := fun k hk => by have := hd k hk; show L k - _ ≤ 7; omega
    rw [if_neg (fun q => by have := (le_n (by omega) (by omega)).mp q; omega), ck_p (ib_nI (by omega) (by decide)), r34, with_eq hd' (by omega) (by omega), bnd_eq]
    congr 4
    funext q
    unfold updN rnL
    by_cases gq : q = p
    · rw [if_pos gq, if_pos ⟨gq, g⟩]
    · rw [if_neg gq, if_neg (fun w => gq w.1)]
  · rw [if_pos (nI_le (by omega) (by omega))]
    congr 4
    funext q
    unfold rnL
    rw [if_neg (fun w => g w.2)]
def kpB (w p : Nat) (L : Nat → Nat) : Nat → Bool
  | 0 => true
  | k + 1 => kpB w p L k && decide ((if k = p then w else w + 1) < L k)
theorem kpB_mono {w p : Nat} {L : Nat → Nat} {i : Nat} (h : kpB w p L i = false) : ∀ m, i ≤ m → kpB w p L m = false := by
  intro m hm
  induction m with
  | zero => rw [← h]; congr 1; omega
  | succ m ih =>
    by_cases q : i = m + 1
    · rw [← q]; exact h
    · show (kpB w p L m && _) = false
      rw [ih (by omega), Bool.false_and]
theorem kpB_iff {w p : Nat} {L : Nat → Nat} : ∀ n, kpB w p L n = true ↔ ∀ k, k < n → (if k = p then w else w + 1) < L k := by
  intro n
  induction n with
  | zero => exact ⟨fun _ k hk => absurd hk (Nat.not_lt_zero _), fun _ => rfl⟩
  | succ n ih =>
    show (kpB w p L n && _) = true ↔ _
    rw [Bool.and_eq_true, ih, decide_eq_true_eq]
    constructor
    · rintro ⟨h1, h2⟩ k hk
      by_cases q : k = n
      · rw [q]; exact h2
      · exact h1 k (by omega)
    · intro h
      exact ⟨fun k hk => h k (by omega), h n (by omega)⟩
theorem isKeptC_eq {L : Nat → Nat} (hd : D7 L) {h : Hp} {j sp st n a p : Nat} {pl li le : Nat → Nat} (hj : j < 12) (hv : SV sp st n pl li le) (hc : CSt h j sp st n pl li le) (ha : a ≤ 9) (hp : p < n) : fX0_isKept j (nI a) (nI (pkN L)) (nI p) h = some (if kpB (wayN sp a (pl p)) p L n = true then 1 else 0, h) := by
  apply wp_same
  have hn := hv.2.2.2.1
  have hq := hv.2.2.2.2 p hp
  have hw := wayN_le hv.1 ha hq.1
  unfold fX0_isKept
  have r33 : ra h 33 j (nI p) = nI (pl p) := by rw [ra_n (by omega), mj12 hj rfl]; exact (hc.2.2.2 p hp).1
  rw [ck_p (ib_nI (by omega) (by decide)), r33, way8_eq hj hv.1 hv.2.1 hc.1 ha hq.1, bnd_eq]
  refine wp_for1 n (fun i h' => h' = h ∧ kpB (wayN sp a (pl p)) p L i = true) ?_ ?_ FU h (i0 := 0) (by omega) (FUb (by omega)) ⟨rfl, rfl⟩
  · rintro i h1 rec hi ⟨rfl, ok⟩ hrec
    unfold fX0_isKept_l16
    have r2 : rd h1 6 j 2 = nI n := by show h1.1 6 (j % cnt 6) 2 = _; rw [mj12 hj rfl]; exact hc.2.2.1
    have h7 := hd i (by omega)
    have ok1 : kpB (wayN sp a (pl p)) p L (i + 1) = decide ((if i = p then wayN sp a (pl p) else wayN sp a (pl p) + 1) < L i) := by show (kpB _ p L i && _) = _; rw [ok, Bool.true_and]
    rw [r2, if_neg (fun q => nI_ge hi (by omega) q), leftOf_eq hd (by omega), bnd_eq, jn_eq]
    have fin : ∀ z, z ≤ 20 → z = (if i = p then wayN sp a (pl p) else wayN sp a (pl p) + 1) → WP (if nI z < nI (L i) then (lt (nI i + 1) fun x7 => rec x7 h1) else (ck (zk 0) (some (0, h1)))) (fun r h' => r = (if kpB (wayN sp a (pl p)) p L n = true then 1 else 0) ∧ h' = h1) := by
      intro z hz1 hz
      by_cases g : z < L i
      · rw [if_pos (nI_lt g (by omega)), lt_eq, nI_1]
        exact hrec _ ⟨rfl, by rw [ok1, ← hz]; exact decide_eq_true g⟩
      · rw [if_neg (fun q => g ((lt_n (by omega) (by omega)).mp q)), ck_p zk_0]
        refine wp_some ⟨?_, rfl⟩
        rw [if_neg (by rw [kpB_mono (i := i + 1) (by rw [ok1, ← hz]; exact decide_eq_false g) n (by omega)]; decide)]
    by_cases gp : i = p
    · rw [if_pos (by rw [gp])]
      exact fin _ (by omega) (by rw [if_pos gp])
    · rw [if_neg (fun q => gp ((eq_n (by omega) (by omega)).mp q)), show nI (wayN sp a (pl p)) + (1 : Int32) = nI (wayN sp a (pl p) + 1) by rw [nI_1]]
      exact fin (wayN sp a (pl p) + 1) (by omega) (by rw [if_neg gp])
  · rintro h1 rec ⟨rfl, ok⟩
    unfold fX0_isKept_l16
    have r2 : rd h1 6 j 2 = nI n := by show h1.1 6 (j % cnt 6) 2 = _; rw [mj12 hj rfl]; exact hc.2.2.1
    rw [r2, if_pos (nI_le (Nat.le_refl _) (by omega))]
    dsimp only
    rw [ck_p zk_1, ok]
    exact wp_some ⟨rfl, rfl⟩
