/-! save, pure: plays spelt by digits -/
def PVs (n sp : Nat) (pl li δ : Nat → Nat) (m : Nat) : Nat → Nat → Nat → (Nat → Nat) → Nat → Prop
  | 0, k, _, L, u => k = m ∧ u = upN L n
  | f + 1, k, a, L, u => (k = m ∧ u = upN L n) ∨ (k < m ∧ ((δ k = 5 ∧ PVs n sp pl li δ m f (k + 1) a (fun q => L q - 1) u) ∨ (δ k < n ∧ 0 < L (δ k) ∧ k + (wayN sp a (pl (δ k)) + 1) ≤ m ∧ (∀ i, k < i → i < k + (wayN sp a (pl (δ k)) + 1) → δ i = 5) ∧ PVs n sp pl li δ m f (k + (wayN sp a (pl (δ k)) + 1)) (pl (δ k)) (rnL (wayN sp a (pl (δ k))) (δ k) (li (δ k)) L) u)))
section PVS
variable {n sp m : Nat} {pl li : Nat → Nat}
theorem PV_RS {δ : Nat → Nat} : ∀ f k a L u, k ≤ m → PVs n sp pl li δ m f k a L u → RS n sp pl li f (m - k) a L u := by
  intro f
  induction f with
  | zero => rintro k a L u hk ⟨rfl, rfl⟩; exact ⟨by omega, rfl⟩
  | succ f ih =>
    rintro k a L u hk (⟨rfl, rfl⟩ | ⟨hkm, ⟨hd, h⟩ | ⟨hd, h0, hw, -, h⟩⟩)
    · exact Or.inl ⟨by omega, rfl⟩
    · refine Or.inr ⟨by omega, Or.inl ?_⟩
      rw [show m - k - 1 = m - (k + 1) by omega]
      exact ih _ _ _ _ (by omega) h
    · refine Or.inr ⟨by omega, Or.inr ⟨δ k, hd, h0, by omega, ?_⟩⟩
      rw [Nat.sub_sub]
      exact ih _ _ _ _ hw h
theorem PV_cg {δ δ' : Nat → Nat} : ∀ f k a L u, (∀ i, k ≤ i → i < m → δ i = δ' i) → PVs n sp pl li δ m f k a L u → PVs n sp pl li δ' m f k a L u := by
  intro f
  induction f with
  | zero => intro k a L u _ h; exact h
  | succ f ih =>
    rintro k a L u he (h | ⟨hkm, ⟨hd, h⟩ | ⟨hd, h0, hw, hf, h⟩⟩)
    · exact Or.inl h
    · refine Or.inr ⟨hkm, Or.inl ⟨by rw [← he k (Nat.le_refl _) hkm]; exact hd, ih _ _ _ _ (fun i h1 h2 => he i (by omega) h2) h⟩⟩
    · refine Or.inr ⟨hkm, Or.inr ?_⟩
      rw [← he k (Nat.le_refl _) hkm]
      exact ⟨hd, h0, hw, fun i h1 h2 => by rw [← he i (by omega) (by omega)]; exact hf i h1 h2, ih _ _ _ _ (fun i h1 h2 => he i (by omega) h2) h⟩
/-- a first choice put before digits -/
theorem PV_st {f k a d u : Nat} {L : Nat → Nat} (hd5 : d ≤ 5) (h : (d = 5 ∧ k < m ∧ ∃ δ, (∀ i, δ i ≤ 5) ∧ PVs n sp pl li δ m f (k + 1) a (fun q => L q - 1) u) ∨ (d < n ∧ 0 < L d ∧ k + (wayN sp a (pl d) + 1) ≤ m ∧ ∃ δ, (∀ i, δ i ≤ 5) ∧ PVs n sp pl li δ m f (k + (wayN sp a (pl d) + 1)) (pl d) (rnL (wayN sp a (pl d)) d (li d) L) u)) : ∃ δ, (∀ i, δ i ≤ 5) ∧ δ k = d ∧ PVs n sp pl li δ m (f + 1) k a L u := by
  rcases h with ⟨rfl, hkm, δ, hb, h⟩ | ⟨hdn, h0, hw, δ, hb, h⟩
  · refine ⟨fun i => if i = k then 5 else δ i, fun i => ?_, if_pos rfl, Or.inr ⟨hkm, Or.inl ⟨if_pos rfl, PV_cg f _ _ _ _ (fun i h1 _ => ?_) h⟩⟩⟩
    · show (if i = k then 5 else δ i) ≤ 5
      split
      · omega
      · exact hb i
    · show δ i = (if i = k then 5 else δ i)
      rw [if_neg (by omega)]
  · have e : (fun i => if i = k then d else if i < k + (wayN sp a (pl d) + 1) then 5 else δ i) k = d := if_pos rfl
    refine ⟨fun i => if i = k then d else if i < k + (wayN sp a (pl d) + 1) then 5 else δ i, fun i => ?_, e, Or.inr ⟨by omega, Or.inr ?_⟩⟩
    · show (if i = k then d else if i < k + (wayN sp a (pl d) + 1) then 5 else δ i) ≤ 5
      split
      · exact hd5
      · split
        · omega
        · exact hb i
    · rw [e]
      refine ⟨hdn, h0, hw, fun i h1 h2 => ?_, PV_cg f _ _ _ _ (fun i h1 _ => ?_) h⟩
      · show (if i = k then d else if i < k + (wayN sp a (pl d) + 1) then 5 else δ i) = 5
        rw [if_neg (by omega), if_pos h2]
      · show δ i = (if i = k then d else if i < k + (wayN sp a (pl d) + 1) then 5 else δ i)
        rw [if_neg (by omega), if_neg (by omega)]
theorem RS_PV (hn : n ≤ 5) : ∀ f b a L u, RS n sp pl li f b a L u → ∀ k, k + b = m → ∃ δ, (∀ i, δ i ≤ 5) ∧ PVs n sp pl li δ m f k a L u := by
  intro f
  induction f with
  | zero => rintro b a L u ⟨rfl, rfl⟩ k hk; exact ⟨fun _ => 0, fun _ => Nat.zero_le _, by omega, rfl⟩
  | succ f ih =>
    rintro b a L u (⟨rfl, rfl⟩ | ⟨h1, h | ⟨p, hp, h0, hw, h⟩⟩) k hk
    · exact ⟨fun _ => 0, fun _ => Nat.zero_le _, Or.inl ⟨by omega, rfl⟩⟩
    · obtain ⟨δ, hb, -, hP⟩ := PV_st (n := n) (sp := sp) (pl := pl) (li := li) (d := 5) (Nat.le_refl _) (Or.inl ⟨rfl, by omega, ih _ _ _ _ h (k + 1) (by omega)⟩)
      exact ⟨δ, hb, hP⟩
    · obtain ⟨δ, hb, -, hP⟩ := PV_st (n := n) (sp := sp) (pl := pl) (li := li) (d := p) (by omega) (Or.inr ⟨hp, h0, by omega, ih _ _ _ _ h (k + (wayN sp a (pl p) + 1)) (by omega)⟩)
      exact ⟨δ, hb, hP⟩
theorem FD_PV (hn : n ≤ 5) (h1 : 1 ≤ m) {a d u : Nat} {L : Nat → Nat} (h : FDs n sp pl li m a L d u) : ∃ δ, (∀ i, δ i ≤ 5) ∧ δ 0 = d ∧ PVs n sp pl li δ m 8 0 a L u := by
  rcases h with ⟨rfl, hr⟩ | ⟨hd, h0, hw, hr⟩
  · exact PV_st (d := 5) (Nat.le_refl _) (Or.inl ⟨rfl, by omega, RS_PV hn _ _ _ _ _ hr (0 + 1) (by omega)⟩)
  · exact PV_st (d := d) (by omega) (Or.inr ⟨hd, h0, by omega, RS_PV hn _ _ _ _ _ hr (0 + (wayN sp a (pl d) + 1)) (by omega)⟩)
theorem PV_FD (h1 : 1 ≤ m) {δ : Nat → Nat} {a u : Nat} {L : Nat → Nat} (h : PVs n sp pl li δ m 8 0 a L u) : FDs n sp pl li m a L (δ 0) u := by
  rcases h with ⟨h0, -⟩ | ⟨-, ⟨hd, h⟩ | ⟨hd, h0, hw, -, h⟩⟩
  · omega
  · refine Or.inl ⟨hd, ?_⟩
    have := PV_RS 7 _ _ _ _ (by omega) h
    rwa [Nat.zero_add] at this
  · refine Or.inr ⟨hd, h0, by omega, ?_⟩
    have := PV_RS 7 _ _ _ _ hw h
    rwa [Nat.zero_add] at this
end PVS
def dgS (m N k : Nat) : Nat := N / 6 ^ (m - 1 - k) % 6
def nuN (δ : Nat → Nat) : Nat → Nat
  | 0 => 0
  | m + 1 => 6 * nuN δ m + δ m
theorem nu_lt {δ : Nat → Nat} (h : ∀ i, δ i ≤ 5) : ∀ m, nuN δ m < 6 ^ m := by
  intro m
  induction m with
  | zero => exact Nat.one_pos
  | succ m ih =>
    have := h m
    show 6 * nuN δ m + δ m < _
    rw [Nat.pow_succ]
    omega
theorem nu_dg {δ : Nat → Nat} (h : ∀ i, δ i ≤ 5) : ∀ m k, k < m → dgS m (nuN δ m) k = δ k := by
  intro m
  induction m with
  | zero => intro k hk; exact absurd hk (Nat.not_lt_zero _)
  | succ m ih =>
    intro k hk
    have h5 := h m
    unfold dgS
    show (6 * nuN δ m + δ m) / 6 ^ (m + 1 - 1 - k) % 6 = δ k
    by_cases g : k = m
    · rw [g, show m + 1 - 1 - m = 0 by omega, Nat.pow_zero, Nat.div_one]
      omega
    · have e := ih k (by omega)
      unfold dgS at e
      rw [show m + 1 - 1 - k = (m - 1 - k) + 1 by omega, Nat.pow_succ, Nat.mul_comm (6 ^ _) 6, ← Nat.div_div_eq_div_mul, show (6 * nuN δ m + δ m) / 6 = nuN δ m by omega]
      exact e
theorem dg_mono {m N N' : Nat} (h1 : 1 ≤ m) (hN' : N' < 6 ^ m) (h : N ≤ N') : dgS m N 0 ≤ dgS m N' 0 := by
  have e : 6 ^ m = 6 ^ (m - 1) * 6 := by rw [← Nat.pow_succ]; congr 1; omega
  have key : ∀ M, M < 6 ^ m → dgS m M 0 = M / 6 ^ (m - 1) := fun M hM => by
    unfold dgS
    rw [Nat.sub_zero]
    exact Nat.mod_eq_of_lt (Nat.div_lt_of_lt_mul (by rw [← e]; exact hM))
  rw [key N (by omega), key N' hN']
  exact Nat.div_le_div_right h
/-! save: the reference's plays -/
def PX (n : Nat) (li : Nat → Nat) (x : PW) (a : Nat) (L : Nat → Nat) : Prop := (∀ p, p < n → x.1 p = L p ∧ x.2.1 p = li p) ∧ x.2.2.2 0 = a
theorem bt1_PX {n a : Nat} {li L : Nat → Nat} {x : PW} (hn : n ≤ 5) (h : PX n li x a L) : PX n li (bt1 n 9 x) a (fun q => L q - 1) := by
  refine ⟨fun p hp => ⟨?_, (h.1 p hp).2⟩, h.2⟩
  show (if p < n ∧ p ≠ 9 then x.1 p - 1 else x.1 p) = L p - 1
  rw [if_pos ⟨hp, by omega⟩, (h.1 p hp).1]
theorem btk_L {n : Nat} (hn : n ≤ 5) : ∀ k x p, p < n → (btk n k x).1 p = x.1 p - k := by
  intro k
  induction k with
  | zero => intro x p _; rfl
  | succ k ih =>
    intro x p hp
    show (btk n k (bt1 n 9 x)).1 p = _
    rw [ih _ p hp]
    show (if p < n ∧ p ≠ 9 then x.1 p - 1 else x.1 p) - k = _
    rw [if_pos ⟨hp, by omega⟩]
    omega
theorem run_PX {n sp p a : Nat} {pl li L : Nat → Nat} {x : PW} (hn : n ≤ 5) (hp : p < n) (h : PX n li x a L) : PX n li (runP n sp pl p x) (pl p) (rnL (wayN sp a (pl p)) p (li p) L) ∧ (runP n sp pl p x).2.2.2 1 = x.2.2.2 1 + (wayN sp a (pl p) + 1) := by
  have ey : ∀ q, q < n → (pwy n sp pl p x).1 q = L q - wayN sp a (pl p) := fun q hq => by
    show (btk n (wayN sp (x.2.2.2 0) (pl p)) x).1 q = _
    rw [btk_L hn _ _ q hq, (h.1 q hq).1, h.2]
  have eb : (pwy n sp pl p x).2.2.2 1 = x.2.2.2 1 + wayN sp a (pl p) := by rw [pwy_beats, h.2]
  have e0 : (pwy n sp pl p x).2.2.2 0 = pl p := rfl
  unfold runP
  by_cases g : 0 < (pwy n sp pl p x).1 p
  · rw [if_pos g]
    rw [ey p hp] at g
    refine ⟨⟨fun q hq => ⟨?_, (h.1 q hq).2⟩, e0⟩, ?_⟩
    · show (if q = p then x.2.1 p else (if q < n ∧ q ≠ p then (pwy n sp pl p x).1 q - 1 else (pwy n sp pl p x).1 q)) = rnL (wayN sp a (pl p)) p (li p) L q
      unfold rnL
      by_cases gq : q = p
      · rw [if_pos gq, if_pos ⟨gq, by omega⟩, (h.1 p hp).2]
      · rw [if_neg gq, if_pos ⟨hq, gq⟩, if_neg (fun w => gq w.1), ey q hq]
        omega
    · show (pwy n sp pl p x).2.2.2 1 + 1 = _
      rw [eb]; omega
  · rw [if_neg g]
    rw [ey p hp] at g
    refine ⟨⟨fun q hq => ⟨?_, (h.1 q hq).2⟩, e0⟩, ?_⟩
    · show (if q < n ∧ q ≠ 9 then (pwy n sp pl p x).1 q - 1 else (pwy n sp pl p x).1 q) = rnL (wayN sp a (pl p)) p (li p) L q
      unfold rnL
      rw [if_pos ⟨hq, by omega⟩, ey q hq, if_neg (by omega)]
      omega
    · show (pwy n sp pl p x).2.2.2 1 + 1 = _
      rw [eb]; omega
theorem ini_PX {n st : Nat} {li le : Nat → Nat} : PX n li (iniP n st li le) st (peN n le) := ⟨fun p hp => ⟨by show le p = peN n le p; unfold peN; rw [if_pos hp], rfl⟩, rfl⟩
theorem cn_up {F : Nat → Nat} : ∀ k, cnS F 0 k = upN F k := by
  intro k
  induction k with
  | zero => rfl
  | succ k ih => show cnS F 0 k + _ = upN F k + _; rw [ih]
theorem up_cg {F L : Nat → Nat} : ∀ k, (∀ p, p < k → F p = L p) → upN F k = upN L k := by
  intro k
  induction k with
  | zero => intro _; rfl
  | succ k ih => intro h; show upN F k + (if 0 < F k then 1 else 0) = upN L k + (if 0 < L k then 1 else 0); rw [ih (fun p hp => h p (by omega)), h k (by omega)]
theorem onesNow {h : Hp} {n sp a : Nat} {pl li L : Nat → Nat} {x : PW} (hn : n ≤ 5) (hx : VX n x) (ms : MS h n sp pl x) (px : PX n li x a L) : (bnd (fX12_standNow h) fun x18 h17 => bnd (fX12_ones x18 h17) fun x20 h19 => some (x20, h19)) = some (nI (upN L n), h) := by
  have h32 := pw32 hn
  have hsb := sbN_lt x.1 n
  have e := pc_cn (F := x.1) (b := 0) hn 10 (Nat.le_refl _)
  rw [show (fun p => x.1 p - 0) = x.1 from rfl, show min 10 n = n by omega, cn_up, up_cg n (fun p hp => (px.1 p hp).1)] at e
  rw [standNow_eq hn ms.2.1 (fun p hp => ⟨(hx.1 p hp).1, (ms.2.2.1 p hp).2.2.1⟩), bnd_eq, ones_eq (by omega), bnd_eq, e]
theorem sixes_eq {t : Nat} (ht : t ≤ 6) (h : Hp) : fX12_sixes (nI t) h = some (nI (6 ^ t), h) := by
  apply wp_same
  unfold fX12_sixes
  refine wp_for2 t (fun i a h' => a = nI (6 ^ i) ∧ h' = h) ?_ ?_ FU 1 h (i0 := 0) (by omega) (FUb (by omega)) ⟨rfl, rfl⟩
  · rintro i a h1 rec hi ⟨rfl, rfl⟩ hrec
    unfold fX12_sixes_l4
    rw [if_neg (fun q => nI_ge hi (by omega) q), show nI (6 ^ i) * (6 : Int32) = nI (6 ^ i * 6) from nI_mul _ 6, lt_eq, lt_eq, nI_1]
    exact hrec _ _ ⟨by rw [Nat.pow_succ], rfl⟩
  · rintro a h1 rec ⟨rfl, rfl⟩
    unfold fX12_sixes_l4
    rw [if_pos (nI_le (Nat.le_refl _) (by omega))]
    exact wp_some ⟨rfl, rfl⟩
theorem digit_eq {m N k : Nat} (hm : m ≤ 6) (hk : k < m) (hN : N < 46656) (h : Hp) : fX12_digit (nI N) (nI k) (nI m) h = some (nI (dgS m N k), h) := by
  unfold fX12_digit
  have hp : 6 ^ (m - 1 - k) ≤ 6 ^ 6 := Nat.pow_le_pow_right (by decide) (by omega)
  have hp1 : 1 ≤ 6 ^ (m - 1 - k) := Nat.one_le_pow _ _ (by decide)
  have e6 : (6 : Nat) ^ 6 = 46656 := rfl
  have hd : N / 6 ^ (m - 1 - k) ≤ N := Nat.div_le_self _ _
  rw [show nI m - (1 : Int32) = nI (m - 1) from nI_sub (b := 1) (by omega), nI_sub (by omega), sixes_eq (by omega), bnd_eq, ck_p (ne0_n hp1 (by omega)), nI_div (by omega) (by omega), show irm (nI (N / 6 ^ (m - 1 - k))) (6 : Int32) = nI (N / 6 ^ (m - 1 - k) % 6) from nI_rem (b := 6) (by omega) (by decide)]
  rfl
theorem dg_lt (m N k : Nat) : dgS m N k ≤ 5 := by
  unfold dgS
  have := Nat.mod_lt (N / 6 ^ (m - 1 - k)) (show 0 < 6 by decide)
  omega
