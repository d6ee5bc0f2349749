/-! load: sums, spans, places -/
theorem CSt.r2 {h : Hp} {j sp st n : Nat} {pl li le : Nat → Nat} (hj : j < 10) (c : CSt h j sp st n pl li le) : rd h 6 j 2 = nI n := by show h.1 6 (j % cnt 6) 2 = _; rw [mj12 (by omega) rfl]; exact c.2.2.1
theorem CSt.r33 {h : Hp} {j sp st n p : Nat} {pl li le : Nat → Nat} (hj : j < 10) (hn : n ≤ 5) (hp : p < n) (c : CSt h j sp st n pl li le) : ra h 33 j (nI p) = nI (pl p) := by rw [ra_n (by omega), mj12 (by omega) rfl]; exact (c.2.2.2 p hp).1
theorem CSt.r34 {h : Hp} {j sp st n p : Nat} {pl li le : Nat → Nat} (hj : j < 10) (hn : n ≤ 5) (hp : p < n) (c : CSt h j sp st n pl li le) : ra h 34 j (nI p) = nI (li p) := by rw [ra_n (by omega), mj12 (by omega) rfl]; exact (c.2.2.2 p hp).2.1
theorem CSt.r35 {h : Hp} {j sp st n p : Nat} {pl li le : Nat → Nat} (hj : j < 10) (hn : n ≤ 5) (hp : p < n) (c : CSt h j sp st n pl li le) : ra h 35 j (nI p) = nI (le p) := by rw [ra_n (by omega), mj12 (by omega) rfl]; exact (c.2.2.2 p hp).2.2
theorem MB.r22 {h : Hp} {sp st n : Nat} {pl li le : Nat → Nat} (m : MB h sp st n pl li le) : rd h 10 0 22 = nI n := m.1
theorem MB.r53 {h : Hp} {sp st n p : Nat} {pl li le : Nat → Nat} (hn : n ≤ 5) (hp : p < n) (m : MB h sp st n pl li le) : ra h 53 0 (nI p) = nI (pl p) := by rw [ra_n (by omega)]; exact (m.2.2.2 p hp).1
theorem MB.r54 {h : Hp} {sp st n p : Nat} {pl li le : Nat → Nat} (hn : n ≤ 5) (hp : p < n) (m : MB h sp st n pl li le) : ra h 54 0 (nI p) = nI (li p) := by rw [ra_n (by omega)]; exact (m.2.2.2 p hp).2.1
theorem MB.r55 {h : Hp} {sp st n p : Nat} {pl li le : Nat → Nat} (hn : n ≤ 5) (hp : p < n) (m : MB h sp st n pl li le) : ra h 55 0 (nI p) = nI (le p) := by rw [ra_n (by omega)]; exact (m.2.2.2 p hp).2.2
def ldN (li : Nat → Nat) : Nat → Nat
  | 0 => 0
  | k + 1 => ldN li k + 60 / li k
theorem ldN_le (li : Nat → Nat) : ∀ k, ldN li k ≤ 60 * k := by
  intro k
  induction k with
  | zero => exact Nat.le_refl _
  | succ k ih =>
    show ldN li k + 60 / li k ≤ _
    have := Nat.div_le_self 60 (li k)
    omega
theorem ne0_n {x : Nat} (h1 : 1 ≤ x) (h2 : x < 2 ^ 31) : (!decide (nI x = 0)) = true := by
  rw [Bool.not_eq_true', decide_eq_false_iff_not]
  exact fun q => by have := (eq0_n h2).mp q; omega
theorem max1_n {x : Nat} (h1 : 1 ≤ x) (h2 : x < 2 ^ 31) : (if (1 : Int32) < nI x then nI x else 1) = nI x := by
  by_cases g : x = 1
  · rw [g]; rfl
  · rw [if_pos (show (1 : Int32) < nI x from nI_lt (a := 1) (by omega) h2)]
theorem loadC {h : Hp} {j sp st n : Nat} {pl li le : Nat → Nat} {z : Int32} (hj : j < 10) (hs : SV sp st n pl li le) (c : CSt h j sp st n pl li le) : fX8_loadPart j z h = some (nI ((if z = 0 then ldN li n else 60) / Nat.gcd (ldN li n) 60), h) := by
  have hn := hs.2.2.2.1
  apply wp_same
  unfold fX8_loadPart
  refine wp_for2 n (fun i a h' => a = nI (ldN li i) ∧ h' = h) ?_ ?_ FU 0 h (i0 := 0) (by omega) (FUb (by omega)) ⟨rfl, rfl⟩
  · rintro i a h1 rec hi ⟨rfl, rfl⟩ hrec
    unfold fX8_loadPart_l4
    have hli := hs.2.2.2.2 i hi
    rw [c.r2 hj, if_neg (fun q => nI_ge hi (by omega) q), ck_p (ib_nI (by omega) (by decide)), c.r34 hj hn hi, max1_n (by omega) (by omega), lt_eq, ck_p (ne0_n (by omega) (by omega)), show (60 : Int32) / nI (li i) = nI (60 / li i) from nI_div (a := 60) (by decide) (by omega), nI_add, lt_eq, lt_eq, nI_1]
    exact hrec _ _ ⟨rfl, rfl⟩
  · rintro a h1 rec ⟨rfl, rfl⟩
    unfold fX8_loadPart_l4
    have hb := ldN_le li n
    have hg : 1 ≤ Nat.gcd (ldN li n) 60 := Nat.gcd_pos_of_pos_right _ (by decide)
    have hg2 : Nat.gcd (ldN li n) 60 ≤ 60 := Nat.gcd_le_right _ (by decide)
    rw [c.r2 hj, if_pos (nI_le (Nat.le_refl _) (by omega))]
    dsimp only
    rw [show (60 : Int32) = nI 60 from rfl, commonDivisor_eq (by omega) (by decide), bnd_eq, max1_n hg (by omega), lt_eq]
    by_cases g : z = 0
    · rw [if_pos g, if_pos g, ck_p (ne0_n hg (by omega)), nI_div (by omega) (by omega)]
      exact wp_some ⟨rfl, rfl⟩
    · rw [if_neg g, if_neg g, ck_p (ne0_n hg (by omega)), nI_div (by decide) (by omega)]
      exact wp_some ⟨rfl, rfl⟩
theorem loadM {h : Hp} {sp st n : Nat} {pl li le : Nat → Nat} (hs : SV sp st n pl li le) (m : MB h sp st n pl li le) : fX12_loadOf h = some (nI (ldN li n), h) := by
  have hn := hs.2.2.2.1
  apply wp_same
  unfold fX12_loadOf
  refine wp_for2 n (fun i a h' => a = nI (ldN li i) ∧ h' = h) ?_ ?_ FU 0 h (i0 := 0) (by omega) (FUb (by omega)) ⟨rfl, rfl⟩
  · rintro i a h1 rec hi ⟨rfl, rfl⟩ hrec
    unfold fX12_loadOf_l4
    have hli := hs.2.2.2.2 i hi
    rw [m.r22, if_neg (fun q => nI_ge hi (by omega) q), ck_p (ib_nI (by omega) (by decide)), m.r54 hn hi, ck_p (ne0_n (by omega) (by omega)), show (60 : Int32) / nI (li i) = nI (60 / li i) from nI_div (a := 60) (by decide) (by omega), nI_add, lt_eq, lt_eq, nI_1]
    exact hrec _ _ ⟨rfl, rfl⟩
  · rintro a h1 rec ⟨rfl, rfl⟩
    unfold fX12_loadOf_l4
    rw [m.r22, if_pos (nI_le (Nat.le_refl _) (by omega))]
    exact wp_some ⟨rfl, rfl⟩
def loN (pl : Nat → Nat) : Nat → Nat
  | 0 => 1000000
  | k + 1 => min (loN pl k) (pl k)
def hiN (pl : Nat → Nat) : Nat → Nat
  | 0 => 0
  | k + 1 => max (hiN pl k) (pl k)
theorem loN_b {pl : Nat → Nat} : ∀ k, loN pl k ≤ 1000000 := by
  intro k
  induction k with
  | zero => exact Nat.le_refl _
  | succ k ih => show min (loN pl k) (pl k) ≤ _; omega
theorem hiN_b {pl : Nat → Nat} : ∀ k, (∀ p, p < k → pl p ≤ 9) → hiN pl k ≤ 9 := by
  intro k
  induction k with
  | zero => intro _; exact Nat.zero_le _
  | succ k ih =>
    intro h
    have := ih (fun p hp => h p (by omega))
    have := h k (by omega)
    show max (hiN pl k) (pl k) ≤ _
    omega
theorem lo_hi {pl : Nat → Nat} : ∀ k, 1 ≤ k → loN pl k ≤ hiN pl k := by
  intro k hk
  cases k with
  | zero => omega
  | succ k => show min (loN pl k) (pl k) ≤ max (hiN pl k) (pl k); omega
theorem spanC {h : Hp} {j sp st n : Nat} {pl li le : Nat → Nat} (hj : j < 10) (hs : SV sp st n pl li le) (c : CSt h j sp st n pl li le) : fX8_span j h = some (if n = 0 then 0 else nI (hiN pl n - loN pl n), h) := by
  have hn := hs.2.2.2.1
  unfold fX8_span
  rw [c.r2 hj]
  by_cases g : n = 0
  · rw [if_pos ((eq0_n (by omega)).mpr g), if_pos g]
  · have h0 := hs.2.2.2.2 0 (by omega)
    rw [if_neg (fun q => g ((eq0_n (by omega)).mp q)), if_neg g, ck_p (show ib 0 5 = true from rfl), show ra h 33 j 0 = nI (pl 0) from c.r33 hj hn (p := 0) (by omega), lt_eq, ck_p (show ib 0 5 = true from rfl), lt_eq]
    apply wp_same
    refine wp_for3 n (fun i a b h' => 1 ≤ i ∧ a = nI (loN pl i) ∧ b = nI (hiN pl i) ∧ h' = h) ?_ ?_ FU _ _ h (i0 := 1) (by omega) (FUb (by omega)) ⟨by omega, ?_, ?_, rfl⟩
    · rintro i a b h1 rec hi ⟨h1i, rfl, rfl, rfl⟩ hrec
      unfold fX8_span_l25
      have hp := hs.2.2.2.2 i hi
      have b1 := loN_b (pl := pl) i
      have b2 := hiN_b (pl := pl) i (fun p hp => (hs.2.2.2.2 p (by omega)).1)
      rw [c.r2 hj, if_neg (fun q => nI_ge hi (by omega) q), ck_p (ib_nI (by omega) (by decide)), c.r33 hj hn hi, minI (by omega) (by omega), lt_eq, ck_p (ib_nI (by omega) (by decide)), maxI (by omega) (by omega), lt_eq, lt_eq, nI_1]
      exact hrec _ _ _ ⟨by omega, rfl, rfl, rfl⟩
    · rintro a b h1 rec ⟨h1i, rfl, rfl, rfl⟩
      unfold fX8_span_l25
      rw [c.r2 hj, if_pos (nI_le (Nat.le_refl _) (by omega))]
      dsimp only
      rw [nI_sub (lo_hi n h1i)]
      exact wp_some ⟨rfl, rfl⟩
    · show nI (pl 0) = nI (min 1000000 (pl 0))
      rw [Nat.min_eq_right (by omega)]
    · show nI (pl 0) = nI (max 0 (pl 0))
      rw [Nat.max_eq_right (by omega)]
theorem spanM {h : Hp} {sp st n : Nat} {pl li le : Nat → Nat} (hs : SV sp st n pl li le) (m : MB h sp st n pl li le) : fX12_span h = some (if n = 0 then 0 else nI (hiN pl n - loN pl n), h) := by
  have hn := hs.2.2.2.1
  apply wp_same
  unfold fX12_span
  refine wp_for3 n (fun i a b h' => a = nI (loN pl i) ∧ b = nI (hiN pl i) ∧ h' = h) ?_ ?_ FU _ _ h (i0 := 0) (by omega) (FUb (by omega)) ⟨rfl, rfl, rfl⟩
  · rintro i a b h1 rec hi ⟨rfl, rfl, rfl⟩ hrec
    unfold fX12_span_l8
    have hp := hs.2.2.2.2 i hi
    have b1 := loN_b (pl := pl) i
    have b2 := hiN_b (pl := pl) i (fun p hp => (hs.2.2.2.2 p (by omega)).1)
    rw [m.r22, if_neg (fun q => nI_ge hi (by omega) q), ck_p (ib_nI (by omega) (by decide)), m.r53 hn hi, lesser_eqN (by omega) (by omega), bnd_eq, ck_p (ib_nI (by omega) (by decide)), m.r53 hn hi, maxI' (by omega) (by omega), bnd_eq, lt_eq, nI_1]
    exact hrec _ _ _ ⟨rfl, rfl, rfl⟩
  · rintro a b h1 rec ⟨rfl, rfl, rfl⟩
    unfold fX12_span_l8
    rw [m.r22, if_pos (nI_le (Nat.le_refl _) (by omega))]
    dsimp only
    rw [m.r22]
    by_cases g : n = 0
    · rw [if_pos ((eq0_n (by omega)).mpr g), if_pos g]
      exact wp_some ⟨rfl, rfl⟩
    · rw [if_neg (fun q => g ((eq0_n (by omega)).mp q)), if_neg g, nI_sub (lo_hi n (by omega))]
      exact wp_some ⟨rfl, rfl⟩
theorem lateC {h : Hp} {j sp st n : Nat} {pl li le : Nat → Nat} (hj : j < 10) (hs : SV sp st n pl li le) (c : CSt h j sp st n pl li le) : ∃ b, fX8_latePlates j h = some (nI b, h) ∧ BTs (fun p => ¬ wayN sp st (pl p) < le p) n b := by
  have hn := hs.2.2.2.1
  suffices hw : WP (fX8_latePlates j h) (fun r h' => h' = h ∧ ∃ b, r = nI b ∧ BTs (fun p => ¬ wayN sp st (pl p) < le p) n b) by
    obtain ⟨r, h', e, rfl, b, rfl, q2⟩ := hw
    exact ⟨b, e, q2⟩
  unfold fX8_latePlates
  refine wp_for2 n (fun i a h' => h' = h ∧ ∃ b, a = nI b ∧ BTs (fun p => ¬ wayN sp st (pl p) < le p) i b) ?_ ?_ FU 0 h (i0 := 0) (by omega) (FUb (by omega)) ⟨rfl, 0, rfl, rfl⟩
  · rintro i a h1 rec hi ⟨rfl, b, rfl, hb⟩ hrec
    unfold fX8_latePlates_l4
    have hp := hs.2.2.2.2 i hi
    have hw := wayN_le hs.1 hs.2.2.1 hp.1
    have r1 : rd h1 6 j 1 = nI st := by show h1.1 6 (j % cnt 6) 1 = _; rw [mj12 (by omega) rfl]; exact c.2.1
    rw [c.r2 hj, if_neg (fun q => nI_ge hi (by omega) q), ck_p (ib_nI (by omega) (by decide)), ck_p (ib_nI (by omega) (by decide)), r1, c.r33 hj hn hi, way8_eq (by omega) hs.1 hs.2.1 c.1 hs.2.2.1 hp.1, bnd_eq, jn_eq, c.r35 hj hn hi]
    by_cases g : wayN sp st (pl i) < le i
    · rw [if_pos (nI_lt g (by omega))]
      dsimp only
      rw [lt_eq, nI_1]
      exact hrec _ _ ⟨rfl, b, rfl, b, hb, Or.inr ⟨fun w => w g, rfl⟩⟩
    · rw [if_neg (fun q => g ((lt_n (by omega) (by omega)).mp q)), orB_eq (BTs.lt _ _ hb) (by omega), lt_eq]
      dsimp only
      rw [lt_eq, nI_1]
      exact hrec _ _ ⟨rfl, _, rfl, b, hb, Or.inl ⟨g, rfl⟩⟩
  · rintro a h1 rec ⟨rfl, b, rfl, hb⟩
    unfold fX8_latePlates_l4
    rw [c.r2 hj, if_pos (nI_le (Nat.le_refl _) (by omega))]
    exact wp_some ⟨rfl, b, rfl, hb⟩
theorem lateM {h : Hp} {sp st n : Nat} {pl li le : Nat → Nat} (hs : SV sp st n pl li le) (m : MB h sp st n pl li le) : ∃ b, fX12_late h = some (nI b, h) ∧ BTs (fun p => ¬ wayN sp st (pl p) < le p) n b := by
  have hn := hs.2.2.2.1
  suffices hw : WP (fX12_late h) (fun r h' => h' = h ∧ ∃ b, r = nI b ∧ BTs (fun p => ¬ wayN sp st (pl p) < le p) n b) by
    obtain ⟨r, h', e, rfl, b, rfl, q2⟩ := hw
    exact ⟨b, e, q2⟩
  unfold fX12_late
  refine wp_for2 n (fun i a h' => h' = h ∧ ∃ b, a = nI b ∧ BTs (fun p => ¬ wayN sp st (pl p) < le p) i b) ?_ ?_ FU 0 h (i0 := 0) (by omega) (FUb (by omega)) ⟨rfl, 0, rfl, rfl⟩
  · rintro i a h1 rec hi ⟨rfl, b, rfl, hb⟩ hrec
    unfold fX12_late_l4
    have hp := hs.2.2.2.2 i hi
    have hw := wayN_le hs.1 hs.2.2.1 hp.1
    rw [m.r22, if_neg (fun q => nI_ge hi (by omega) q), ck_p (ib_nI (by omega) (by decide)), ck_p (ib_nI (by omega) (by decide)), show rd h1 10 0 24 = nI st from m.2.2.1, m.r53 hn hi, way12_eq hs.1 hs.2.1 m.2.1 hs.2.2.1 hp.1, bnd_eq, jn_eq, m.r55 hn hi, nI_1]
    by_cases g : wayN sp st (pl i) < le i
    · rw [if_pos (nI_le g (by omega))]
      dsimp only
      rw [or_z, lt_eq, lt_eq, nI_1]
      exact hrec _ _ ⟨rfl, b, rfl, b, hb, Or.inr ⟨fun w => w g, rfl⟩⟩
    · rw [if_neg (fun q => g ((le_n (by omega) (by omega)).mp q))]
      dsimp only
      rw [orB_eq (BTs.lt _ _ hb) (by omega), lt_eq, lt_eq, nI_1]
      exact hrec _ _ ⟨rfl, _, rfl, b, hb, Or.inl ⟨g, rfl⟩⟩
  · rintro a h1 rec ⟨rfl, b, rfl, hb⟩
    unfold fX12_late_l4
    rw [m.r22, if_pos (nI_le (Nat.le_refl _) (by omega))]
    exact wp_some ⟨rfl, b, rfl, hb⟩
def wfN (sp x : Nat) (pl : Nat → Nat) : Nat → Nat
  | 0 => 0
  | k + 1 => wfN sp x pl k + wayN sp x (pl k)
theorem wfN_le {sp st n x : Nat} {pl li le : Nat → Nat} (hs : SV sp st n pl li le) (hx : x ≤ 9) : ∀ k, k ≤ n → wfN sp x pl k ≤ 9 * k := by
  intro k
  induction k with
  | zero => intro _; exact Nat.le_refl _
  | succ k ih =>
    intro hk
    have := ih (by omega)
    have := wayN_le hs.1 hx (hs.2.2.2.2 k (by omega)).1
    show wfN sp x pl k + wayN sp x (pl k) ≤ _
    omega
theorem waysC {h : Hp} {j sp st n x : Nat} {pl li le : Nat → Nat} (hj : j < 10) (hx : x ≤ 9) (hs : SV sp st n pl li le) (c : CSt h j sp st n pl li le) : fX8_waysFrom j (nI x) h = some (nI (wfN sp x pl n), h) := by
  have hn := hs.2.2.2.1
  apply wp_same
  unfold fX8_waysFrom
  refine wp_for2 n (fun i a h' => a = nI (wfN sp x pl i) ∧ h' = h) ?_ ?_ FU 0 h (i0 := 0) (by omega) (FUb (by omega)) ⟨rfl, rfl⟩
  · rintro i a h1 rec hi ⟨rfl, rfl⟩ hrec
    unfold fX8_waysFrom_l4
    have hp := hs.2.2.2.2 i hi
    rw [c.r2 hj, if_neg (fun q => nI_ge hi (by omega) q), ck_p (ib_nI (by omega) (by decide)), c.r33 hj hn hi, way8_eq (by omega) hs.1 hs.2.1 c.1 hx hp.1, bnd_eq, nI_add, lt_eq, lt_eq, nI_1]
    exact hrec _ _ ⟨rfl, rfl⟩
  · rintro a h1 rec ⟨rfl, rfl⟩
    unfold fX8_waysFrom_l4
    rw [c.r2 hj, if_pos (nI_le (Nat.le_refl _) (by omega))]
    exact wp_some ⟨rfl, rfl⟩
theorem waysM {h : Hp} {sp st n x : Nat} {pl li le : Nat → Nat} (hx : x ≤ 9) (hs : SV sp st n pl li le) (m : MB h sp st n pl li le) : fX12_waysFrom (nI x) h = some (nI (wfN sp x pl n), h) := by
  have hn := hs.2.2.2.1
  apply wp_same
  unfold fX12_waysFrom
  refine wp_for2 n (fun i a h' => a = nI (wfN sp x pl i) ∧ h' = h) ?_ ?_ FU 0 h (i0 := 0) (by omega) (FUb (by omega)) ⟨rfl, rfl⟩
  · rintro i a h1 rec hi ⟨rfl, rfl⟩ hrec
    unfold fX12_waysFrom_l4
    have hp := hs.2.2.2.2 i hi
    rw [m.r22, if_neg (fun q => nI_ge hi (by omega) q), ck_p (ib_nI (by omega) (by decide)), m.r53 hn hi, way12_eq hs.1 hs.2.1 m.2.1 hx hp.1, bnd_eq, nI_add, lt_eq, lt_eq, nI_1]
    exact hrec _ _ ⟨rfl, rfl⟩
  · rintro a h1 rec ⟨rfl, rfl⟩
    unfold fX12_waysFrom_l4
    rw [m.r22, if_pos (nI_le (Nat.le_refl _) (by omega))]
    exact wp_some ⟨rfl, rfl⟩
def ceN (sp n : Nat) (pl : Nat → Nat) : Nat → Nat
  | 0 => 0
  | k + 1 => if wfN sp (ceN sp n pl k) pl n ≤ wfN sp (k + 1) pl n then ceN sp n pl k else k + 1
theorem ceN_le (sp n : Nat) (pl : Nat → Nat) : ∀ k, ceN sp n pl k ≤ k := by
  intro k
  induction k with
  | zero => exact Nat.le_refl _
  | succ k ih =>
    have e : ceN sp n pl (k + 1) = if wfN sp (ceN sp n pl k) pl n ≤ wfN sp (k + 1) pl n then ceN sp n pl k else k + 1 := rfl
    rw [e]
    by_cases g : wfN sp (ceN sp n pl k) pl n ≤ wfN sp (k + 1) pl n
    · rw [if_pos g]; omega
    · rw [if_neg g]; omega
theorem centreC {h : Hp} {j sp st n : Nat} {pl li le : Nat → Nat} (hj : j < 10) (hs : SV sp st n pl li le) (c : CSt h j sp st n pl li le) : fX8_centre j h = some (nI (ceN sp n pl 9), h) := by
  have hn := hs.2.2.2.1
  apply wp_same
  unfold fX8_centre
  refine wp_for2 10 (fun i a h' => 1 ≤ i ∧ a = nI (ceN sp n pl (i - 1)) ∧ h' = h) ?_ ?_ FU 0 h (i0 := 1) (by omega) (FUb (by decide)) ⟨by omega, rfl, rfl⟩
  · rintro i a h1 rec hi ⟨h1i, rfl, rfl⟩ hrec
    unfold fX8_centre_l4
    obtain ⟨k, rfl⟩ : ∃ k, i = k + 1 := ⟨i - 1, by omega⟩
    rw [Nat.add_sub_cancel]
    have hc := ceN_le sp n pl k
    have b1 := wfN_le hs (show k + 1 ≤ 9 by omega) n (Nat.le_refl _)
    have b2 := wfN_le hs (show ceN sp n pl k ≤ 9 by omega) n (Nat.le_refl _)
    rw [if_neg (show ¬ (10 : Int32) ≤ nI (k + 1) from fun q => nI_ge hi (by decide) q), waysC hj (by omega) hs c, bnd_eq, waysC hj (by omega) hs c, bnd_eq, jn_eq]
    have e : ceN sp n pl (k + 1) = if wfN sp (ceN sp n pl k) pl n ≤ wfN sp (k + 1) pl n then ceN sp n pl k else k + 1 := rfl
    by_cases g : wfN sp (ceN sp n pl k) pl n ≤ wfN sp (k + 1) pl n
    · rw [if_pos (nI_le g (by omega))]
      dsimp only
      rw [lt_eq, nI_1]
      refine hrec _ _ ⟨by omega, ?_, rfl⟩
      rw [Nat.add_sub_cancel, e, if_pos g]
    · rw [if_neg (fun q => g ((le_n (by omega) (by omega)).mp q))]
      dsimp only
      rw [lt_eq, nI_1]
      refine hrec _ _ ⟨by omega, ?_, rfl⟩
      rw [Nat.add_sub_cancel, e, if_neg g]
  · rintro a h1 rec ⟨-, rfl, rfl⟩
    unfold fX8_centre_l4
    rw [if_pos (show (10 : Int32) ≤ nI 10 by decide)]
    exact wp_some ⟨rfl, rfl⟩
theorem centreM {h : Hp} {sp st n : Nat} {pl li le : Nat → Nat} (hs : SV sp st n pl li le) (m : MB h sp st n pl li le) : fX12_centre h = some (nI (ceN sp n pl 9), h) := by
  have hn := hs.2.2.2.1
  apply wp_same
  unfold fX12_centre
  refine wp_for2 10 (fun i a h' => 1 ≤ i ∧ a = nI (ceN sp n pl (i - 1)) ∧ h' = h) ?_ ?_ FU 0 h (i0 := 1) (by omega) (FUb (by decide)) ⟨by omega, rfl, rfl⟩
  · rintro i a h1 rec hi ⟨h1i, rfl, rfl⟩ hrec
    unfold fX12_centre_l4
    obtain ⟨k, rfl⟩ : ∃ k, i = k + 1 := ⟨i - 1, by omega⟩
    rw [Nat.add_sub_cancel]
    have hc := ceN_le sp n pl k
    have b1 := wfN_le hs (show k + 1 ≤ 9 by omega) n (Nat.le_refl _)
    have b2 := wfN_le hs (show ceN sp n pl k ≤ 9 by omega) n (Nat.le_refl _)
    rw [if_neg (show ¬ (10 : Int32) ≤ nI (k + 1) from fun q => nI_ge hi (by decide) q), waysM (by omega) hs m, bnd_eq, waysM (by omega) hs m, bnd_eq, jn_eq]
    have e : ceN sp n pl (k + 1) = if wfN sp (ceN sp n pl k) pl n ≤ wfN sp (k + 1) pl n then ceN sp n pl k else k + 1 := rfl
    by_cases g : wfN sp (ceN sp n pl k) pl n ≤ wfN sp (k + 1) pl n
    · rw [if_pos (nI_le g (by omega))]
      dsimp only
      rw [lt_eq, nI_1]
      refine hrec _ _ ⟨by omega, ?_, rfl⟩
      rw [Nat.add_sub_cancel, e, if_pos g]
    · rw [if_neg (fun q => g ((le_n (by omega) (by omega)).mp q))]
      dsimp only
      rw [lt_eq, nI_1]
      refine hrec _ _ ⟨by omega, ?_, rfl⟩
      rw [Nat.add_sub_cancel, e, if_neg g]
  · rintro a h1 rec ⟨-, rfl, rfl⟩
    unfold fX12_centre_l4
    rw [if_pos (show (10 : Int32) ≤ nI 10 by decide)]
    exact wp_some ⟨rfl, rfl⟩
