/-! G2: text. Bytes, and what a token is -/
theorem lt_n {a b : Nat} (ha : a < 2 ^ 31) (hb : b < 2 ^ 31) : (nI a < nI b) ↔ a < b := by
  rw [Int32.lt_iff_toInt_lt, nI_toInt ha, nI_toInt hb]; omega
theorem le_n {a b : Nat} (ha : a < 2 ^ 31) (hb : b < 2 ^ 31) : (nI a ≤ nI b) ↔ a ≤ b := by
  rw [Int32.le_iff_toInt_le, nI_toInt ha, nI_toInt hb]; omega
theorem eq_n {a b : Nat} (ha : a < 2 ^ 31) (hb : b < 2 ^ 31) : (nI a = nI b) ↔ a = b := by
  refine ⟨fun h => ?_, fun h => by rw [h]⟩
  have := congrArg Int32.toInt h
  rw [nI_toInt ha, nI_toInt hb] at this
  omega
def by8 (x : Int32) : Nat := (x &&& 255).toNatClampNeg
theorem by8_eq (x : Int32) : x &&& 255 = nI (by8 x) ∧ by8 x < 256 := by
  have h1 : (x &&& 255).toBitVec.toNat < 256 := by
    show (x.toBitVec &&& 255#32).toNat < 256
    rw [BitVec.toNat_and]
    exact Nat.lt_of_le_of_lt (Nat.and_le_right) (by decide)
  have h2 : ¬ (x &&& 255) < 0 := by
    rw [Int32.lt_iff_toInt_lt]
    show ¬ (x &&& 255).toBitVec.toInt < 0
    rw [BitVec.toInt_eq_toNat_of_lt (by omega)]
    omega
  obtain ⟨j, hj, e⟩ := nI_of h2
  have e3 : by8 x = j := by unfold by8; rw [e, nI_clamp hj]
  refine ⟨by rw [e3]; exact e, ?_⟩
  rw [e3]
  have : (x &&& 255).toBitVec.toNat = j := by
    rw [e]
    have h4 := nI_toInt hj
    have h5 : (nI j).toBitVec.toInt = (j : Int) := h4
    rw [e] at h1
    rw [BitVec.toInt_eq_toNat_of_lt (by omega)] at h5
    omega
  omega
def rn (P : Nat → Bool) (b : Nat → Nat) : Nat → Nat → Nat
  | 0, p => p
  | f + 1, p => if P (b p) = true then rn P b f (p + 1) else p
theorem rn_ge (P : Nat → Bool) (b : Nat → Nat) : ∀ f p, p ≤ rn P b f p := by
  intro f
  induction f with
  | zero => intro p; exact Nat.le_refl _
  | succ f ih =>
    intro p
    unfold rn
    split
    · exact Nat.le_trans (Nat.le_succ p) (ih _)
    · exact Nat.le_refl _
theorem rn_le (P : Nat → Bool) (b : Nat → Nat) : ∀ f p, rn P b f p ≤ p + f := by
  intro f
  induction f with
  | zero => intro p; exact Nat.le_refl _
  | succ f ih =>
    intro p
    unfold rn
    split
    · have := ih (p + 1); omega
    · omega
theorem rn_all (P : Nat → Bool) (b : Nat → Nat) : ∀ f p j, p ≤ j → j < rn P b f p → P (b j) = true := by
  intro f
  induction f with
  | zero => intro p j h1 h2; unfold rn at h2; omega
  | succ f ih =>
    intro p j h1 h2
    unfold rn at h2
    split at h2
    · rename_i hp
      rcases Nat.lt_or_ge p j with q | q
      · exact ih (p + 1) j q h2
      · have : p = j := by omega
        subst this; exact hp
    · omega
theorem rn_stop {P : Nat → Bool} {b : Nat → Nat} {n i : Nat} (h : i < n) (hp : P (b i) = false) : rn P b (n - i) i = i := by
  obtain ⟨f, hf⟩ : ∃ f, n - i = f + 1 := ⟨n - i - 1, by omega⟩
  rw [hf]; unfold rn; rw [hp]; rfl
theorem rn_go {P : Nat → Bool} {b : Nat → Nat} {n i : Nat} (h : i < n) (hp : P (b i) = true) : rn P b (n - i) i = rn P b (n - (i + 1)) (i + 1) := by
  obtain ⟨f, hf⟩ : ∃ f, n - i = f + 1 := ⟨n - i - 1, by omega⟩
  rw [hf]; conv => lhs; unfold rn
  rw [if_pos hp, show n - (i + 1) = f by omega]
theorem rn_end {P : Nat → Bool} {b : Nat → Nat} {n : Nat} : rn P b (n - n) n = n := by rw [Nat.sub_self]; rfl
def pB (c : Nat) : Bool := decide (c = 10) || decide (c = 32)
def pL (c : Nat) : Bool := decide (97 ≤ c) && decide (c ≤ 122)
def pD (c : Nat) : Bool := decide (48 ≤ c) && decide (c ≤ 57)
def tq (b : Nat → Nat) (n p : Nat) : Nat := rn pB b (n - p) p
/-- the kind of the token that begins at q: 0 end, 1 word, 2 number, 3 semicolon, 4 none -/
def tk (b : Nat → Nat) (n q : Nat) : Nat := if n ≤ q then 0 else if b q = 59 then 3 else if pL (b q) = true then 1 else if pD (b q) = true then (if rn pD b (n - q) q - q ≤ 2 then 2 else 4) else 4
def tr (b : Nat → Nat) (n q : Nat) : Nat := if n ≤ q then q else if b q = 59 then q + 1 else if pL (b q) = true then rn pL b (n - q) q else if pD (b q) = true then rn pD b (n - q) q else q
theorem tq_ge (b : Nat → Nat) (n p : Nat) : p ≤ tq b n p := rn_ge _ _ _ _
theorem tq_le {b : Nat → Nat} {n p : Nat} (h : p ≤ n) : tq b n p ≤ n := by have := rn_le pB b (n - p) p; unfold tq; omega
theorem tr_ge (b : Nat → Nat) (n q : Nat) : q ≤ tr b n q := by
  unfold tr
  split
  · omega
  · split
    · omega
    · split
      · exact rn_ge _ _ _ _
      · split
        · exact rn_ge _ _ _ _
        · omega
theorem tr_le {b : Nat → Nat} {n q : Nat} (h : q ≤ n) : tr b n q ≤ n := by
  unfold tr
  split
  · omega
  · split
    · omega
    · split
      · have := rn_le pL b (n - q) q; omega
      · split
        · have := rn_le pD b (n - q) q; omega
        · omega
/-- a token that is one goes on -/
theorem tr_gt {b : Nat → Nat} {n q : Nat} (h0 : tk b n q ≠ 0) (h4 : tk b n q ≠ 4) : q < tr b n q := by
  unfold tk at h0 h4
  unfold tr
  split at h0
  · exact absurd rfl h0
  · rename_i hq
    rw [if_neg hq] at h4 ⊢
    split
    · omega
    · rename_i h59
      rw [if_neg h59] at h4
      split
      · rename_i hl
        rw [rn_go (by omega) hl]
        exact Nat.lt_of_lt_of_le (Nat.lt_succ_self q) (rn_ge _ _ _ _)
      · rename_i hl
        rw [if_neg hl] at h4
        split
        · rename_i hd
          rw [rn_go (by omega) hd]
          exact Nat.lt_of_lt_of_le (Nat.lt_succ_self q) (rn_ge _ _ _ _)
        · rename_i hd
          rw [if_neg hd] at h4
          exact absurd rfl h4
/-! the class's tokens -/
def BY (h : Hp) (k : Nat) (b : Nat → Nat) : Prop := ∀ j, j < 600 → h.1 k 0 j &&& 255 = nI (b j) ∧ b j < 256
def CT (h : Hp) (b : Nat → Nat) (n p : Nat) : Prop := h.1 3 0 5 = 1 ∧ h.1 3 0 6 = nI n ∧ h.1 3 0 7 = nI p ∧ n ≤ 600 ∧ p ≤ n ∧ BY h 36 b
theorem byteAt_eq {h : Hp} {b : Nat → Nat} {n p : Nat} (c : CT h b n p) {j : Nat} (hj : j ≤ n) : fX5_byteAt (nI j) h = some (if j < n then nI (b j) else -1, h) := by
  obtain ⟨c5, c6, c7, hn, hp, hb⟩ := c
  have e5 : rd h 3 0 5 = 1 := c5
  have e6 : rd h 3 0 6 = nI n := c6
  unfold fX5_byteAt
  simp only [jn_eq]
  rw [if_neg (nI_pos (by omega)), e6, e5]
  by_cases hjn : j < n
  · rw [if_neg (nI_ge hjn (by omega)), ck_p (by rfl), if_neg (show ¬ (600 : Int32) ≤ nI j from nI_ge (show j < 600 by omega) (by decide)), ck_p (by rfl), ck_p (ib_nI (show j < 600 by omega) (by decide)), ra_n (by omega), if_pos hjn]
    have := (hb j (by omega)).1
    rw [← this]; rfl
  · rw [if_pos (nI_le (by omega) (by omega)), if_neg hjn]
theorem isBlank_eq (h : Hp) {c : Nat} (hc : c < 256) : fX5_isBlank (nI c) h = some (if pB c = true then 1 else 0, h) := by
  unfold fX5_isBlank
  simp only [jn_eq, zk_0, zk_1, ck_t, show (10 : Int32) = nI 10 from rfl, show (32 : Int32) = nI 32 from rfl, eq_n (show c < 2 ^ 31 by omega) (show 10 < 2 ^ 31 by decide), eq_n (show c < 2 ^ 31 by omega) (show 32 < 2 ^ 31 by decide)]
  unfold pB
  by_cases h1 : c = 10
  · simp [h1]
  · by_cases h2 : c = 32
    · simp [h2]
    · simp [h1, h2]
theorem isDigit_eq (h : Hp) {c : Nat} (hc : c < 256) : fX5_isDigit (nI c) h = some (if pD c = true then 1 else 0, h) := by
  unfold fX5_isDigit
  simp only [jn_eq, zk_0, zk_1, ck_t, show (48 : Int32) = nI 48 from rfl, show (57 : Int32) = nI 57 from rfl, lt_n (show c < 2 ^ 31 by omega) (show 48 < 2 ^ 31 by decide), lt_n (show 57 < 2 ^ 31 by decide) (show c < 2 ^ 31 by omega)]
  unfold pD
  by_cases h1 : c < 48
  · simp [h1, show ¬ 48 ≤ c by omega]
  · by_cases h2 : 57 < c
    · simp [h1, h2, show ¬ c ≤ 57 by omega]
    · simp [h1, h2, show 48 ≤ c by omega, show c ≤ 57 by omega]
theorem isLetter_eq (h : Hp) {c : Nat} (hc : c < 256) : fX5_isLetter (nI c) h = some (if pL c = true then 1 else 0, h) := by
  unfold fX5_isLetter
  simp only [jn_eq, zk_0, zk_1, ck_t, show (97 : Int32) = nI 97 from rfl, show (122 : Int32) = nI 122 from rfl, lt_n (show c < 2 ^ 31 by omega) (show 97 < 2 ^ 31 by decide), lt_n (show 122 < 2 ^ 31 by decide) (show c < 2 ^ 31 by omega)]
  unfold pL
  by_cases h1 : c < 97
  · simp [h1, show ¬ 97 ≤ c by omega]
  · by_cases h2 : 122 < c
    · simp [h1, h2, show ¬ c ≤ 122 by omega]
    · simp [h1, h2, show 97 ≤ c by omega, show c ≤ 122 by omega]
theorem CT.w {h : Hp} {b : Nat → Nat} {n p p' : Nat} (c : CT h b n p) (hp : p' ≤ n) : CT (wr h 3 0 7 (nI p')) b n p' := ⟨c.1, c.2.1, rfl, c.2.2.2.1, hp, c.2.2.2.2.2⟩
theorem nl_l0 {K : Hp → Option (Unit × Hp)} {Q : Unit → Hp → Prop} {h : Hp} {b : Nat → Nat} {n p : Nat} (c : CT h b n p) (hK : ∀ h', CT h' b n (rn pB b (n - p) p) → (∀ i, i ≠ 7 → h'.1 3 0 i = h.1 3 0 i) → WP (K h') Q) : WP (itr0 (fX5_nextToken_l0 K) FU h) Q := by
  have hn : n ≤ 600 := c.2.2.2.1
  have hp : p ≤ n := c.2.2.2.2.1
  refine wp_itr0 (fun m h1 => ∃ i, p ≤ i ∧ i ≤ n ∧ m = n - i ∧ CT h1 b n i ∧ (∀ j, j ≠ 7 → h1.1 3 0 j = h.1 3 0 j) ∧ rn pB b (n - i) i = rn pB b (n - p) p) ?_ FU (n - p) h (by unfold FU; omega) ⟨p, Nat.le_refl _, hp, rfl, c, fun _ _ => rfl, rfl⟩
  rintro m h1 rec ⟨i, hi, hin, rfl, c1, e1, er⟩ hrec
  unfold fX5_nextToken_l0
  have e6 : rd h1 3 0 6 = nI n := c1.2.1
  have e7 : rd h1 3 0 7 = nI i := c1.2.2.1
  rw [e6, e7]
  refine wp_if (fun hc => ?_) (fun hc => ?_)
  · have : i = n := by rw [le_n (by omega) (by omega)] at hc; omega
    subst this
    rw [rn_end] at er
    rw [← er] at hK
    exact hK h1 c1 e1
  · have hlt : i < n := by rw [le_n (by omega) (by omega)] at hc; omega
    have hb := (c1.2.2.2.2.2 i (by omega)).2
    rw [byteAt_eq c1 (by omega), bnd_eq, if_pos hlt, isBlank_eq _ hb, bnd_eq]
    by_cases hq : pB (b i) = true
    · rw [if_pos hq, if_neg (show ¬ (1 : Int32) = 0 by decide), lt_eq, e7, nI_1]
      refine hrec (n - (i + 1)) _ (by omega) ⟨i + 1, by omega, by omega, rfl, c1.w (by omega), fun j hj => ?_, by rw [← rn_go hlt hq]; exact er⟩
      rw [wr_g, if_neg (by omega)]; exact e1 j hj
    · rw [if_neg hq, if_pos rfl]
      rw [rn_stop hlt (by simpa using hq)] at er
      rw [← er] at hK
      exact hK h1 c1 e1
theorem nl_l104 {K : Hp → Option (Unit × Hp)} {Q : Unit → Hp → Prop} {h : Hp} {b : Nat → Nat} {n p : Nat} (c : CT h b n p) (hK : ∀ h', CT h' b n (rn pL b (n - p) p) → (∀ i, i ≠ 7 → h'.1 3 0 i = h.1 3 0 i) → WP (K h') Q) : WP (itr0 (fX5_nextToken_l104 K) FU h) Q := by
  have hn : n ≤ 600 := c.2.2.2.1
  have hp : p ≤ n := c.2.2.2.2.1
  refine wp_itr0 (fun m h1 => ∃ i, p ≤ i ∧ i ≤ n ∧ m = n - i ∧ CT h1 b n i ∧ (∀ j, j ≠ 7 → h1.1 3 0 j = h.1 3 0 j) ∧ rn pL b (n - i) i = rn pL b (n - p) p) ?_ FU (n - p) h (by unfold FU; omega) ⟨p, Nat.le_refl _, hp, rfl, c, fun _ _ => rfl, rfl⟩
  rintro m h1 rec ⟨i, hi, hin, rfl, c1, e1, er⟩ hrec
  unfold fX5_nextToken_l104
  have e6 : rd h1 3 0 6 = nI n := c1.2.1
  have e7 : rd h1 3 0 7 = nI i := c1.2.2.1
  rw [e6, e7]
  refine wp_if (fun hc => ?_) (fun hc => ?_)
  · have : i = n := by rw [le_n (by omega) (by omega)] at hc; omega
    subst this
    rw [rn_end] at er
    rw [← er] at hK
    exact hK h1 c1 e1
  · have hlt : i < n := by rw [le_n (by omega) (by omega)] at hc; omega
    have hb := (c1.2.2.2.2.2 i (by omega)).2
    rw [byteAt_eq c1 (by omega), bnd_eq, if_pos hlt, isLetter_eq _ hb, bnd_eq]
    by_cases hq : pL (b i) = true
    · rw [if_pos hq, if_neg (show ¬ (1 : Int32) = 0 by decide), lt_eq, e7, nI_1]
      refine hrec (n - (i + 1)) _ (by omega) ⟨i + 1, by omega, by omega, rfl, c1.w (by omega), fun j hj => ?_, by rw [← rn_go hlt hq]; exact er⟩
      rw [wr_g, if_neg (by omega)]; exact e1 j hj
    · rw [if_neg hq, if_pos rfl]
      rw [rn_stop hlt (by simpa using hq)] at er
      rw [← er] at hK
      exact hK h1 c1 e1
theorem nl_l149 {K : Hp → Option (Unit × Hp)} {Q : Unit → Hp → Prop} {h : Hp} {b : Nat → Nat} {n p : Nat} (c : CT h b n p) (hK : ∀ h', CT h' b n (rn pD b (n - p) p) → (∀ i, i ≠ 7 → h'.1 3 0 i = h.1 3 0 i) → WP (K h') Q) : WP (itr0 (fX5_nextToken_l149 K) FU h) Q := by
  have hn : n ≤ 600 := c.2.2.2.1
  have hp : p ≤ n := c.2.2.2.2.1
  refine wp_itr0 (fun m h1 => ∃ i, p ≤ i ∧ i ≤ n ∧ m = n - i ∧ CT h1 b n i ∧ (∀ j, j ≠ 7 → h1.1 3 0 j = h.1 3 0 j) ∧ rn pD b (n - i) i = rn pD b (n - p) p) ?_ FU (n - p) h (by unfold FU; omega) ⟨p, Nat.le_refl _, hp, rfl, c, fun _ _ => rfl, rfl⟩
  rintro m h1 rec ⟨i, hi, hin, rfl, c1, e1, er⟩ hrec
  unfold fX5_nextToken_l149
  have e6 : rd h1 3 0 6 = nI n := c1.2.1
  have e7 : rd h1 3 0 7 = nI i := c1.2.2.1
  rw [e6, e7]
  refine wp_if (fun hc => ?_) (fun hc => ?_)
  · have : i = n := by rw [le_n (by omega) (by omega)] at hc; omega
    subst this
    rw [rn_end] at er
    rw [← er] at hK
    exact hK h1 c1 e1
  · have hlt : i < n := by rw [le_n (by omega) (by omega)] at hc; omega
    have hb := (c1.2.2.2.2.2 i (by omega)).2
    rw [byteAt_eq c1 (by omega), bnd_eq, if_pos hlt, isDigit_eq _ hb, bnd_eq]
    by_cases hq : pD (b i) = true
    · rw [if_pos hq, if_neg (show ¬ (1 : Int32) = 0 by decide), lt_eq, e7, nI_1]
      refine hrec (n - (i + 1)) _ (by omega) ⟨i + 1, by omega, by omega, rfl, c1.w (by omega), fun j hj => ?_, by rw [← rn_go hlt hq]; exact er⟩
      rw [wr_g, if_neg (by omega)]; exact e1 j hj
    · rw [if_neg hq, if_pos rfl]
      rw [rn_stop hlt (by simpa using hq)] at er
      rw [← er] at hK
      exact hK h1 c1 e1
theorem nextToken_wp {h : Hp} {b : Nat → Nat} {n p : Nat} (c : CT h b n p) : WP (fX5_nextToken h) (fun _ h' => CT h' b n (tr b n (tq b n p)) ∧ h'.1 3 0 8 = nI (tk b n (tq b n p)) ∧ h'.1 3 0 9 = nI (tq b n p) ∧ Fr wX5_nextToken h h') := by
  have hpn : p ≤ n := c.2.2.2.2.1
  have hn : n ≤ 600 := c.2.2.2.1
  have main : WP (fX5_nextToken h) (fun _ h' => CT h' b n (tr b n (tq b n p)) ∧ h'.1 3 0 8 = nI (tk b n (tq b n p)) ∧ h'.1 3 0 9 = nI (tq b n p)) := by
    unfold fX5_nextToken
    refine nl_l0 c (fun h1 c1 _ => ?_)
    rw [show rn pB b (n - p) p = tq b n p from rfl] at c1
    have hq := tq_le (b := b) hpn
    generalize tq b n p = q at c1 hq ⊢
    simp only [lt_eq]
    have c2 : CT (wr h1 3 0 9 (rd h1 3 0 7)) b n q := ⟨c1.1, c1.2.1, c1.2.2.1, c1.2.2.2.1, hq, c1.2.2.2.2.2⟩
    have e9 : (wr h1 3 0 9 (rd h1 3 0 7)).1 3 0 9 = nI q := c1.2.2.1
    generalize wr h1 3 0 9 (rd h1 3 0 7) = h2 at c2 e9 ⊢
    have e7 : rd h2 3 0 7 = nI q := c2.2.2.1
    rw [e7, byteAt_eq c2 hq, bnd_eq]
    by_cases hqn : q < n
    · have hb := (c2.2.2.2.2.2 q (by omega)).2
      rw [if_pos hqn, if_neg (show ¬ nI (b q) = -1 from fun w => by have := congrArg Int32.toInt w; rw [nI_toInt (by omega)] at this; have : (b q : Int) = -1 := this; omega)]
      refine wp_if (fun h59 => ?_) (fun h59 => ?_)
      · have h59' : b q = 59 := (eq_n (by omega) (by decide)).mp (show nI (b q) = nI 59 from h59)
        have ek : tk b n q = 3 := by unfold tk; rw [if_neg (by omega), if_pos h59']
        have er : tr b n q = q + 1 := by unfold tr; rw [if_neg (by omega), if_pos h59']
        rw [ek, er]
        refine wp_some ⟨?_, rfl, e9⟩
        have : rd (wr h2 3 0 8 3) 3 0 7 = nI q := e7
        rw [this, nI_1]
        exact ⟨c2.1, c2.2.1, rfl, c2.2.2.2.1, by omega, c2.2.2.2.2.2⟩
      · have h59' : ¬ b q = 59 := fun w => h59 (by rw [w]; rfl)
        rw [isLetter_eq _ hb, bnd_eq]
        by_cases hl : pL (b q) = true
        · have ek : tk b n q = 1 := by unfold tk; rw [if_neg (by omega), if_neg h59', if_pos hl]
          have er : tr b n q = rn pL b (n - q) q := by unfold tr; rw [if_neg (by omega), if_neg h59', if_pos hl]
          rw [ek, er, if_pos hl, if_neg (show ¬ (1 : Int32) = 0 by decide)]
          have c3 : CT (wr h2 3 0 8 1) b n q := ⟨c2.1, c2.2.1, c2.2.2.1, c2.2.2.2.1, hq, c2.2.2.2.2.2⟩
          refine nl_l104 c3 (fun h3 c4 => ?_)
          exact fun hk => wp_some ⟨c4, (hk 8 (by decide)).trans rfl, (hk 9 (by decide)).trans e9⟩
        · rw [if_neg hl, if_pos rfl, isDigit_eq _ hb, bnd_eq]
          by_cases hd : pD (b q) = true
          · have er : tr b n q = rn pD b (n - q) q := by unfold tr; rw [if_neg (by omega), if_neg h59', if_neg hl, if_pos hd]
            have ek : tk b n q = if rn pD b (n - q) q - q ≤ 2 then 2 else 4 := by unfold tk; rw [if_neg (by omega), if_neg h59', if_neg hl, if_pos hd]
            rw [ek, er, if_pos hd, if_neg (show ¬ (1 : Int32) = 0 by decide)]
            refine nl_l149 c2 (fun h3 c4 => ?_)
            intro hk
            simp only [jn_eq]
            have f7 : rd h3 3 0 7 = nI (rn pD b (n - q) q) := c4.2.2.1
            have f9 : rd h3 3 0 9 = nI q := (hk 9 (by decide)).trans e9
            have hge := rn_ge pD b (n - q) q
            have hle := rn_le pD b (n - q) q
            rw [f7, f9, nI_sub hge]
            have hif : ((2 : Int32) < nI (rn pD b (n - q) q - q)) ↔ 2 < rn pD b (n - q) q - q := lt_n (a := 2) (by decide) (by omega)
            refine wp_if (fun h2 => ?_) (fun h2 => ?_)
            · rw [hif] at h2
              rw [if_neg (by omega)]
              exact wp_some ⟨⟨c4.1, c4.2.1, c4.2.2.1, c4.2.2.2.1, c4.2.2.2.2.1, c4.2.2.2.2.2⟩, rfl, f9⟩
            · rw [hif] at h2
              rw [if_pos (by omega)]
              exact wp_some ⟨⟨c4.1, c4.2.1, c4.2.2.1, c4.2.2.2.1, c4.2.2.2.2.1, c4.2.2.2.2.2⟩, rfl, f9⟩
          · have ek : tk b n q = 4 := by unfold tk; rw [if_neg (by omega), if_neg h59', if_neg hl, if_neg hd]
            have er : tr b n q = q := by unfold tr; rw [if_neg (by omega), if_neg h59', if_neg hl, if_neg hd]
            rw [ek, er, if_neg hd, if_pos rfl]
            exact wp_some ⟨⟨c2.1, c2.2.1, c2.2.2.1, c2.2.2.2.1, hq, c2.2.2.2.2.2⟩, rfl, e9⟩
    · have ek : tk b n q = 0 := by unfold tk; rw [if_pos (by omega)]
      have er : tr b n q = q := by unfold tr; rw [if_pos (by omega)]
      rw [if_neg hqn, if_pos rfl, ek, er]
      exact wp_some ⟨⟨c2.1, c2.2.1, c2.2.2.1, c2.2.2.2.1, hq, c2.2.2.2.2.2⟩, rfl, e9⟩
  exact wp_mono (wp_fr main (frX5_nextToken h)) (fun _ h' q => ⟨q.1.1, q.1.2.1, q.1.2.2, q.2⟩)
