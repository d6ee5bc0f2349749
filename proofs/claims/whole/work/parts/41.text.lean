/-! the reference's tokens -/
def num (b : Nat → Nat) (q : Nat) : Nat → Nat
  | 0 => 0
  | k + 1 => 10 * num b q k + b (q + k) - 48
def cd (b : Nat → Nat) (q : Nat) : Nat → Nat
  | 0 => 0
  | k + 1 => cd b q k * 256 + b (q + k)
def mk : Nat → Nat
  | 0 => 0
  | 1 => 2
  | 2 => 3
  | 3 => 4
  | _ => 1
def MT (h : Hp) (b : Nat → Nat) (n p : Nat) : Prop := h.1 10 0 10 = nI n ∧ h.1 10 0 9 = nI p ∧ n ≤ 600 ∧ p ≤ n ∧ BY h 43 b
def wcode (b : Nat → Nat) (q r : Nat) : Int64 := if r - q ≤ 8 then Int64.ofNat (cd b q (r - q)) else 0
def MTk (h : Hp) (b : Nat → Nat) (n q : Nat) : Prop := h.1 10 0 10 = nI n ∧ n ≤ 600 ∧ q ≤ n ∧ BY h 43 b ∧ h.1 10 0 11 = nI q ∧ h.1 10 0 12 = nI (mk (tk b n q)) ∧ (tk b n q = 1 → h.2 = wcode b q (tr b n q)) ∧ (tk b n q = 2 → h.1 10 0 13 = nI (num b q (tr b n q - q))) ∧ (tk b n q ≠ 4 → h.1 10 0 9 = nI (tr b n q))
theorem see_eq {h : Hp} {b : Nat → Nat} {n p : Nat} (c : MT h b n p) : fX12_see h = some (if p < n then nI (b p) else -1, h) := by
  obtain ⟨c10, c9, hn, hp, hb⟩ := c
  have e10 : rd h 10 0 10 = nI n := c10
  have e9 : rd h 10 0 9 = nI p := c9
  unfold fX12_see
  rw [e10, e9]
  by_cases hpn : p < n
  · rw [if_neg (nI_ge hpn (by omega)), ck_p (ib_nI (show p < 2400 by omega) (by decide)), ra_n (by omega), if_pos hpn]
    have := (hb p (by omega)).1
    rw [← this]; rfl
  · rw [if_pos (nI_le (by omega) (by omega)), if_neg hpn]
theorem MT.w {h : Hp} {b : Nat → Nat} {n p p' : Nat} (c : MT h b n p) (hp : p' ≤ n) : MT (wr h 10 0 9 (nI p')) b n p' := ⟨c.1, rfl, c.2.2.1, hp, c.2.2.2.2⟩
theorem neg_ne {c : Nat} (hc : c < 2 ^ 31) : ¬ (-1 : Int32) = nI c := fun w => by
  have := congrArg Int32.toInt w
  rw [nI_toInt hc] at this
  have h1 : (-1 : Int) = (c : Int) := this
  omega
theorem ml_l0 {K : Hp → Option (Unit × Hp)} {Q : Unit → Hp → Prop} {h : Hp} {b : Nat → Nat} {n p : Nat} (c : MT h b n p) (hK : ∀ h', MT h' b n (tq b n p) → WP (K h') Q) : WP (itr0 (fX12_token_l0 K) FU h) Q := by
  have hn : n ≤ 600 := c.2.2.1
  have hp : p ≤ n := c.2.2.2.1
  refine wp_itr0 (fun m h1 => ∃ i, p ≤ i ∧ i ≤ n ∧ m = n - i ∧ MT h1 b n i ∧ rn pB b (n - i) i = rn pB b (n - p) p) ?_ FU (n - p) h (by unfold FU; omega) ⟨p, Nat.le_refl _, hp, rfl, c, rfl⟩
  rintro m h1 rec ⟨i, hi, hin, rfl, c1, er⟩ hrec
  unfold fX12_token_l0
  simp only [jn_eq, lt_eq]
  have e9 : rd h1 10 0 9 = nI i := c1.2.1
  rw [see_eq c1, bnd_eq]
  by_cases hlt : i < n
  · have hb := (c1.2.2.2.2 i (by omega)).2
    rw [if_pos hlt]
    have go : pB (b i) = true → WP (rec (wr h1 10 0 9 (rd h1 10 0 9 + 1))) Q := by
      intro hq
      rw [e9, nI_1]
      exact hrec (n - (i + 1)) _ (by omega) ⟨i + 1, by omega, by omega, rfl, c1.w (by omega), by rw [← rn_go hlt hq]; exact er⟩
    refine wp_if (fun h10 => ?_) (fun h10 => ?_)
    · exact go (by have : b i = 10 := (eq_n (by omega) (by decide)).mp (show nI (b i) = nI 10 from h10); simp [pB, this])
    · rw [see_eq c1, bnd_eq, if_pos hlt]
      refine wp_if (fun h32 => ?_) (fun h32 => ?_)
      · exact go (by have : b i = 32 := (eq_n (by omega) (by decide)).mp (show nI (b i) = nI 32 from h32); simp [pB, this])
      · have hq : pB (b i) = false := by
          have n1 : ¬ b i = 10 := fun w => h10 (by rw [w]; rfl)
          have n2 : ¬ b i = 32 := fun w => h32 (by rw [w]; rfl)
          simp [pB, n1, n2]
        rw [rn_stop hlt hq] at er
        unfold tq at hK
        rw [← er] at hK
        exact hK h1 c1
  · have : i = n := by omega
    subst this
    rw [if_neg hlt, if_neg (by decide), see_eq c1, bnd_eq, if_neg hlt, if_neg (by decide)]
    rw [rn_end] at er
    unfold tq at hK
    rw [← er] at hK
    exact hK h1 c1
theorem in_L {c : Nat} (hc : c < 256) : (nI c < 97 ∨ 122 < nI c) ↔ ¬ pL c = true := by
  rw [show (97 : Int32) = nI 97 from rfl, show (122 : Int32) = nI 122 from rfl, lt_n (by omega) (by decide), lt_n (by decide) (by omega)]
  unfold pL
  simp only [Bool.and_eq_true, decide_eq_true_eq]
  omega
theorem in_D {c : Nat} (hc : c < 256) : (nI c < 48 ∨ 57 < nI c) ↔ ¬ pD c = true := by
  rw [show (48 : Int32) = nI 48 from rfl, show (57 : Int32) = nI 57 from rfl, lt_n (by omega) (by decide), lt_n (by decide) (by omega)]
  unfold pD
  simp only [Bool.and_eq_true, decide_eq_true_eq]
  omega
theorem cd_lt (b : Nat → Nat) (q : Nat) : ∀ k, (∀ j, j < k → b (q + j) < 256) → cd b q k < 256 ^ k := by
  intro k
  induction k with
  | zero => intro _; exact Nat.one_pos
  | succ k ih =>
    intro hb
    have h1 := ih (fun j hj => hb j (by omega))
    have h2 := hb k (by omega)
    show cd b q k * 256 + b (q + k) < 256 ^ k * 256
    omega
theorem c64 : ∀ c, c < 256 → (nI c).toInt64 = Int64.ofNat c := by decide +kernel
theorem shl8 : ((8 : Int32).toInt64 &&& 63).toBitVec.smod 64 = 8#64 := by decide
theorem code_step {x c : Nat} (hx : x < 256 ^ 7) (hc : c < 256) : ((Int64.ofNat x) <<< ((8 : Int32).toInt64 &&& 63)) ||| (nI c).toInt64 = Int64.ofNat (x * 256 + c) := by
  rw [c64 c hc]
  apply Int64.toBitVec_inj.mp
  show ((Int64.ofNat x).toBitVec <<< (((8 : Int32).toInt64 &&& 63).toBitVec.smod 64)) ||| (Int64.ofNat c).toBitVec = (Int64.ofNat (x * 256 + c)).toBitVec
  rw [shl8]
  apply BitVec.eq_of_toNat_eq
  have e : ∀ y, (Int64.ofNat y).toBitVec.toNat = y % 2 ^ 64 := fun y => by
    show (BitVec.ofNat 64 y).toNat = _
    exact BitVec.toNat_ofNat _ _
  rw [BitVec.toNat_or, BitVec.shiftLeft_eq', BitVec.toNat_shiftLeft, e, e, e]
  have h8 : (8#64).toNat = 8 := rfl
  have hx' : x < 72057594037927936 := hx
  rw [h8, Nat.mod_eq_of_lt (show x < 2 ^ 64 by omega), Nat.mod_eq_of_lt (show c < 2 ^ 64 by omega), Nat.mod_eq_of_lt (show x * 256 + c < 2 ^ 64 by omega), Nat.shiftLeft_eq, Nat.mod_eq_of_lt (show x * 2 ^ 8 < 2 ^ 64 by omega), ← Nat.shiftLeft_eq, ← Nat.shiftLeft_add_eq_or_of_lt (show c < 2 ^ 8 by omega), Nat.shiftLeft_eq]
theorem ml_l74 {K : Int32 → Hp → Option (Unit × Hp)} {Q : Unit → Hp → Prop} {h : Hp} {b : Nat → Nat} {n p : Nat} (c : MT h b n p) (h0 : h.2 = 0) (hK : ∀ h', MT h' b n (rn pL b (n - p) p) → (rn pL b (n - p) p - p ≤ 8 → h'.2 = Int64.ofNat (cd b p (rn pL b (n - p) p - p))) → (∀ i, i ≠ 9 → h'.1 10 0 i = h.1 10 0 i) → WP (K (nI (rn pL b (n - p) p - p)) h') Q) : WP (itr1 (fX12_token_l74 K) FU 0 h) Q := by
  have hn : n ≤ 600 := c.2.2.1
  have hp : p ≤ n := c.2.2.2.1
  refine wp_itr1 (fun m x h1 => ∃ i, p ≤ i ∧ i ≤ n ∧ m = n - i ∧ x = nI (i - p) ∧ MT h1 b n i ∧ (i - p ≤ 8 → h1.2 = Int64.ofNat (cd b p (i - p))) ∧ (∀ j, j ≠ 9 → h1.1 10 0 j = h.1 10 0 j) ∧ rn pL b (n - i) i = rn pL b (n - p) p) ?_ FU (n - p) 0 h (by unfold FU; omega) ⟨p, Nat.le_refl _, hp, rfl, by rw [Nat.sub_self]; rfl, c, fun _ => by rw [Nat.sub_self, h0]; rfl, fun _ _ => rfl, rfl⟩
  rintro m x h1 rec ⟨i, hi, hin, rfl, rfl, c1, ew, e1, er⟩ hrec
  unfold fX12_token_l74
  simp only [lt_eq]
  have e9 : rd h1 10 0 9 = nI i := c1.2.1
  rw [see_eq c1, bnd_eq, in_eq, bnd_eq]
  have stop : rn pL b (n - i) i = i → WP (K (nI (i - p)) h1) Q := by
    intro hs
    rw [hs] at er
    rw [← er] at hK
    exact hK h1 c1 ew e1
  by_cases hlt : i < n
  · have hb := (c1.2.2.2.2 i (by omega)).2
    rw [if_pos hlt]
    by_cases hq : pL (b i) = true
    · rw [if_neg (show ¬ (nI (b i) < 97 ∨ 122 < nI (b i)) by rw [in_L hb]; exact fun w => w hq), if_neg (show ¬ (1 : Int32) = 0 by decide), see_eq c1, bnd_eq, if_pos hlt]
      have e9' : ∀ w, rd (wl h1 w) 10 0 9 = nI i := fun w => e9
      rw [show nI (i - p) + 1 = nI (i + 1 - p) by rw [nI_1, show i - p + 1 = i + 1 - p by omega], e9', nI_1]
      refine hrec (n - (i + 1)) _ _ (by omega) ⟨i + 1, by omega, by omega, rfl, rfl, ⟨c1.1, rfl, hn, by omega, c1.2.2.2.2⟩, fun h8 => ?_, fun j hj => ?_, by rw [← rn_go hlt hq]; exact er⟩
      · show h1.2 <<< ((8 : Int32).toInt64 &&& 63) ||| (nI (b i)).toInt64 = _
        rw [ew (by omega)]
        have hcd : cd b p (i - p) < 256 ^ 7 := Nat.lt_of_lt_of_le (cd_lt b p (i - p) (fun j hj => (c1.2.2.2.2 (p + j) (by omega)).2)) (Nat.pow_le_pow_right (by decide) (by omega))
        rw [code_step hcd hb, show i + 1 - p = (i - p) + 1 by omega]
        show _ = Int64.ofNat (cd b p (i - p) * 256 + b (p + (i - p)))
        rw [show p + (i - p) = i by omega]
      · rw [wr_g, if_neg (by omega)]; exact e1 j hj
    · rw [if_pos (show (nI (b i) < 97 ∨ 122 < nI (b i)) from (in_L hb).mpr hq), if_pos rfl]
      exact stop (rn_stop hlt (by simpa using hq))
  · have : i = n := by omega
    subst this
    rw [if_neg hlt, if_pos (show ((-1 : Int32) < 97 ∨ 122 < (-1 : Int32)) by decide), if_pos rfl]
    exact stop rn_end
theorem ml_l163 {K : Int32 → Hp → Option (Unit × Hp)} {Q : Unit → Hp → Prop} {h : Hp} {b : Nat → Nat} {n p : Nat} (c : MT h b n p) (h0 : h.1 10 0 13 = 0) (hK : ∀ h', MT h' b n (rn pD b (n - p) p) → (rn pD b (n - p) p - p ≤ 2 → h'.1 10 0 13 = nI (num b p (rn pD b (n - p) p - p))) → (∀ i, i ≠ 9 → i ≠ 13 → h'.1 10 0 i = h.1 10 0 i) → WP (K (nI (rn pD b (n - p) p - p)) h') Q) : WP (itr1 (fX12_token_l163 K) FU 0 h) Q := by
  have hn : n ≤ 600 := c.2.2.1
  have hp : p ≤ n := c.2.2.2.1
  refine wp_itr1 (fun m x h1 => ∃ i, p ≤ i ∧ i ≤ n ∧ m = n - i ∧ x = nI (i - p) ∧ MT h1 b n i ∧ (i - p ≤ 2 → h1.1 10 0 13 = nI (num b p (i - p))) ∧ (∀ j, j ≠ 9 → j ≠ 13 → h1.1 10 0 j = h.1 10 0 j) ∧ rn pD b (n - i) i = rn pD b (n - p) p) ?_ FU (n - p) 0 h (by unfold FU; omega) ⟨p, Nat.le_refl _, hp, rfl, by rw [Nat.sub_self]; rfl, c, fun _ => by rw [Nat.sub_self, h0]; rfl, fun _ _ _ => rfl, rfl⟩
  rintro m x h1 rec ⟨i, hi, hin, rfl, rfl, c1, ew, e1, er⟩ hrec
  unfold fX12_token_l163
  simp only [lt_eq, jn_eq]
  have e9 : rd h1 10 0 9 = nI i := c1.2.1
  rw [see_eq c1, bnd_eq, in_eq, bnd_eq]
  have stop : rn pD b (n - i) i = i → WP (K (nI (i - p)) h1) Q := by
    intro hs
    rw [hs] at er
    rw [← er] at hK
    exact hK h1 c1 ew e1
  by_cases hlt : i < n
  · have hb := (c1.2.2.2.2 i (by omega)).2
    rw [if_pos hlt]
    by_cases hq : pD (b i) = true
    · rw [if_neg (show ¬ (nI (b i) < 48 ∨ 57 < nI (b i)) by rw [in_D hb]; exact fun w => w hq), if_neg (show ¬ (1 : Int32) = 0 by decide), see_eq c1, bnd_eq, if_pos hlt]
      have e9' : ∀ w, rd (wr h1 10 0 13 w) 10 0 9 = nI i := fun w => e9
      rw [show nI (i - p) + 1 = nI (i + 1 - p) by rw [nI_1, show i - p + 1 = i + 1 - p by omega], e9', e9', nI_1]
      have hif : ((2 : Int32) ≤ nI (i - p)) ↔ 2 ≤ i - p := le_n (a := 2) (by decide) (by omega)
      have h48 : 48 ≤ b i := by
        unfold pD at hq
        simp only [Bool.and_eq_true, decide_eq_true_eq] at hq
        exact hq.1
      refine wp_if (fun h2 => ?_) (fun h2 => ?_)
      · rw [hif] at h2
        refine hrec (n - (i + 1)) _ _ (by omega) ⟨i + 1, by omega, by omega, rfl, rfl, ⟨c1.1, rfl, hn, by omega, c1.2.2.2.2⟩, fun h8 => by omega, fun j hj hj3 => ?_, by rw [← rn_go hlt hq]; exact er⟩
        rw [wr_g, if_neg (by omega), wr_g, if_neg (by omega)]; exact e1 j hj hj3
      · rw [hif] at h2
        refine hrec (n - (i + 1)) _ _ (by omega) ⟨i + 1, by omega, by omega, rfl, rfl, ⟨c1.1, rfl, hn, by omega, c1.2.2.2.2⟩, fun h8 => ?_, fun j hj hj3 => ?_, by rw [← rn_go hlt hq]; exact er⟩
        · show (10 : Int32) * h1.1 10 0 13 + nI (b i) - 48 = _
          rw [ew (by omega), show (10 : Int32) = nI 10 from rfl, nI_mul, nI_add, show (48 : Int32) = nI 48 from rfl, nI_sub (by omega), show i + 1 - p = (i - p) + 1 by omega]
          show _ = nI (10 * num b p (i - p) + b (p + (i - p)) - 48)
          rw [show p + (i - p) = i by omega]
        · rw [wr_g, if_neg (by omega), wr_g, if_neg (by omega)]; exact e1 j hj hj3
    · rw [if_pos (show (nI (b i) < 48 ∨ 57 < nI (b i)) from (in_D hb).mpr hq), if_pos rfl]
      exact stop (rn_stop hlt (by simpa using hq))
  · have : i = n := by omega
    subst this
    rw [if_neg hlt, if_pos (show ((-1 : Int32) < 48 ∨ 57 < (-1 : Int32)) by decide), if_pos rfl]
    exact stop rn_end
theorem token_wp0 {h : Hp} {b : Nat → Nat} {n p : Nat} (c : MT h b n p) : WP (fX12_token h) (fun _ h' => MTk h' b n (tq b n p)) := by
  have hpn : p ≤ n := c.2.2.2.1
  have hn : n ≤ 600 := c.2.2.1
  unfold fX12_token
  refine ml_l0 c (fun h1 c1 => ?_)
  have hq := tq_le (b := b) hpn
  generalize tq b n p = q at c1 hq ⊢
  refine wp_lt ?_
  have c2 : MT (wr h1 10 0 11 (rd h1 10 0 9)) b n q := ⟨c1.1, c1.2.1, hn, hq, c1.2.2.2.2⟩
  have e11 : (wr h1 10 0 11 (rd h1 10 0 9)).1 10 0 11 = nI q := c1.2.1
  generalize wr h1 10 0 11 (rd h1 10 0 9) = h2 at c2 e11 ⊢
  rw [see_eq c2, bnd_eq]
  refine wp_lt ?_
  have c3 : MT (wl h2 0) b n q := ⟨c2.1, c2.2.1, hn, hq, c2.2.2.2.2⟩
  have e11' : (wl h2 0).1 10 0 11 = nI q := e11
  obtain ⟨h3, e3⟩ : ∃ h3, wl h2 0 = h3 := ⟨_, rfl⟩
  have e2' : h3.2 = 0 := by rw [← e3]; rfl
  rw [e3] at c3 e11' ⊢
  clear e3
  by_cases hqn : q < n
  · have hb := (c3.2.2.2.2 q (by omega)).2
    have h00 : (0 : Int32) ≤ nI (b q) := by rw [show (0 : Int32) = nI 0 from rfl, le_n (by decide) (by omega)]; omega
    rw [if_pos hqn, if_pos h00, in_eq, bnd_eq]
    by_cases hl : pL (b q) = true
    · have n59 : ¬ b q = 59 := by intro w; rw [w] at hl; simp [pL] at hl
      have ek : tk b n q = 1 := by unfold tk; rw [if_neg (by omega), if_neg n59, if_pos hl]
      have er : tr b n q = rn pL b (n - q) q := by unfold tr; rw [if_neg (by omega), if_neg n59, if_pos hl]
      rw [if_neg (show ¬ (nI (b q) < 97 ∨ 122 < nI (b q)) by rw [in_L hb]; exact fun w => w hl), if_neg (show ¬ (1 : Int32) = 0 by decide)]
      refine ml_l74 c3 e2' (fun h4 c4 ew e1 => ?_)
      have hge := rn_ge pL b (n - q) q
      have hle := rn_le pL b (n - q) q
      simp only [jn_eq, lt_eq]
      have hif : (nI (rn pL b (n - q) q - q) ≤ (8 : Int32)) ↔ rn pL b (n - q) q - q ≤ 8 := le_n (b := 8) (by omega) (by decide)
      have fin : ∀ w : Int64, w = wcode b q (rn pL b (n - q) q) → MTk (wr (wl h4 w) 10 0 12 2) b n q := by
        intro w hw
        refine ⟨c4.1, hn, hq, c4.2.2.2.2, (e1 11 (by decide)).trans e11', by rw [ek]; rfl, fun _ => by rw [er]; exact hw, fun w => absurd (ek.symm.trans w) (by decide), fun _ => by rw [er]; exact c4.2.1⟩
      refine wp_if (fun h8 => ?_) (fun h8 => ?_)
      · rw [hif] at h8
        exact wp_some (fin _ (by unfold wcode; rw [if_pos h8]; exact ew h8))
      · rw [hif] at h8
        exact wp_some (fin _ (by unfold wcode; rw [if_neg h8]))
    · rw [if_pos (show (nI (b q) < 97 ∨ 122 < nI (b q)) from (in_L hb).mpr hl), if_pos rfl, in_eq, bnd_eq]
      by_cases hd : pD (b q) = true
      · have n59 : ¬ b q = 59 := by intro w; rw [w] at hd; simp [pD] at hd
        have er : tr b n q = rn pD b (n - q) q := by unfold tr; rw [if_neg (by omega), if_neg n59, if_neg hl, if_pos hd]
        have ek : tk b n q = if rn pD b (n - q) q - q ≤ 2 then 2 else 4 := by unfold tk; rw [if_neg (by omega), if_neg n59, if_neg hl, if_pos hd]
        rw [if_neg (show ¬ (nI (b q) < 48 ∨ 57 < nI (b q)) by rw [in_D hb]; exact fun w => w hd), if_neg (show ¬ (1 : Int32) = 0 by decide)]
        refine wp_lt ?_
        have c4 : MT (wr h3 10 0 13 0) b n q := ⟨c3.1, c3.2.1, hn, hq, c3.2.2.2.2⟩
        refine ml_l163 c4 rfl (fun h4 c5 ew e1 => ?_)
        have hge := rn_ge pD b (n - q) q
        have hle := rn_le pD b (n - q) q
        simp only [jn_eq, lt_eq]
        have hif : (nI (rn pD b (n - q) q - q) ≤ (2 : Int32)) ↔ rn pD b (n - q) q - q ≤ 2 := le_n (b := 2) (by omega) (by decide)
        have f11 : h4.1 10 0 11 = nI q := (e1 11 (by decide) (by decide)).trans e11'
        refine wp_if (fun h8 => ?_) (fun h8 => ?_)
        · rw [hif] at h8
          rw [if_pos h8] at ek
          exact wp_some ⟨c5.1, hn, hq, c5.2.2.2.2, f11, by rw [ek]; rfl, fun w => absurd (ek.symm.trans w) (by decide), fun _ => by rw [er]; exact ew h8, fun _ => by rw [er]; exact c5.2.1⟩
        · rw [hif] at h8
          rw [if_neg h8] at ek
          exact wp_some ⟨c5.1, hn, hq, c5.2.2.2.2, f11, by rw [ek]; rfl, fun w => absurd (ek.symm.trans w) (by decide), fun w => absurd (ek.symm.trans w) (by decide), fun w => absurd ek w⟩
      · rw [if_pos (show (nI (b q) < 48 ∨ 57 < nI (b q)) from (in_D hb).mpr hd), if_pos rfl]
        simp only [jn_eq, lt_eq]
        have e9 : rd h3 10 0 9 = nI q := c3.2.1
        rw [e9, nI_1]
        refine wp_if (fun h59 => ?_) (fun h59 => ?_)
        · have h59' : b q = 59 := (eq_n (by omega) (by decide)).mp (show nI (b q) = nI 59 from h59)
          have ek : tk b n q = 3 := by unfold tk; rw [if_neg (by omega), if_pos h59']
          have er : tr b n q = q + 1 := by unfold tr; rw [if_neg (by omega), if_pos h59']
          exact wp_some ⟨c3.1, hn, hq, c3.2.2.2.2, e11', by rw [ek]; rfl, fun w => absurd (ek.symm.trans w) (by decide), fun w => absurd (ek.symm.trans w) (by decide), fun _ => by rw [er]; rfl⟩
        · have h59' : ¬ b q = 59 := fun w => h59 (by rw [w]; rfl)
          have ek : tk b n q = 4 := by unfold tk; rw [if_neg (by omega), if_neg h59', if_neg hl, if_neg hd]
          exact wp_some ⟨c3.1, hn, hq, c3.2.2.2.2, e11', by rw [ek]; rfl, fun w => absurd (ek.symm.trans w) (by decide), fun w => absurd (ek.symm.trans w) (by decide), fun w => absurd ek w⟩
  · have ek : tk b n q = 0 := by unfold tk; rw [if_pos (by omega)]
    have er : tr b n q = q := by unfold tr; rw [if_pos (by omega)]
    rw [if_neg hqn, if_neg (by decide)]
    refine wp_lt ?_
    exact wp_some ⟨c3.1, hn, hq, c3.2.2.2.2, e11', by rw [ek]; rfl, fun w => absurd (ek.symm.trans w) (by decide), fun w => absurd (ek.symm.trans w) (by decide), fun _ => by rw [er]; exact c3.2.1⟩
theorem token_wp {h : Hp} {b : Nat → Nat} {n p : Nat} (c : MT h b n p) : WP (fX12_token h) (fun _ h' => MTk h' b n (tq b n p) ∧ Fr wX12_token h h') := wp_fr (token_wp0 c) (frX12_token h)
