/-! rows: the reference's notes -/
theorem hasM_eq : ∀ v, v < 32 → ∀ p, p < 10 → ∀ h : Hp, fX12_has (nI v) (nI p) h = some (if v.testBit p = true then 1 else 0, h) := by
  have key : ∀ v, v < 32 → ∀ p, p < 10 → (((nI v >>> (nI p &&& 31)) &&& (1 : Int32)) = 1) = (v.testBit p = true) := by
    have : ∀ v, v < 32 → ∀ p, p < 10 → ((((nI v >>> (nI p &&& 31)) &&& (1 : Int32)) = 1) ↔ (v.testBit p = true)) := by decide +kernel
    intro v hv p hp
    exact propext (this v hv p hp)
  intro v hv p hp h
  unfold fX12_has
  simp only [key v hv p hp]
  by_cases g : v.testBit p = true
  · rw [if_pos g, if_pos g]; rfl
  · rw [if_neg g, if_neg g]; rfl
theorem bit_add : ∀ k, k < 5 → ∀ a, a < 2 ^ k → ∀ p, p < 10 → (a + 2 ^ k).testBit p = (a.testBit p || decide (p = k)) := by decide +kernel
theorem bit_lo : ∀ k, k ≤ 5 → ∀ a, a < 2 ^ k → ∀ p, p < 10 → k ≤ p → a.testBit p = false := by decide +kernel
theorem sbN_bit {L : Nat → Nat} : ∀ n, n ≤ 5 → ∀ p, p < 10 → (sbN L n).testBit p = decide (p < n ∧ 0 < L p) := by
  intro n
  induction n with
  | zero => intro _ p hp; rw [bit_lo 0 (by decide) (sbN L 0) (sbN_lt L 0) p hp (by omega)]; simp
  | succ n ih =>
    intro hn p hp
    show (sbN L n + _).testBit p = _
    have i1 := ih (by omega) p hp
    by_cases g : 0 < L n
    · rw [if_pos g, bit_add n (by omega) _ (sbN_lt L n) p hp, i1]
      by_cases q : p = n
      · subst q; simp [g]
      · simp [q]
        by_cases q2 : p < n
        · simp [q2, show p < n + 1 by omega]
        · simp [q2, show ¬ p < n + 1 by omega]
    · rw [if_neg g, Nat.add_zero, i1]
      by_cases q : p = n
      · subst q; simp [g]
      · by_cases q2 : p < n
        · simp [q2, show p < n + 1 by omega]
        · simp [q2, show ¬ p < n + 1 by omega]
def pcN (v : Nat) : Nat → Nat
  | 0 => 0
  | k + 1 => pcN v k + (if v.testBit k = true then 1 else 0)
theorem ones_eq {v : Nat} (hv : v < 32) (h : Hp) : fX12_ones (nI v) h = some (nI (pcN v 10), h) := by
  apply wp_same
  unfold fX12_ones
  refine wp_for2 10 (fun i a h' => a = nI (pcN v i) ∧ h' = h) ?_ ?_ FU 0 h (i0 := 0) (by omega) (FUb (by decide)) ⟨rfl, rfl⟩
  · rintro i a h1 rec hi ⟨rfl, rfl⟩ hrec
    unfold fX12_ones_l4
    rw [if_neg (show ¬ (10 : Int32) ≤ nI i from fun q => nI_ge hi (by decide) q), hasM_eq v hv i hi, bnd_eq, jn_eq]
    by_cases g : v.testBit i = true
    · rw [if_pos g, if_neg ne10]
      dsimp only
      rw [lt_eq, lt_eq, nI_1, nI_1]
      exact hrec _ _ ⟨by show _ = nI (pcN v i + _); rw [if_pos g], rfl⟩
    · rw [if_neg g, if_pos rfl]
      dsimp only
      rw [lt_eq, lt_eq, nI_1, show nI (pcN v i) + (0 : Int32) = nI (pcN v i + 0) from nI_add _ 0]
      exact hrec _ _ ⟨by show _ = nI (pcN v i + _); rw [if_neg g], rfl⟩
  · rintro a h1 rec ⟨rfl, rfl⟩
    unfold fX12_ones_l4
    rw [if_pos (show (10 : Int32) ≤ nI 10 by decide)]
    exact wp_some ⟨rfl, rfl⟩
theorem pc_cn {F : Nat → Nat} {b n : Nat} (hn : n ≤ 5) : ∀ k, k ≤ 10 → pcN (sbN (fun p => F p - b) n) k = cnS F b (min k n) := by
  intro k
  induction k with
  | zero => intro _; rw [Nat.zero_min]; rfl
  | succ k ih =>
    intro hk
    show pcN _ k + _ = _
    rw [ih (by omega), sbN_bit n hn k (by omega)]
    by_cases g : k < n
    · rw [show min (k + 1) n = min k n + 1 by omega, show min k n = k by omega]
      show _ = cnS F b k + _
      by_cases q : b < F k
      · rw [if_pos q, if_pos (by simp; omega)]
      · rw [if_neg q, if_neg (by simp; omega)]
    · rw [show min (k + 1) n = min k n by omega, if_neg (by simp; omega)]; rfl
theorem isSo_eq {h : Hp} {jj n sp r m : Nat} {pl sd pt bt F : Nat → Nat} {x : PW} {b at' : Nat} (hjj : jj < 8) (hn : n ≤ 5) (hg : GV r m sd pt bt) (h52 : h.1 10 0 52 = nI jj) (ml : MLg h jj r m sd pt bt) (ms : MS h n sp pl x) (mf : MFB n x (F, b, at')) (hb : 31 ≤ b) : fX12_isSo h = some (if okS n sd pt bt F m = true then 1 else 0, h) := by
  apply wp_same
  obtain ⟨g1, g2, g3⟩ := hg
  unfold fX12_isSo
  have fM : fX12_facts h = some (nI m, h) := by rw [facts_eq h52 hjj, ml.2.1]
  refine wp_for1 m (fun i h' => h' = h ∧ okS n sd pt bt F i = true) ?_ ?_ FU h (i0 := 0) (by omega) (FUb (by omega)) ⟨rfl, rfl⟩
  · rintro i h1 rec hi ⟨rfl, ok⟩ hrec
    unfold fX12_isSo_l2
    obtain ⟨s1, s2, s3⟩ := ml.2.2 i hi
    obtain ⟨b1, b2, b3⟩ := g3 i hi
    have bad : okS n sd pt bt F (i + 1) = false → (if okS n sd pt bt F m = true then (1 : Int32) else 0) = 0 := fun q => by rw [if_neg (by rw [okS_mono q m (by omega)]; decide)]
    have ok1 : okS n sd pt bt F (i + 1) = (decide (pt i < n) && (decide (bt i < F (pt i)) == decide (sd i = 1))) := by show (okS n sd pt bt F i && _) = _; rw [ok, Bool.true_and]
    have f0 : fX12_factOf (nI i) 0 h1 = some (nI (sd i), h1) := by rw [show (0 : Int32) = nI 0 from rfl, factOf_eq h52 hjj (by omega) (by decide)]; exact congrArg (fun z => some (z, h1)) s1
    have f1 : fX12_factOf (nI i) 1 h1 = some (nI (pt i), h1) := by
      rw [show (1 : Int32) = nI 1 from rfl, factOf_eq h52 hjj (by omega) (by decide), show 26 * jj + 2 + 3 * i + 1 = 26 * jj + 3 + 3 * i by omega, s2]
    have f2 : fX12_factOf (nI i) 2 h1 = some (nI (bt i), h1) := by
      rw [show (2 : Int32) = nI 2 from rfl, factOf_eq h52 hjj (by omega) (by decide), show 26 * jj + 2 + 3 * i + 2 = 26 * jj + 4 + 3 * i by omega, s3]
    rw [fM, bnd_eq, if_neg (fun q => nI_ge hi (by omega) q), f1, bnd_eq, isPlate_eq ms.2.1 hn, bnd_eq]
    by_cases hpn : pt i < n
    · have hbt : bt i ≤ x.2.2.2 1 := by rw [mf.1]; show bt i ≤ b; omega
      have r57 : ra h1 57 0 (nI (bt i)) = nI (sbN (fun p => F p - bt i) n) := by
        rw [ra_n (by omega)]
        refine (ms.2.2.2.2.2.2.2.2.2.2.2.2 (bt i) hbt (by omega)).trans (congrArg nI ?_)
        exact mf.2.2.2 (bt i) (by show bt i ≤ b; omega)
      have hlt : sbN (fun p => F p - bt i) n < 32 := Nat.lt_of_lt_of_le (sbN_lt _ n) (Nat.pow_le_pow_right (by decide) hn)
      rw [if_neg (in_no hpn (by omega)), if_neg ne10, f2, bnd_eq, ck_p (ib_nI (by omega) (by decide)), r57, hasM_eq _ hlt (pt i) (by omega), bnd_eq, f0, bnd_eq, sbN_bit n hn (pt i) (by omega), jn_eq]
      have e1 : (nI (sd i) = 1) ↔ sd i = 1 := eq_n (b := 1) (by omega) (by decide)
      rw [decide_eq_true hpn, Bool.true_and] at ok1
      have eb : (if decide (pt i < n ∧ 0 < F (pt i) - bt i) = true then (1 : Int32) else 0) = (if bt i < F (pt i) then 1 else 0) := by
        by_cases q : bt i < F (pt i)
        · rw [if_pos q, if_pos (by simp; omega)]
        · rw [if_neg q, if_neg (by simp; omega)]
      rw [eb]
      by_cases a1 : sd i = 1
      · rw [if_pos (e1.mpr a1)]
        dsimp only
        by_cases a2 : bt i < F (pt i)
        · rw [if_pos a2, if_pos rfl, lt_eq, nI_1]
          exact hrec _ ⟨rfl, by rw [ok1, decide_eq_true a1, decide_eq_true a2]; rfl⟩
        · rw [if_neg a2, if_neg (by decide), ck_p zk_0]
          exact wp_some ⟨(bad (by rw [ok1, decide_eq_true a1, decide_eq_false a2]; rfl)).symm, rfl⟩
      · rw [if_neg (fun q => a1 (e1.mp q))]
        dsimp only
        by_cases a2 : bt i < F (pt i)
        · rw [if_pos a2, if_neg ne10, ck_p zk_0]
          exact wp_some ⟨(bad (by rw [ok1, decide_eq_false a1, decide_eq_true a2]; rfl)).symm, rfl⟩
        · rw [if_neg a2, if_pos rfl, lt_eq, nI_1]
          exact hrec _ ⟨rfl, by rw [ok1, decide_eq_false a1, decide_eq_false a2]; rfl⟩
    · rw [if_pos (Or.inr (nI_le (by omega) (by omega))), if_pos rfl, ck_p zk_0]
      exact wp_some ⟨(bad (by rw [ok1, decide_eq_false hpn, Bool.false_and])).symm, rfl⟩
  · rintro h1 rec ⟨rfl, ok⟩
    unfold fX12_isSo_l2
    rw [fM, bnd_eq, if_pos (nI_le (Nat.le_refl _) (by omega))]
    dsimp only
    rw [ck_p zk_1, ok]
    exact wp_some ⟨rfl, rfl⟩
theorem rowCode_eq {h : Hp} {jj r c : Nat} (hr : r ≤ 4) (hc : c < 2 ^ 31) (rM : fX12_runs h = some (nI r, h)) : fX12_rowCode (nI c) h = some (nI (codeN (rwN 5 r c) r), h) := by
  apply wp_same
  unfold fX12_rowCode
  refine wp_for2 r (fun i a h' => a = nI (codeN (rwN 5 r c) i) ∧ h' = h) ?_ ?_ FU 1 h (i0 := 0) (by omega) (FUb (by omega)) ⟨rfl, rfl⟩
  · rintro i a h1 rec hi ⟨rfl, rfl⟩ hrec
    unfold fX12_rowCode_l4
    obtain ⟨t1, t2, t3⟩ := dig5 (h := h1) hr hi hc
    rw [rM, bnd_eq, if_neg (fun q => nI_ge hi (by omega) q), rM, bnd_eq, t1, fives_eq (by omega), bnd_eq, ck_p t2, lt_eq, lt_eq, t3, nI_1, show (10 : Int32) = nI 10 from rfl, nI_mul, nI_add]
    exact hrec _ _ ⟨by show _ = nI (codeN (rwN 5 r c) i * 10 + _); rw [Nat.mul_comm], rfl⟩
  · rintro a h1 rec ⟨rfl, rfl⟩
    unfold fX12_rowCode_l4
    rw [rM, bnd_eq, if_pos (nI_le (Nat.le_refl _) (by omega))]
    exact wp_some ⟨rfl, rfl⟩
def MR (h : Hp) (r n : Nat) (a : Int32) (A : AR) : Prop := h.1 10 0 53 = nI A.length ∧ h.1 10 0 54 = a ∧ h.1 10 0 55 = (if A.length = 0 then 1000000 else nI (fewN A)) ∧ h.1 10 0 56 = (if A.length = 0 then -1 else nI (mosN A)) ∧ h.1 10 0 57 = (if A.length = 0 then -1 else nI (upsN n A)) ∧ (∀ i, i < r → h.1 65 0 i = nI (vvN i A)) ∧ (∀ i, r ≤ i → i < 4 → h.1 65 0 i = 0) ∧ ∀ j, j < 105 → h.1 66 0 j = nI (stN n j A)
theorem or_v : ∀ v, v < 32 → ∀ q, q < 5 → nI v ||| ((1 : Int32) <<< (nI q &&& 31)) = nI (v ||| 2 ^ q) := by decide +kernel
theorem lesser_eqN {a b : Nat} (ha : a < 2 ^ 31) (hb : b < 2 ^ 31) (h : Hp) : fX12_lesser (nI a) (nI b) h = some (nI (min a b), h) := by
  unfold fX12_lesser
  by_cases q : b ≤ a
  · rw [if_pos (nI_le q ha), Nat.min_eq_right q]
  · rw [if_neg (fun w => q ((le_n hb ha).mp w)), Nat.min_eq_left (by omega)]
theorem greaterM {b : Nat} (hb : b < 2 ^ 31) (h : Hp) : fX12_greater (-1) (nI b) h = some (nI b, h) := by
  unfold fX12_greater
  rw [if_pos]
  rw [Int32.le_iff_toInt_le, nI_toInt hb]
  show (-1 : Int) ≤ b
  omega
theorem noteFit_wp {h : Hp} {jj n sp r m c b b' at' : Nat} {pl sd pt bt F : Nat → Nat} {x : PW} {k : Int32} {A : AR} (hjj : jj < 8) (hn : n ≤ 5) (hr : r ≤ 4) (hc : c < 2 ^ 31) (h52 : h.1 10 0 52 = nI jj) (ml : MLg h jj r m sd pt bt) (ms : MS h n sp pl x) (mf : MFB n x (F, b', at')) (hb' : 31 ≤ b') (hb : b ≤ 40) (hA : VA n r A) (hAl : A.length ≤ 1000) (hw : ∀ i, i < r → rwN 5 r c i < 5) (mr : MR h r n (askN r k A) A) : WP (fX12_noteFit (nI c) k (nI b) (nI (cnS F b n)) h) (fun _ h' => MR h' r n (askN r k ((rwN 5 r c, F, b) :: A)) ((rwN 5 r c, F, b) :: A)) := by
  obtain ⟨d0, d1, d2, d3, d4, d5, d6, d7⟩ := mr
  obtain ⟨al1, al2, al3⟩ := AR_le A hA
  have hcn := cnS_le F b n
  have rM : ∀ h' : Hp, h'.1 10 0 52 = nI jj → (∀ i, h'.1 50 0 i = h.1 50 0 i) → fX12_runs h' = some (nI r, h') := fun h' e1 e2 => by rw [runs_eq e1 hjj, e2, ml.1]
  unfold fX12_noteFit
  have q53 : rd h 10 0 53 = nI A.length := d0
  have q54 : rd h 10 0 54 = askN r k A := d1
  rw [jn_eq, q53, q54]
  have fin : ∀ z, z = askN r k ((rwN 5 r c, F, b) :: A) → WP (lt (wr h 10 0 54 z) fun h3 =>
      bnd (fX12_lesser (rd h3 10 0 55) (nI b) h3) fun x5 h4 =>
      lt (wr h4 10 0 55 x5) fun h6 =>
      bnd (fX12_greater (rd h6 10 0 56) (nI b) h6) fun x8 h7 =>
      lt (wr h7 10 0 56 x8) fun h9 =>
      bnd (fX12_greater (rd h9 10 0 57) (nI (cnS F b n)) h9) fun x11 h10 =>
      lt (wr h10 10 0 57 x11) fun h12 =>
      lt (wr h12 10 0 53 ((rd h12 10 0 53) + (1 : Int32))) fun h13 =>
      itr1 (fX12_noteFit_l74 (nI c) (fun h22 => itr1 (fX12_noteFit_l121 (fun h29 => some ((), h29))) FU 0 h22)) FU 0 h13) (fun _ h' => MR h' r n (askN r k ((rwN 5 r c, F, b) :: A)) ((rwN 5 r c, F, b) :: A)) := by
    rintro z rfl
    refine wp_lt ?_
    have t55 : rd (wr h 10 0 54 (askN r k ((rwN 5 r c, F, b) :: A))) 10 0 55 = (if A.length = 0 then 1000000 else nI (fewN A)) := d2
    have e55 : fX12_lesser (if A.length = 0 then 1000000 else nI (fewN A)) (nI b) (wr h 10 0 54 (askN r k ((rwN 5 r c, F, b) :: A))) = some (nI (fewN ((rwN 5 r c, F, b) :: A)), wr h 10 0 54 (askN r k ((rwN 5 r c, F, b) :: A))) := by
      show _ = some (nI (if A.length = 0 then b else min (fewN A) b), _)
      by_cases h0 : A.length = 0
      · rw [if_pos h0, if_pos h0, show (1000000 : Int32) = nI 1000000 from rfl, lesser_eqN (by decide) (by omega), Nat.min_eq_right (by omega)]
      · rw [if_neg h0, if_neg h0, lesser_eqN (by omega) (by omega)]
    rw [t55, e55, bnd_eq]
    refine wp_lt ?_
    generalize hh6 : wr (wr h 10 0 54 (askN r k ((rwN 5 r c, F, b) :: A))) 10 0 55 (nI (fewN ((rwN 5 r c, F, b) :: A))) = h6
    have t56 : rd h6 10 0 56 = (if A.length = 0 then -1 else nI (mosN A)) := by rw [← hh6]; exact d3
    have e56 : fX12_greater (if A.length = 0 then -1 else nI (mosN A)) (nI b) h6 = some (nI (mosN ((rwN 5 r c, F, b) :: A)), h6) := by
      show _ = some (nI (max (mosN A) b), _)
      by_cases h0 : A.length = 0
      · have : A = [] := List.eq_nil_of_length_eq_zero h0
        subst this
        rw [if_pos h0, greaterM (by omega)]
        exact congrArg (fun z => some (nI z, h6)) (by show b = max 0 b; omega)
      · rw [if_neg h0, maxI' (by omega) (by omega)]
    rw [t56, e56, bnd_eq]
    refine wp_lt ?_
    generalize hh9 : wr h6 10 0 56 (nI (mosN ((rwN 5 r c, F, b) :: A))) = h9
    have t57 : rd h9 10 0 57 = (if A.length = 0 then -1 else nI (upsN n A)) := by rw [← hh9, ← hh6]; exact d4
    have e57 : fX12_greater (if A.length = 0 then -1 else nI (upsN n A)) (nI (cnS F b n)) h9 = some (nI (upsN n ((rwN 5 r c, F, b) :: A)), h9) := by
      show _ = some (nI (max (upsN n A) (cnS F b n)), _)
      by_cases h0 : A.length = 0
      · have : A = [] := List.eq_nil_of_length_eq_zero h0
        subst this
        rw [if_pos h0, greaterM (by omega)]
        exact congrArg (fun z => some (nI z, h9)) (by show cnS F b n = max 0 (cnS F b n); omega)
      · rw [if_neg h0, maxI' (by omega) (by omega)]
    rw [t57, e57, bnd_eq]
    refine wp_lt ?_
    have t53 : rd (wr h9 10 0 57 (nI (upsN n ((rwN 5 r c, F, b) :: A)))) 10 0 53 = nI A.length := by rw [← hh9, ← hh6]; exact d0
    rw [t53, nI_1]
    refine wp_lt ?_
    generalize hH : wr (wr h9 10 0 57 (nI (upsN n ((rwN 5 r c, F, b) :: A)))) 10 0 53 (nI (A.length + 1)) = H
    have kH : ∀ k s i, k ≠ 10 → H.1 k s i = h.1 k s i := fun k s i hk => by rw [← hH, wr_other hk, wr_other hk, ← hh9, wr_other hk, ← hh6, wr_other hk, wr_other hk]
    have s53 : H.1 10 0 53 = nI (A.length + 1) := by rw [← hH]; rfl
    have s54 : H.1 10 0 54 = askN r k ((rwN 5 r c, F, b) :: A) := by rw [← hH, ← hh9, ← hh6]; rfl
    have s55 : H.1 10 0 55 = nI (fewN ((rwN 5 r c, F, b) :: A)) := by rw [← hH, ← hh9, ← hh6]; rfl
    have s56 : H.1 10 0 56 = nI (mosN ((rwN 5 r c, F, b) :: A)) := by rw [← hH, ← hh9]; rfl
    have s57 : H.1 10 0 57 = nI (upsN n ((rwN 5 r c, F, b) :: A)) := by rw [← hH]; rfl
    have s52 : H.1 10 0 52 = nI jj := by rw [← hH, ← hh9, ← hh6]; exact h52
    refine wp_for1 r (fun i h' => (∀ q, q < i → h'.1 65 0 q = nI (vvN q ((rwN 5 r c, F, b) :: A))) ∧ (∀ q, i ≤ q → h'.1 65 0 q = h.1 65 0 q) ∧ ∀ k s i, k ≠ 65 → h'.1 k s i = H.1 k s i) ?_ ?_ FU H (i0 := 0) (by omega) (FUb (by omega)) ⟨fun q hq => absurd hq (Nat.not_lt_zero _), fun q _ => kH 65 0 q (by decide), fun _ _ _ _ => rfl⟩
    · rintro i h2 rec hi ⟨a1, a2, a3⟩ hrec
      unfold fX12_noteFit_l74
      obtain ⟨t1, t2, t3⟩ := dig5 (h := h) hr hi hc
      have rM2 := rM h2 ((a3 10 0 52 (by decide)).trans s52) (fun i => (a3 50 0 i (by decide)).trans (kH 50 0 i (by decide)))
      have r65 : ra h2 65 0 (nI i) = nI (vvN i A) := by rw [ra_n (by omega)]; exact (a2 i (Nat.le_refl _)).trans (d5 i hi)
      rw [rM2, bnd_eq, if_neg (fun q => nI_ge hi (by omega) q), ck_p (ib_nI (by omega) (by decide)), rM2, bnd_eq, t1, fives_eq (by omega), bnd_eq, ck_p t2, ck_p (ib_nI (by omega) (by decide)), lt_eq, lt_eq, t3, r65, or_v _ (vvN_lt A hA i hi).1 _ (hw i hi), nI_1]
      refine hrec _ ⟨fun q hq => ?_, fun q hq => ?_, fun k s p hk => by rw [wa_g, if_neg (by omega)]; exact a3 k s p hk⟩
      · rw [wa_g, nI_clamp (by omega), show 0 % cnt 65 = 0 from rfl]
        by_cases hqi : q = i
        · rw [if_pos ⟨rfl, rfl, hqi⟩, hqi]; rfl
        · rw [if_neg (by omega)]; exact a1 q (by omega)
      · rw [wa_g, nI_clamp (by omega), if_neg (by omega)]; exact a2 q (by omega)
    · rintro h2 rec ⟨a1, a2, a3⟩
      unfold fX12_noteFit_l74
      have rM2 := rM h2 ((a3 10 0 52 (by decide)).trans s52) (fun i => (a3 50 0 i (by decide)).trans (kH 50 0 i (by decide)))
      rw [rM2, bnd_eq, if_pos (nI_le (Nat.le_refl _) (by omega))]
      refine wp_for1 105 (fun i h' => (∀ q, q < i → h'.1 66 0 q = nI (stN n q ((rwN 5 r c, F, b) :: A))) ∧ (∀ q, i ≤ q → h'.1 66 0 q = h.1 66 0 q) ∧ ∀ k s i, k ≠ 66 → h'.1 k s i = h2.1 k s i) ?_ ?_ FU h2 (i0 := 0) (by omega) (FUb (by omega)) ⟨fun q hq => absurd hq (Nat.not_lt_zero _), fun q _ => (a3 66 0 q (by decide)).trans (kH 66 0 q (by decide)), fun _ _ _ _ => rfl⟩
      · rintro i h3 rec2 hi ⟨b1, b2, b3⟩ hrec2
        unfold fX12_noteFit_l121
        have d5i : nI i / (5 : Int32) = nI (i / 5) := nI_div (b := 5) (by omega) (by decide)
        have m5i : irm (nI i) (5 : Int32) = nI (i % 5) := nI_rem (b := 5) (by omega) (by decide)
        have r57 : ra h3 57 0 (nI (i / 5)) = nI (sbN (fun p => F p - i / 5) n) := by
          rw [ra_n (by omega)]
          have e : h3.1 57 0 (i / 5) = h.1 57 0 (i / 5) := (b3 57 0 _ (by decide)).trans ((a3 57 0 _ (by decide)).trans (kH 57 0 _ (by decide)))
          refine e.trans ((ms.2.2.2.2.2.2.2.2.2.2.2.2 (i / 5) (by rw [mf.1]; show i / 5 ≤ b'; omega) (by omega)).trans (congrArg nI ?_))
          exact mf.2.2.2 (i / 5) (by show i / 5 ≤ b'; omega)
        have hlt : sbN (fun p => F p - i / 5) n < 32 := Nat.lt_of_lt_of_le (sbN_lt _ n) (Nat.pow_le_pow_right (by decide) hn)
        have r66 : ra h3 66 0 (nI i) = nI (stN n i A) := by rw [ra_n (by omega)]; exact (b2 i (Nat.le_refl _)).trans (d7 i hi)
        rw [if_neg (show ¬ (105 : Int32) ≤ nI i from fun q => nI_ge hi (by decide) q), ck_p (ib_nI (by omega) (by decide)), d5i, m5i, ck_p (ib_nI (by omega) (by decide)), r57, hasM_eq _ hlt (i % 5) (by omega), bnd_eq, sbN_bit n hn (i % 5) (by omega), jn_eq, r66]
        have go : ∀ z e, z = nI e → e = (if i % 5 < n ∧ i / 5 < F (i % 5) then 1 else 0) → WP (ck (ib (nI i) 105) (lt (wa h3 66 0 (nI i) (nI (stN n i A) + z)) fun h27 => lt (nI i + 1) fun x28 => rec2 x28 h27)) (fun _ h' => MR h' r n (askN r k ((rwN 5 r c, F, b) :: A)) ((rwN 5 r c, F, b) :: A)) := by
          rintro z e rfl he
          rw [ck_p (ib_nI (by omega) (by decide)), lt_eq, lt_eq, nI_1, nI_add]
          refine hrec2 _ ⟨fun q hq => ?_, fun q hq => ?_, fun k s p hk => by rw [wa_g, if_neg (by omega)]; exact b3 k s p hk⟩
          · rw [wa_g, nI_clamp (by omega), show 0 % cnt 66 = 0 from rfl]
            by_cases hqi : q = i
            · rw [if_pos ⟨rfl, rfl, hqi⟩, hqi, he]; rfl
            · rw [if_neg (by omega)]; exact b1 q (by omega)
          · rw [wa_g, nI_clamp (by omega), if_neg (by omega)]; exact b2 q (by omega)
        by_cases g : i % 5 < n ∧ i / 5 < F (i % 5)
        · rw [if_pos (show decide (i % 5 < n ∧ 0 < F (i % 5) - i / 5) = true by simp; omega), if_neg ne10]
          exact go 1 1 rfl (by rw [if_pos g])
        · rw [if_neg (show ¬ decide (i % 5 < n ∧ 0 < F (i % 5) - i / 5) = true by simp; omega), if_pos rfl]
          exact go 0 0 rfl (by rw [if_neg g])
      · rintro h3 rec2 ⟨b1, b2, b3⟩
        unfold fX12_noteFit_l121
        rw [if_pos (show (105 : Int32) ≤ nI 105 by decide)]
        have u : ∀ i, h3.1 10 0 i = H.1 10 0 i := fun i => (b3 10 0 i (by decide)).trans (a3 10 0 i (by decide))
        exact wp_some ⟨(u 53).trans s53, (u 54).trans s54, (u 55).trans s55, (u 56).trans s56, (u 57).trans s57, fun i hi => (b3 65 0 i (by decide)).trans (a1 i hi), fun i h1 h2' => (b3 65 0 i (by decide)).trans ((a2 i h1).trans (d6 i h1 h2')), fun q hq => b1 q hq⟩
  by_cases hk : nI A.length = k
  · rw [if_pos hk, rowCode_eq (jj := jj) hr hc (rM h h52 (fun _ => rfl)), bnd_eq]
    refine fin _ ?_
    show _ = (if nI A.length = k then nI (codeN (rwN 5 r c) r) else _)
    rw [if_pos hk]
  · rw [if_neg hk]
    refine fin _ ?_
    show _ = (if nI A.length = k then _ else askN r k A)
    rw [if_neg hk]
