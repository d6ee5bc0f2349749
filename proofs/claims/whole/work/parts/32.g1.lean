/-! G1: simple questions -/
theorem in_eq (a lo hi : Int32) (h : Hp) : fX12_in a lo hi h = some (if a < lo ∨ hi < a then 0 else 1, h) := by
  unfold fX12_in
  simp only [jn_eq, zk_0, zk_1, ck_t]
  by_cases h1 : a < lo
  · simp [h1]
  · by_cases h2 : hi < a
    · simp [h1, h2]
    · simp [h1, h2]
theorem has9_eq (t : Nat) (a : Int32) (h : Hp) : fX9_has t a h = some (if a < 0 ∨ 3 ≤ a then 0 else 1, h) := by
  unfold fX9_has
  simp only [jn_eq, zk_0, zk_1, ck_t]
  by_cases h1 : a < 0
  · simp [h1]
  · by_cases h2 : (3 : Int32) ≤ a
    · simp [h1, h2]
    · simp [h1, h2]
theorem c2_iff (a : Int32) : (2 < a) ↔ (3 ≤ a) := by
  rw [Int32.lt_iff_toInt_lt, Int32.le_iff_toInt_le]
  show (2 : Int) < _ ↔ (3 : Int) ≤ _
  omega
section G1
variable {KI : Hp → Prop}
theorem st_fault (hKI : KStab KI) : Stp_fault (Rel KI) := by
  intro a
  refine stp_q hKI (frX11_fault a) (frX12_fault a) rfl rfl rfl rfl (fun hC hM hR => ?_)
  obtain ⟨⟨-, -, h5, h6, -⟩, -⟩ := hR
  unfold fX11_fault fX12_fault
  simp only [lt_eq]
  by_cases h0 : a = 0
  · refine ⟨hC.1 7 0 2, hC, wr hM 10 0 0 0, ?_, ?_⟩
    · rw [if_pos h0]; rfl
    · rw [if_pos h0, h5]; rfl
  · by_cases h1 : a = 1
    · refine ⟨hC.1 7 0 3, hC, wr hM 10 0 0 0, ?_, ?_⟩
      · rw [if_neg h0, if_pos h1]; rfl
      · rw [if_neg h0, if_pos h1, h6]; rfl
    · refine ⟨-1, hC, wr hM 10 0 0 0, ?_, ?_⟩
      · rw [if_neg h0, if_neg h1]
      · rw [if_neg h0, if_neg h1]
theorem st_count (hKI : KStab KI) : Stp_count (Rel KI) := by
  intro a
  refine stp_q hKI (frX11_count a) (frX12_count a) rfl rfl rfl rfl (fun hC hM hR => ?_)
  obtain ⟨⟨-, -, -, -, c0, c1, c2, -, ⟨e0, e1, e2⟩, ⟨m0, m1, m2⟩, -⟩, -⟩ := hR
  unfold fX11_count fX12_count
  simp only [lt_eq, in_eq, has9_eq, bnd_eq, c2_iff]
  by_cases h0 : a < 0 ∨ 3 ≤ a
  · refine ⟨-2, hC, wr hM 10 0 0 0, ?_, ?_⟩ <;> rw [if_pos h0, if_pos rfl]
  · rw [if_neg h0, if_neg (by decide), if_neg (by decide)]
    have h1 : ¬ a < 0 := fun q => h0 (Or.inl q)
    have h2 : ¬ (3 : Int32) ≤ a := fun q => h0 (Or.inr q)
    obtain ⟨j, hj, rfl⟩ := nI_of h1
    have hj3 : j < 3 := by
      rcases Nat.lt_or_ge j 3 with q | q
      · exact q
      · exact absurd (nI_le q hj) h2
    refine ⟨hC.1 37 0 j, hC, wr hM 10 0 0 0, ?_, ?_⟩
    · rw [ck_p (ib_nI hj3 (by decide)), ra_n hj]; rfl
    · rw [ck_p (ib_nI (show j < 12 by omega) (by decide)), ra_n hj]
      have e : (wr hM 10 0 0 0).1 47 (0 % cnt 47) j = hM.1 47 0 j := rfl
      rw [e]
      rcases (show j = 0 ∨ j = 1 ∨ j = 2 by omega) with rfl | rfl | rfl
      · rw [e0, m0]
      · rw [e1, m1]
      · rw [e2, m2]
end G1
theorem is_eq (q a : Int32) (h : Hp) (hq : ib q 12 = true) : fX12_is q a h = some (if a < 0 ∨ ra h 47 0 q - 1 < a then 0 else 1, h) := by
  unfold fX12_is
  rw [ck_p hq, in_eq, bnd_eq]
  have : zk (if a < 0 ∨ ra h 47 0 q - 1 < a then 0 else 1) = true := by split <;> rfl
  rw [ck_p this]
/-- below 0, or not below c -/
theorem out_iff {a : Int32} {c : Nat} (hc : c ≤ 1000) : (nI c - 1 < a) ↔ (nI c ≤ a) := by
  have e1 : (nI c).toInt = (c : Int) := nI_toInt (by omega)
  have e3 : (nI c - 1).toInt = (c : Int) - 1 := by
    rw [Int32.toInt_sub, e1]
    show ((c : Int) - 1).bmod (2 ^ 32) = _
    unfold Int.bmod
    dsimp only
    split <;> omega
  rw [Int32.lt_iff_toInt_lt, Int32.le_iff_toInt_le, e3, e1]
  omega
theorem int_cases (a : Int32) (c : Nat) (hc : c < 2 ^ 31) : (a < 0 ∨ nI c ≤ a) ∨ ∃ j, j < c ∧ a = nI j := by
  by_cases h1 : a < 0
  · exact Or.inl (Or.inl h1)
  · obtain ⟨j, hj, rfl⟩ := nI_of h1
    rcases Nat.lt_or_ge j c with q | q
    · exact Or.inr ⟨j, q, rfl⟩
    · exact Or.inl (Or.inr (nI_le q hj))
theorem in_no {j c : Nat} (hj : j < c) (hc : c < 2 ^ 31) : ¬ (nI j < 0 ∨ nI c ≤ nI j) := by
  rintro (q | q)
  · exact nI_pos (by omega) q
  · exact nI_ge hj hc q
/-- the class's stageAt and its like -/
theorem stageAt_no {h : Hp} {a : Int32} {c : Nat} (hc : h.1 37 0 0 = nI c) (ha : a < 0 ∨ nI c ≤ a) : fX9_stageAt 0 a h = some (none, h) := by
  unfold fX9_stageAt
  simp only [jn_eq]
  rw [ck_p (show ib 0 3 = true from rfl)]
  by_cases h1 : a < 0
  · rw [if_pos h1]
  · rw [if_neg h1, if_pos]
    rcases ha with q | q
    · exact absurd q h1
    · show h.1 37 0 0 ≤ a
      rw [hc]; exact q
theorem stageAt_yes {h : Hp} {j c : Nat} (hc : h.1 37 0 0 = nI c) (hj : j < c) (h2 : c ≤ 2) : fX9_stageAt 0 (nI j) h = some (some j, h) := by
  unfold fX9_stageAt
  simp only [jn_eq]
  rw [ck_p (show ib 0 3 = true from rfl), if_neg (nI_pos (by omega)), if_neg (by show ¬ h.1 37 0 0 ≤ _; rw [hc]; exact nI_ge hj (by omega)), if_neg (show ¬ (2 : Int32) ≤ nI j from nI_ge (show j < 2 by omega) (by decide)), ck_p (ib_nI (show j < 2 by omega) (by decide)), nI_clamp (by omega)]
  simp
theorem showAt_no {h : Hp} {a : Int32} {c : Nat} (hc : h.1 37 0 1 = nI c) (ha : a < 0 ∨ nI c ≤ a) : fX9_showAt 0 a h = some (none, h) := by
  unfold fX9_showAt
  simp only [jn_eq]
  rw [ck_p (show ib 1 3 = true from rfl)]
  by_cases h1 : a < 0
  · rw [if_pos h1]
  · rw [if_neg h1, if_pos]
    rcases ha with q | q
    · exact absurd q h1
    · show h.1 37 0 1 ≤ a
      rw [hc]; exact q
theorem showAt_yes {h : Hp} {j c : Nat} (hc : h.1 37 0 1 = nI c) (hj : j < c) (h2 : c ≤ 2) : fX9_showAt 0 (nI j) h = some (some j, h) := by
  unfold fX9_showAt
  simp only [jn_eq]
  rw [ck_p (show ib 1 3 = true from rfl), if_neg (nI_pos (by omega)), if_neg (by show ¬ h.1 37 0 1 ≤ _; rw [hc]; exact nI_ge hj (by omega)), if_neg (show ¬ (2 : Int32) ≤ nI j from nI_ge (show j < 2 by omega) (by decide)), ck_p (ib_nI (show j < 2 by omega) (by decide)), nI_clamp (by omega)]
  simp
theorem logAt_no {h : Hp} {a : Int32} {c : Nat} (hc : h.1 37 0 2 = nI c) (ha : a < 0 ∨ nI c ≤ a) : fX9_logAt 0 a h = some (none, h) := by
  unfold fX9_logAt
  simp only [jn_eq]
  rw [ck_p (show ib 2 3 = true from rfl)]
  by_cases h1 : a < 0
  · rw [if_pos h1]
  · rw [if_neg h1, if_pos]
    rcases ha with q | q
    · exact absurd q h1
    · show h.1 37 0 2 ≤ a
      rw [hc]; exact q
theorem logAt_yes {h : Hp} {j c : Nat} (hc : h.1 37 0 2 = nI c) (hj : j < c) (h2 : c ≤ 2) : fX9_logAt 0 (nI j) h = some (some j, h) := by
  unfold fX9_logAt
  simp only [jn_eq]
  rw [ck_p (show ib 2 3 = true from rfl), if_neg (nI_pos (by omega)), if_neg (by show ¬ h.1 37 0 2 ≤ _; rw [hc]; exact nI_ge hj (by omega)), if_neg (show ¬ (2 : Int32) ≤ nI j from nI_ge (show j < 2 by omega) (by decide)), ck_p (ib_nI (show j < 2 by omega) (by decide)), nI_clamp (by omega)]
  simp
/-- the reference has a stage in hand -/
def MH (h : Hp) (sp st n : Nat) (pl li le : Nat → Nat) : Prop := h.1 10 0 22 = nI n ∧ h.1 10 0 23 = nI sp ∧ h.1 10 0 24 = nI st ∧ h.1 10 0 25 = nI (2 ^ n - 1) ∧ ∀ p, p < n → h.1 53 0 p = nI (pl p) ∧ h.1 54 0 p = nI (li p) ∧ h.1 55 0 p = nI (le p)
theorem of_eq {h : Hp} {j w : Nat} (hj : h.1 10 0 21 = nI j) (hb : 18 * j + w < 144) : fX12_of (nI w) h = some (h.1 48 0 (18 * j + w), h) := by
  unfold fX12_of
  have e : (18 : Int32) * rd h 10 0 21 + nI w = nI (18 * j + w) := by
    show (18 : Int32) * h.1 10 0 21 + nI w = _
    rw [hj, show (18 : Int32) = nI 18 from rfl, nI_mul, nI_add]
  rw [e, ck_p (ib_nI hb (by decide)), ra_n (by omega)]
  rfl
theorem shl_some : ∀ n, n ≤ 5 → ((1 : Int32) <<< (nI n &&& 31)) - (1 : Int32) = nI (2 ^ n - 1) := by decide
theorem asTold_wp {h : Hp} {j sp st n : Nat} {pl li le : Nat → Nat} (hj : h.1 10 0 21 = nI j) (hj8 : j < 8) (hn : n ≤ 5) (hm : MSt h j sp st n pl li le) : WP (fX12_asTold h) (fun _ h' => MH h' sp st n pl li le) := by
  obtain ⟨m1, m2, m3, m4⟩ := hm
  unfold fX12_asTold
  rw [show (0 : Int32) = nI 0 from rfl, of_eq hj (by omega), bnd_eq, lt_eq, show (1 : Int32) = nI 1 from rfl, of_eq (j := j) (by exact hj) (by omega), bnd_eq, lt_eq, show (2 : Int32) = nI 2 from rfl, of_eq (j := j) (by exact hj) (by omega), bnd_eq, lt_eq, lt_eq]
  refine wp_itr1 (fun m x h1 => ∃ i, i ≤ 5 ∧ m = 5 - i ∧ x = nI i ∧ h1.1 10 0 21 = nI j ∧ (∀ q, h1.1 48 0 q = h.1 48 0 q) ∧ h1.1 10 0 22 = nI n ∧ h1.1 10 0 23 = nI sp ∧ h1.1 10 0 24 = nI st ∧ h1.1 10 0 25 = nI (2 ^ n - 1) ∧ ∀ p, p < i → h1.1 53 0 p = h.1 48 0 (18 * j + 3 + p) ∧ h1.1 54 0 p = h.1 48 0 (18 * j + 8 + p) ∧ h1.1 55 0 p = h.1 48 0 (18 * j + 13 + p)) ?_ FU 5 _ _ (by decide) ?_
  · rintro m x h1 rec ⟨i, hi, rfl, rfl, e21, e48, e22, e23, e24, e25, ea⟩ hrec
    unfold fX12_asTold_l41
    refine wp_if (fun hc => ?_) (fun hc => ?_)
    · have h5 : ¬ i < 5 := fun q => nI_ge q (by decide) hc
      have : i = 5 := by omega
      subst this
      refine wp_some ⟨e22, e23, e24, e25, fun p hp => ?_⟩
      obtain ⟨a1, a2, a3⟩ := ea p (by omega)
      obtain ⟨b1, b2, b3⟩ := m4 p hp
      exact ⟨a1.trans b1, a2.trans b2, a3.trans b3⟩
    · have h5 : i < 5 := by
        rcases Nat.lt_or_ge i 5 with q | q
        · exact q
        · exact absurd (nI_le q (by omega)) hc
      have hib : ib (nI i) 5 = true := ib_nI h5 (by decide)
      rw [show (3 : Int32) + nI i = nI (3 + i) from nI_add 3 i, of_eq e21 (by omega), bnd_eq, ck_p hib, lt_eq]
      rw [show (8 : Int32) + nI i = nI (8 + i) from nI_add 8 i, of_eq (j := j) (by exact e21) (by omega), bnd_eq, ck_p hib, lt_eq]
      rw [show (13 : Int32) + nI i = nI (13 + i) from nI_add 13 i, of_eq (j := j) (by exact e21) (by omega), bnd_eq, ck_p hib, lt_eq, lt_eq, nI_1]
      refine hrec (5 - (i + 1)) _ _ (by omega) ⟨i + 1, by omega, rfl, rfl, e21, e48, e22, e23, e24, e25, fun p hp => ?_⟩
      simp only [wa_g, nI_clamp (show i < 2 ^ 31 by omega)]
      by_cases hpi : p = i
      · subst hpi
        refine ⟨?_, ?_, ?_⟩
        · simp [cnt, ctab, e48, Nat.add_assoc]
        · simp [cnt, ctab, wa_g, e48, Nat.add_assoc]
        · simp [cnt, ctab, wa_g, e48, Nat.add_assoc]
      · obtain ⟨a1, a2, a3⟩ := ea p (by omega)
        refine ⟨?_, ?_, ?_⟩
        · simp [hpi, a1]
        · simp [hpi, a2]
        · simp [hpi, a3]
  · refine ⟨0, by omega, rfl, rfl, hj, fun q => rfl, ?_, ?_, ?_, ?_, fun p hp => absurd hp (Nat.not_lt_zero _)⟩
    · exact m3
    · exact m1
    · exact m2
    · show (1 : Int32) <<< (h.1 48 0 (18 * j + 2) &&& 31) - 1 = _
      rw [m3]
      exact shl_some n hn
