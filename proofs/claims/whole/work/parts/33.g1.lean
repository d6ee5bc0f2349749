/-! division -/
theorem bm_small {x : Int} (h1 : -2147483648 ≤ x) (h2 : x < 2147483648) : x.bmod (2 ^ 32) = x := by
  unfold Int.bmod
  dsimp only
  split <;> omega
theorem nI_div {a b : Nat} (ha : a < 2 ^ 31) (hb : b < 2 ^ 31) : nI a / nI b = nI (a / b) := by
  apply Int32.toInt_inj.mp
  have h1 : a / b ≤ a := Nat.div_le_self a b
  rw [Int32.toInt_div, nI_toInt ha, nI_toInt hb, nI_toInt (by omega)]
  have e : (a : Int).tdiv (b : Int) = ((a / b : Nat) : Int) := by
    rw [Int.tdiv_eq_ediv_of_nonneg (by omega)]; rfl
  rw [e]
  generalize a / b = q at h1
  exact bm_small (by omega) (by omega)
theorem nI_rem {a b : Nat} (ha : a < 2 ^ 31) (hb : b < 2 ^ 31) : irm (nI a) (nI b) = nI (a % b) := by
  unfold irm
  rw [nI_div ha hb, nI_mul, nI_sub (Nat.div_mul_le_self a b)]
  congr 1
  have := Nat.div_add_mod a b
  rw [Nat.mul_comm] at this
  omega
theorem neg_div10 {a : Int32} (ha : a < 0) : (a / 10).toInt ≤ 0 := by
  have h0 : a.toInt < 0 := by
    have := Int32.lt_iff_toInt_lt.mp ha
    simpa using this
  have hb := Int32.minValue_le_toInt a
  have hmin : Int32.minValue.toInt = -2147483648 := rfl
  rw [Int32.toInt_div]
  show (a.toInt.tdiv 10).bmod (2 ^ 32) ≤ 0
  have e : a.toInt.tdiv 10 = -((-a.toInt) / 10) := by
    rw [← Int.tdiv_eq_ediv_of_nonneg (by omega), Int.neg_tdiv]; omega
  rw [e, bm_small (by omega) (by omega)]
  omega
theorem ne_of_toInt {a : Int32} {k : Int32} (h : a.toInt ≠ k.toInt) : ¬ a = k := fun q => h (by rw [q])
theorem has8_eq {h : Hp} {s n : Nat} (hs : s < 12) (hn : h.1 6 s 2 = nI n) (x : Int32) : fX8_has s x h = some (if x < 0 ∨ nI n ≤ x then 0 else 1, h) := by
  unfold fX8_has
  simp only [jn_eq, zk_0, zk_1, ck_t]
  have e : rd h 6 s 2 = nI n := by
    show h.1 6 (s % 12) 2 = _
    rw [Nat.mod_eq_of_lt hs]; exact hn
  rw [e]
  by_cases h1 : x < 0
  · simp [h1]
  · by_cases h2 : nI n ≤ x
    · simp [h1, h2]
    · simp [h1, h2]
theorem isPlate_eq {h : Hp} {n : Nat} (hn : h.1 10 0 22 = nI n) (hn5 : n ≤ 5) (x : Int32) : fX12_isPlate x h = some (if x < 0 ∨ nI n ≤ x then 0 else 1, h) := by
  unfold fX12_isPlate
  have e : rd h 10 0 22 - 1 = nI n - 1 := by show h.1 10 0 22 - 1 = _; rw [hn]
  rw [e, in_eq, bnd_eq]
  have hz : zk (if x < 0 ∨ nI n - 1 < x then 0 else 1) = true := by split <;> rfl
  rw [ck_p hz]
  simp only [out_iff (show n ≤ 1000 by omega)]
/-- the answer of stage() on a stage that is there -/
def stAns (sp st n : Nat) (pl li le : Nat → Nat) (w : Int32) : Int32 := if w < 0 then -1 else
  let a := w.toNatClampNeg
  if a = 0 then nI sp else if a = 1 then nI st else if a = 2 then nI n else if a % 10 < n then (if a / 10 = 1 then nI (pl (a % 10)) else if a / 10 = 2 then nI (li (a % 10)) else if a / 10 = 3 then nI (le (a % 10)) else -1) else -1
theorem plateFact_neg {h : Hp} {s n : Nat} (hs : s < 12) (hn : h.1 6 s 2 = nI n) {w : Int32} (hw : w < 0) : fX8_plateFact s w h = some (-1, h) := by
  unfold fX8_plateFact
  rw [lt_eq, has8_eq hs hn, bnd_eq, lt_eq]
  have hd := neg_div10 hw
  have e1 : ¬ w / 10 = 1 := ne_of_toInt (by show (w / 10).toInt ≠ 1; omega)
  have e2 : ¬ w / 10 = 2 := ne_of_toInt (by show (w / 10).toInt ≠ 2; omega)
  have e3 : ¬ w / 10 = 3 := ne_of_toInt (by show (w / 10).toInt ≠ 3; omega)
  rw [if_neg e1, if_neg e2, if_neg e3]
  split <;> rfl
theorem plateFact_pos {h : Hp} {s sp st n : Nat} {pl li le : Nat → Nat} (hs : s < 12) (hv : SV sp st n pl li le) (hc : CSt h s sp st n pl li le) {a : Nat} (ha : a < 2 ^ 31) : fX8_plateFact s (nI a) h = some (if a % 10 < n then (if a / 10 = 1 then nI (pl (a % 10)) else if a / 10 = 2 then nI (li (a % 10)) else if a / 10 = 3 then nI (le (a % 10)) else -1) else -1, h) := by
  obtain ⟨c1, c2, c3, c4⟩ := hc
  obtain ⟨-, -, -, v5, -⟩ := hv
  unfold fX8_plateFact
  rw [lt_eq, show (10 : Int32) = nI 10 from rfl, nI_rem ha (by decide), has8_eq hs c3, bnd_eq, lt_eq, nI_div ha (by decide)]
  by_cases hp : a % 10 < n
  · have hno := in_no hp (show n < 2 ^ 31 by omega)
    rw [if_neg hno, if_neg (by decide), if_pos hp]
    have hd : a / 10 < 2 ^ 31 := by omega
    obtain ⟨d1, d2, d3⟩ := c4 _ hp
    have hib : ib (nI (a % 10)) 5 = true := ib_nI (by omega) (by decide)
    have hm : s % cnt 33 = s := Nat.mod_eq_of_lt hs
    have hm4 : s % cnt 34 = s := Nat.mod_eq_of_lt hs
    have hm5 : s % cnt 35 = s := Nat.mod_eq_of_lt hs
    have q1 : (nI (a / 10) = 1) ↔ a / 10 = 1 := nI_eq hd (by decide)
    have q2 : (nI (a / 10) = 2) ↔ a / 10 = 2 := nI_eq hd (by decide)
    have q3 : (nI (a / 10) = 3) ↔ a / 10 = 3 := nI_eq hd (by decide)
    simp only [q1, q2, q3, ck_p hib, ra_n (show a % 10 < 2 ^ 31 by omega), hm, hm4, hm5, d1, d2, d3]
    split
    · rfl
    · split
      · rfl
      · split <;> rfl
  · have hin : nI (a % 10) < 0 ∨ nI n ≤ nI (a % 10) := Or.inr (nI_le (by omega) (by omega))
    rw [if_pos hin, if_pos rfl, if_neg hp]
theorem wr_other {h : Hp} {k s i : Nat} {v : Int32} {k' s' i' : Nat} (hk : k' ≠ k) : (wr h k s i v).1 k' s' i' = h.1 k' s' i' := by
  rw [wr_g, if_neg (fun q => hk q.1)]
theorem hand_no {h : Hp} {a : Int32} {c : Nat} (hc : h.1 47 0 0 = nI c) (h2 : c ≤ 2) (ha : a < 0 ∨ nI c ≤ a) : fX12_hand a h = some (0, h) := by
  unfold fX12_hand
  have e : ra h 47 0 0 = nI c := hc
  rw [is_eq 0 a h rfl, bnd_eq, e]
  simp only [out_iff (show c ≤ 1000 by omega)]
  rw [if_pos ha, if_pos rfl, ck_p zk_0]
theorem hand_yes {h : Hp} {j c sp st n : Nat} {pl li le : Nat → Nat} (hc : h.1 47 0 0 = nI c) (h2 : c ≤ 2) (hj : j < c) (hn : n ≤ 5) (hm : MSt h j sp st n pl li le) : WP (fX12_hand (nI j) h) (fun r h' => r = 1 ∧ MH h' sp st n pl li le ∧ h'.1 10 0 21 = nI j ∧ Fr (wX12_hand) h h') := by
  refine wp_mono (wp_fr (L := wX12_hand) (h0 := h) (P := fun r h' => r = 1 ∧ MH h' sp st n pl li le ∧ h'.1 10 0 21 = nI j) ?_ (frX12_hand (nI j) h)) (fun r h' q => ⟨q.1.1, q.1.2.1, q.1.2.2, q.2⟩)
  unfold fX12_hand
  have e : ra h 47 0 0 = nI c := hc
  rw [is_eq 0 (nI j) h rfl, bnd_eq, e]
  simp only [out_iff (show c ≤ 1000 by omega)]
  rw [if_neg (in_no hj (by omega)), if_neg (by decide), lt_eq]
  refine wp_bnd (wp_mono (wp_fr (asTold_wp (h := wr h 10 0 21 (nI j)) (j := j) rfl (by omega) hn hm) (frX12_asTold _)) (fun _ h' q => ?_))
  refine wp_ck rfl (wp_some ⟨rfl, q.1, ?_⟩)
  rw [q.2.at 10 0 21 rfl]
  rfl
theorem ne10 : ¬ (1 : Int32) = 0 := by decide
theorem stageC_eq {h : Hp} {j c sp st n : Nat} {pl li le : Nat → Nat} (e0 : h.1 37 0 0 = nI c) (v0 : c ≤ 2) (hj : j < c) (hv : SV sp st n pl li le) (hcs : CSt h j sp st n pl li le) (w : Int32) : fX11_stage (nI j) w h = some (stAns sp st n pl li le w, h) := by
  have hj12 : j < 12 := by omega
  unfold fX11_stage
  rw [stageAt_yes e0 hj v0, bnd_eq, nl_s]
  have r0 : rd h 6 j 0 = nI sp := by show h.1 6 (j % 12) 0 = _; rw [Nat.mod_eq_of_lt hj12]; exact hcs.1
  have r1 : rd h 6 j 1 = nI st := by show h.1 6 (j % 12) 1 = _; rw [Nat.mod_eq_of_lt hj12]; exact hcs.2.1
  have r2 : rd h 6 j 2 = nI n := by show h.1 6 (j % 12) 2 = _; rw [Nat.mod_eq_of_lt hj12]; exact hcs.2.2.1
  unfold stAns
  by_cases hw : w < 0
  · have n0 : ¬ w = 0 := fun q => by rw [q] at hw; exact absurd hw (by decide)
    have n1 : ¬ w = 1 := fun q => by rw [q] at hw; exact absurd hw (by decide)
    have n2 : ¬ w = 2 := fun q => by rw [q] at hw; exact absurd hw (by decide)
    rw [if_neg n0, if_neg n1, if_neg n2, plateFact_neg hj12 hcs.2.2.1 hw, bnd_eq, if_pos hw]
  · obtain ⟨x, hx, rfl⟩ := nI_of hw
    have q0 : (nI x = 0) ↔ x = 0 := nI_eq hx (by decide)
    have q1 : (nI x = 1) ↔ x = 1 := nI_eq hx (by decide)
    have q2 : (nI x = 2) ↔ x = 2 := nI_eq hx (by decide)
    rw [if_neg hw, nI_clamp hx, plateFact_pos hj12 hv hcs hx, bnd_eq]
    simp only [q0, q1, q2, r0, r1, r2]
    split
    · rfl
    · split
      · rfl
      · split <;> rfl
theorem stageM_eq {h : Hp} {j c sp st n : Nat} {pl li le : Nat → Nat} (m0 : h.1 47 0 0 = nI c) (v0 : c ≤ 2) (hj : j < c) (hv : SV sp st n pl li le) (hms : MSt h j sp st n pl li le) (w : Int32) : WP (fX12_stage (nI j) w h) (fun r _ => r = stAns sp st n pl li le w) := by
  have hn5 : n ≤ 5 := hv.2.2.2.1
  unfold fX12_stage
  rw [lt_eq]
  refine wp_bnd (wp_mono (hand_yes (show (wr h 10 0 0 0).1 47 0 0 = nI c from m0) v0 hj hn5 (show MSt (wr h 10 0 0 0) j sp st n pl li le from hms)) ?_)
  rintro r h1 ⟨rfl, hMH, hst21, hfr⟩
  rw [if_neg ne10, lt_eq]
  have q48 : ∀ i, h1.1 48 0 i = h.1 48 0 i := fun i => hfr.cell 48 0 rfl i
  unfold stAns
  by_cases hw : w < 0
  · have n10 : ¬ (10 : Int32) ≤ w := fun q => by
      have q1 := Int32.le_iff_toInt_le.mp q
      have q2 := Int32.lt_iff_toInt_lt.mp hw
      have z0 : (0 : Int32).toInt = 0 := rfl
      have z1 : (10 : Int32).toInt = 10 := rfl
      omega
    rw [if_neg n10, in_eq, bnd_eq, if_pos (Or.inl hw), if_pos rfl, if_pos hw]
    exact wp_some rfl
  · obtain ⟨x, hx, rfl⟩ := nI_of hw
    have q10 : ((10 : Int32) ≤ nI x) ↔ 10 ≤ x := nI_leI (by decide) hx
    have q40 : ((40 : Int32) ≤ nI x) ↔ 40 ≤ x := nI_leI (by decide) hx
    have q2l : ((2 : Int32) < nI x) ↔ 2 < x := nI_ltI (by decide) hx
    rw [if_neg hw, nI_clamp hx]
    dsimp only
    by_cases h10 : 10 ≤ x
    · rw [if_pos (q10.mpr h10), jn_eq, if_neg (show ¬ x = 0 by omega), if_neg (show ¬ x = 1 by omega), if_neg (show ¬ x = 2 by omega)]
      by_cases h40 : 40 ≤ x
      · rw [if_pos (q40.mpr h40), if_neg (show ¬ x / 10 = 1 by omega), if_neg (show ¬ x / 10 = 2 by omega), if_neg (show ¬ x / 10 = 3 by omega)]
        refine wp_some ?_
        split <;> rfl
      · rw [if_neg (show ¬ (40 : Int32) ≤ nI x by rw [q40]; exact h40), show (10 : Int32) = nI 10 from rfl, nI_rem hx (by decide), isPlate_eq hMH.1 hn5, bnd_eq]
        by_cases hp : x % 10 < n
        · rw [if_neg (in_no hp (by omega)), if_neg ne10, if_pos hp, nI_div hx (by decide)]
          obtain ⟨b1, b2, b3⟩ := hms.2.2.2 _ hp
          have e : (3 : Int32) + (5 : Int32) * (nI (x / 10) - (1 : Int32)) + nI (x % 10) = nI (3 + 5 * (x / 10 - 1) + x % 10) := by
            rw [show (1 : Int32) = nI 1 from rfl, nI_sub (by omega), show (5 : Int32) = nI 5 from rfl, nI_mul, show (3 : Int32) = nI 3 from rfl, nI_add, nI_add]
          rw [e, of_eq hst21 (by omega), bnd_eq, q48]
          refine wp_some ?_
          rcases (show x / 10 = 1 ∨ x / 10 = 2 ∨ x / 10 = 3 by omega) with d | d | d
          · rw [d, if_pos rfl, ← b1]
            exact congrArg _ (by omega)
          · rw [d, if_neg (show ¬ 2 = 1 by decide), if_pos rfl, ← b2]
            exact congrArg _ (by omega)
          · rw [d, if_neg (show ¬ 3 = 1 by decide), if_neg (show ¬ 3 = 2 by decide), if_pos rfl, ← b3]
            exact congrArg _ (by omega)
        · rw [if_pos (Or.inr (nI_le (show n ≤ x % 10 by omega) (by omega))), if_pos rfl, if_neg hp]
          exact wp_some rfl
    · rw [if_neg (show ¬ (10 : Int32) ≤ nI x by rw [q10]; exact h10), in_eq, bnd_eq]
      by_cases h3 : 2 < x
      · rw [if_pos (Or.inr (q2l.mpr h3)), if_pos rfl, if_neg (show ¬ x = 0 by omega), if_neg (show ¬ x = 1 by omega), if_neg (show ¬ x = 2 by omega), if_neg (show ¬ x / 10 = 1 by omega), if_neg (show ¬ x / 10 = 2 by omega), if_neg (show ¬ x / 10 = 3 by omega)]
        refine wp_some ?_
        split <;> rfl
      · have hno : ¬ (nI x < 0 ∨ (2 : Int32) < nI x) := by
          rintro (q | q)
          · exact hw q
          · exact h3 (q2l.mp q)
        rw [if_neg hno, if_neg ne10, of_eq hst21 (by omega), bnd_eq, q48]
        refine wp_some ?_
        rcases (show x = 0 ∨ x = 1 ∨ x = 2 by omega) with rfl | rfl | rfl
        · exact hms.1
        · exact hms.2.1
        · exact hms.2.2.1
theorem st_stage {KI : Hp → Prop} (hKI : KStab KI) : Stp_stage (Rel KI) := by
  intro a w
  refine stp_q hKI (frX11_stage a w) (frX12_stage a w) rfl rfl rfl rfl (fun hC hM hR => ?_)
  obtain ⟨⟨-, -, -, -, c0, c1, c2, ⟨v0, -, -⟩, ⟨e0, e1, e2⟩, ⟨m0, m1, m2⟩, hSt, -, -⟩, -⟩ := hR
  rcases int_cases a c0 (by omega) with ha | ⟨j, hj, rfl⟩
  · have m0' : (wr hM 10 0 0 0).1 47 0 0 = nI c0 := m0
    refine ⟨-1, hC, wr hM 10 0 0 0, ?_, ?_⟩
    · unfold fX11_stage; rw [stageAt_no e0 ha]; rfl
    · unfold fX12_stage; rw [lt_eq, hand_no m0' v0 ha]; rfl
  · obtain ⟨sp, st, n, pl, li, le, hv, hcs, hms⟩ := hSt j hj
    rw [Nat.mul_zero, Nat.zero_add] at hcs hms
    obtain ⟨r, h1, e, rfl⟩ := stageM_eq m0 v0 hj hv hms w
    exact ⟨_, _, _, stageC_eq e0 v0 hj hv hcs w, e⟩
