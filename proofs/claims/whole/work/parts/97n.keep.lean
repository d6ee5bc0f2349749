/-! keep, the rest -/
theorem isF0 {h : Hp} {sp st : Nat} {pl li le : Nat → Nat} (ft : FT0 h sp st pl li le) : fX2_isForever 0 h = some (1, h) := by
  obtain ⟨a, b, s, t, -⟩ := ft
  unfold fX2_isForever
  have r2 : rd h 0 0 2 = nI 1 := t.1
  rw [jn_eq, if_neg (show ¬ (0 : Int32) < 0 by decide), r2, if_neg (show ¬ nI 1 ≤ (0 : Int32) by decide), ck_p (show ib 0 2200 = true from rfl), show ra h 14 0 0 = 3 from a, if_pos rfl, ck_p zk_1]
theorem lasts0 {h : Hp} {sp st : Nat} {pl li le : Nat → Nat} (ft : FT0 h sp st pl li le) : fX2_lastsFrom 0 h = some (-1, h) := by
  obtain ⟨a, b, s, t, -⟩ := ft
  unfold fX2_lastsFrom
  have r2 : rd h 0 0 2 = nI 1 := t.1
  rw [jn_eq, if_neg (show ¬ (0 : Int32) < 0 by decide), r2, if_neg (show ¬ nI 1 ≤ (0 : Int32) by decide), ck_p (show ib 0 2200 = true from rfl), show ra h 14 0 0 = 3 from a, if_pos rfl]
theorem answer0 {h : Hp} {sp st : Nat} {pl li le : Nat → Nat} {l2 : Int32} (ft : FT0 h sp st pl li le) (e2 : h.1 6 10 2 = nI 0) (h6 : l2 = 0 ∨ l2 = 1 ∨ l2 = 5 ∨ (l2 = 2 ∨ l2 = 3 ∨ l2 = 4)) : fX2_answer l2 h = some (if l2 = 0 then 1 else -1, h) := by
  rcases h6 with rfl | rfl | rfl | h6
  · unfold fX2_answer
    rw [isF0 ft, bnd_eq, if_pos rfl, if_neg ne10, if_pos rfl]
  · unfold fX2_answer
    rw [isF0 ft, bnd_eq, if_neg (by decide), if_pos rfl, lasts0 ft, bnd_eq, if_neg (by decide)]
  · unfold fX2_answer
    rw [isF0 ft, bnd_eq, if_neg (by decide), if_neg (by decide), if_pos rfl, if_neg ne10, if_neg (by decide)]
  · have hl : ¬ l2 = 0 := by rcases h6 with rfl | rfl | rfl <;> decide
    rw [answer_round h6, isF0 ft, bnd_eq, if_neg ne10, show rd h 6 10 2 = 0 from e2, if_pos rfl, if_neg hl]
theorem kpM0 {h : Hp} {l2 : Int32} (e2 : h.1 10 0 22 = nI 0) (h6 : l2 = 0 ∨ l2 = 1 ∨ l2 = 5 ∨ (l2 = 2 ∨ l2 = 3 ∨ l2 = 4)) : kpM 1 l2 h = some (if l2 = 0 then 1 else -1, h) := by
  rcases h6 with rfl | rfl | rfl | h6
  · unfold kpM
    rw [if_pos rfl, if_neg ne10, if_pos rfl]
  · unfold kpM
    rw [if_neg (by decide), if_pos rfl, if_neg ne10, if_neg (by decide)]
  · unfold kpM
    rw [if_neg (by decide), if_neg (by decide), if_neg (by decide), if_neg (by decide), if_neg (by decide), if_pos rfl, if_neg ne10, if_neg (by decide)]
  · have hl : ¬ l2 = 0 := by rcases h6 with rfl | rfl | rfl <;> decide
    rw [kpM_round h6, if_neg ne10, show rd h 10 0 22 = 0 from e2, if_pos (by decide), if_neg hl]
theorem nextRun0 {h : Hp} {sp st : Nat} {pl li le : Nat → Nat} (ft : FT0 h sp st pl li le) (e2 : h.1 6 10 2 = nI 0) : fX2_nextRun 0 h = some (-1, h) := by
  apply wp_same
  obtain ⟨a, b, s, t, -⟩ := ft
  have r2 : rd h 6 10 2 = nI 0 := e2
  unfold fX2_nextRun
  rw [ck_p (show ib 0 2200 = true from rfl), jn_eq, show ra h 14 0 0 = 3 from a, if_pos rfl]
  dsimp only
  rw [jn_eq, if_neg ne10]
  dsimp only
  refine wp_for1 0 (fun i h' => h' = h) ?_ ?_ FU h (i0 := 0) (by omega) (FUb (by omega)) rfl
  · intro i h1 rec hi
    exact absurd hi (Nat.not_lt_zero _)
  · rintro h1 rec rfl
    unfold fX2_nextRun_l46
    rw [r2, if_pos (nI_le (Nat.le_refl _) (by omega))]
    exact wp_some ⟨rfl, rfl⟩
theorem row0 {h : Hp} {sp st k : Nat} {pl li le : Nat → Nat} (ft : FT0 h sp st pl li le) (e2 : h.1 6 10 2 = nI 0) (hk : k ≤ 1000) : fX2_rowPlate (nI k) h = some (-1, h) := by
  apply wp_same
  unfold fX2_rowPlate
  refine wp_for2 (k + 1) (fun q a h' => q = 0 ∧ a = 0 ∧ h' = h) ?_ ?_ FU 0 h (i0 := 0) (by omega) (FUb (by omega)) ⟨rfl, rfl, rfl⟩
  · rintro q a h1 rec hq ⟨rfl, rfl, rfl⟩ hrec
    unfold fX2_rowPlate_l4
    rw [if_neg (show ¬ nI k < nI 0 from fun w => by have := (lt_n (by omega) (by omega)).mp w; omega), nextRun0 ft e2, bnd_eq, if_pos rfl]
    exact wp_some ⟨rfl, rfl⟩
  · rintro a h1 rec ⟨h0, -⟩
    omega
theorem pw0 : ∀ n, n ≤ 5 → (2 ^ n - 1 = 0 ↔ n = 0) := by decide
theorem st_keep : Stp_keep (Rel KIv) := by
  intro a l2
  refine stp_k (frX11_keep a l2) (frX12_keep a l2) rfl rfl (fun hC hM hR => ?_)
  obtain ⟨⟨-, -, -, -, c0, c1, c2, ⟨v0, v1, -⟩, ⟨e0, e1, e2⟩, ⟨m0, m1, m2⟩, hSt, -⟩, -, hK, hI⟩ := hR
  rcases int_cases a c0 (by omega) with ha | ⟨j, hj, rfl⟩
  · refine ⟨-2, hC, wr hM 10 0 0 0, ?_, ?_, hK, hI.wr0⟩
    · unfold fX11_keep
      rw [stageAt_no e0 ha, bnd_eq, nl_n]
    · unfold fX12_keep
      rw [lt_eq, hand_no (show (wr hM 10 0 0 0).1 47 0 0 = nI c0 from m0) v0 ha, bnd_eq, if_pos rfl]
  · obtain ⟨sp, st, n, pl, li, le, hv, hcs, hms⟩ := hSt j hj
    rw [Nat.mul_zero, Nat.zero_add] at hcs hms
    have hn := hv.2.2.2.1
    obtain ⟨hB, eB, mhB, -, iB, -⟩ := handK m0 v0 hj hv hms hI
    obtain ⟨hE, pl', li', le', eE, kE, -, ag, hv', cE, -, ft⟩ := exploreAll_wp hv (show j < 12 by omega) (show j ≠ 10 by omega) hcs hK
    have mg := mhB.mg hn ag
    obtain ⟨h4, x, e4, m4, kf4, i4, hcase⟩ := isForever_wp (GC_VG hv') mg iB
    have e22 : h4.1 10 0 22 = nI n := (kf4 10 0 22 (by decide) (by decide) (by decide) (by decide) (by omega)).trans mhB.1
    have r22 : rd h4 10 0 22 = nI n := e22
    have uC : fX11_keep (nI j) l2 hC = (if l2 < 10 then (if l2 < 0 then some (-2, hC) else if l2 ≤ 5 then (bnd (fX2_exploreAll j hC) fun _ h6 => bnd (fX2_answer l2 h6) fun x8 h7 => some (x8, h7)) else some (-2, hC)) else (if (99 : Int32) < l2 - (10 : Int32) then (if l2 < 0 then some (-2, hC) else if l2 ≤ 5 then (bnd (fX2_exploreAll j hC) fun _ h6 => bnd (fX2_answer l2 h6) fun x8 h7 => some (x8, h7)) else some (-2, hC)) else (bnd (fX2_exploreAll j hC) fun _ h9 => bnd (fX2_rowPlate (l2 - (10 : Int32)) h9) fun x11 h10 => some (x11, h10)))) := by
      unfold fX11_keep
      rw [stageAt_yes e0 hj v0, bnd_eq, nl_s, jn_eq]
    have uM : fX12_keep (nI j) l2 hM = (if l2 < 10 then kpM x l2 h4 else (if l2 ≤ 109 then (if rd h4 10 0 22 = 0 then some (-1, h4) else (bnd (fX12_runAt (l2 - (10 : Int32)) h4) fun x27 h26 => some (x27, h26))) else some (-2, h4))) := by
      unfold fX12_keep
      rw [lt_eq, eB, bnd_eq, if_neg ne10, e4, bnd_eq]
      rfl
    by_cases hl : l2 < 10
    · by_cases h6 : l2 = 0 ∨ l2 = 1 ∨ l2 = 5 ∨ (l2 = 2 ∨ l2 = 3 ∨ l2 = 4)
      · have c1 : ¬ l2 < 0 := by rcases h6 with rfl | rfl | rfl | rfl | rfl | rfl <;> decide
        have c2 : l2 ≤ 5 := by rcases h6 with rfl | rfl | rfl | rfl | rfl | rfl <;> decide
        rw [uC, uM, if_pos hl, if_pos hl, if_neg c1, if_pos c2, eE, bnd_eq]
        rcases ft with ⟨h0, ft0⟩ | ⟨h1n, f, s, o, mk, us, T, d⟩
        · subst h0
          rcases hcase with ⟨-, rfl, -⟩ | ⟨hne, -⟩
          · rw [answer0 ft0 cE.2.2.1 h6, bnd_eq, kpM0 e22 h6]
            exact ⟨_, _, _, rfl, rfl, kE, i4⟩
          · exact absurd rfl hne
        · rcases hcase with ⟨hz, -⟩ | ⟨-, f', s', T', tf, hx⟩
          · have := (pw0 n hn).mp hz
            omega
          · obtain ⟨r, hC1, hM1, a1, a2, a3, a4⟩ := keepA hv' h1n cE kE d m4 i4 tf e22 hx h6
            rw [a1, bnd_eq, a2]
            exact ⟨_, _, _, rfl, rfl, a3, a4⟩
      · refine ⟨-2, hC, h4, ?_, ?_, hK, i4⟩
        · rw [uC, if_pos hl]
          by_cases g : l2 < 0
          · rw [if_pos g]
          · rw [if_neg g, if_neg]
            intro q
            obtain ⟨b, hb, rfl⟩ := nI_of g
            have hb5 : b ≤ 5 := (le_n (b := 5) hb (by decide)).mp q
            rcases (show b = 0 ∨ b = 1 ∨ b = 2 ∨ b = 3 ∨ b = 4 ∨ b = 5 by omega) with rfl | rfl | rfl | rfl | rfl | rfl <;> exact h6 (by decide)
        · rw [uM, if_pos hl]
          unfold kpM
          rw [if_neg (fun q => h6 (Or.inl q)), if_neg (fun q => h6 (Or.inr (Or.inl q))), if_neg (fun q => h6 (Or.inr (Or.inr (Or.inr (Or.inl q))))), if_neg (fun q => h6 (Or.inr (Or.inr (Or.inr (Or.inr (Or.inl q)))))), if_neg (fun q => h6 (Or.inr (Or.inr (Or.inr (Or.inr (Or.inr q)))))), if_neg (fun q => h6 (Or.inr (Or.inr (Or.inl q))))]
    · have hl0 : ¬ l2 < 0 := fun q => hl (Int32.lt_trans q (by decide))
      obtain ⟨b, hb, rfl⟩ := nI_of hl0
      have hb10 : 10 ≤ b := by
        apply Classical.byContradiction
        intro q
        exact hl (nI_lt (b := 10) (show b < 10 by omega) (by decide))
      have es : nI b - (10 : Int32) = nI (b - 10) := nI_sub (b := 10) hb10
      rw [uC, uM, if_neg hl, if_neg hl, es]
      by_cases g : b ≤ 109
      · rw [if_neg (show ¬ (99 : Int32) < nI (b - 10) from fun q => by have := (lt_n (a := 99) (by decide) (by omega)).mp q; omega), if_pos (show nI b ≤ (109 : Int32) from nI_le (b := 109) g (by decide)), eE, bnd_eq, r22]
        rcases ft with ⟨h0, ft0⟩ | ⟨h1n, f, s, o, mk, us, T, d⟩
        · subst h0
          rw [row0 ft0 cE.2.2.1 (by omega), bnd_eq, if_pos (show nI 0 = (0 : Int32) from rfl)]
          exact ⟨_, _, _, rfl, rfl, kE, i4⟩
        · rcases hcase with ⟨hz, -⟩ | ⟨-, f', s', T', tf, hx⟩
          · have := (pw0 n hn).mp hz
            omega
          · obtain ⟨r1, er1, rw1⟩ := rowPlateC_eq (k := b - 10) hv' h1n cE d (by omega)
            obtain ⟨r2, hM1, er2, k2, rw2⟩ := runAtM_wp (k := b - 10) (GC_VG hv') m4 tf (by omega)
            rw [er1, bnd_eq, if_neg (fun q => by have := (eq0_n (by omega)).mp q; omega), er2, bnd_eq, RW.uniq _ _ rw1 rw2]
            exact ⟨_, _, _, rfl, rfl, kE, i4.k9 k2⟩
      · rw [if_pos (show (99 : Int32) < nI (b - 10) from nI_lt (a := 99) (by omega) (by omega)), if_neg hl0, if_neg (show ¬ nI b ≤ (5 : Int32) from fun q => by have := (le_n (b := 5) hb (by decide)).mp q; omega), if_neg (show ¬ nI b ≤ (109 : Int32) from fun q => by have := (le_n (b := 109) hb (by decide)).mp q; omega)]
        exact ⟨_, _, _, rfl, rfl, hK, i4⟩
