/-! keep -/
theorem KIv.sk {h h' : Hp} (e : SK h h') (ec : ∀ k i, (k = 6 ∨ k = 33 ∨ k = 34 ∨ k = 35) → h'.1 k 10 i = h.1 k 10 i) (w : KIv h) : KIv h' := by
  obtain ⟨b, z, w⟩ := w
  refine ⟨b.sk e, by rw [e 0 1 (by omega)]; exact z, fun g => ?_⟩
  rw [e 0 1 (by omega)] at g
  obtain ⟨n, sp, st, pl, li, le, hv, hc, ft⟩ := w g
  exact ⟨n, sp, st, pl, li, le, hv, hc.cp (fun k i hk => ec k i hk), ft.sk e⟩
theorem stp_k {fC fM : Hp → Option (Int32 × Hp)} {wC wM : List FE} (fC' : ∀ h, FrO wC h (fC h)) (fM' : ∀ h, FrO wM h (fM h)) (h1 : chkC wC = true) (h3 : chkM wM = true) (hv : ∀ hC hM, Rel KIv hC hM → ∃ r hC1 hM1, fC hC = some (r, hC1) ∧ fM hM = some (r, hM1) ∧ KIv hC1 ∧ MInv hM1) : StpO (Rel KIv) fC fM := by
  intro hC hM hR
  obtain ⟨r, hC1, hM1, e1, e2, hK, hI⟩ := hv hC hM hR
  have g1 := fC' hC r hC1 e1
  have g2 := fM' hM r hM1 e2
  exact ⟨r, hC1, hM1, e1, e2, hR.same (g1.sameC h1) (g2.sameM h3) hK hI⟩
theorem MInv.wr0 {hM : Hp} (hI : MInv hM) : MInv (wr hM 10 0 0 0) := hI.same ⟨fun _ => rfl, fun _ => rfl, rfl⟩
theorem handK {hM : Hp} {j c sp st n : Nat} {pl li le : Nat → Nat} (m0 : hM.1 47 0 0 = nI c) (h2 : c ≤ 2) (hj : j < c) (hv : SV sp st n pl li le) (hm : MSt hM j sp st n pl li le) (hI : MInv hM) : ∃ hB, fX12_hand (nI j) (wr hM 10 0 0 0) = some (1, hB) ∧ MH hB sp st n pl li le ∧ hB.1 10 0 21 = nI j ∧ MInv hB ∧ ∀ i, hB.1 48 0 i = hM.1 48 0 i := by
  obtain ⟨r, hB, e, rfl, mh, e21, fr⟩ := hand_yes (h := wr hM 10 0 0 0) (show (wr hM 10 0 0 0).1 47 0 0 = nI c from m0) h2 hj hv.2.2.2.1 hm
  exact ⟨hB, e, mh, e21, hI.wr0.same (fr.sameI rfl), fun i => (fr.cell 48 0 rfl i).trans rfl⟩
theorem MH.mg {h : Hp} {sp st n : Nat} {pl li le pl' li' le' : Nat → Nat} (hn : n ≤ 5) (m : MH h sp st n pl li le) (e : ∀ p, p < n → pl' p = pl p ∧ li' p = li p ∧ le' p = le p) : MG h (GC n sp st pl' li' le') (2 ^ n - 1) := by
  obtain ⟨m1, m2, m3, m4, m5⟩ := m
  have h32 : ∀ n, n ≤ 5 → 2 ^ n - 1 < 32 := by decide
  refine ⟨h32 n hn, m2, m3, m4, fun p _ => ?_, fun p _ hs => ?_⟩
  · show decide (p < n) = _
    rw [Nat.testBit_two_pow_sub_one]
  · have hp : p < n := of_decide_eq_true hs
    obtain ⟨a1, a2, a3⟩ := e p hp
    show h.1 53 0 p = nI (pl' p) ∧ h.1 54 0 p = nI (li' p) ∧ h.1 55 0 p = nI (le' p)
    rw [a1, a2, a3]
    exact m5 p hp
theorem MInv.k9 {h h' : Hp} (k : K9 h h') (m : MInv h) : MInv h' := m.same ⟨fun i => k 58 0 i (by decide) (by omega), fun i => k 59 0 i (by decide) (by omega), k 10 0 46 (by decide) (by omega)⟩
theorem MInv.kq {h h' : Hp} (k : KQ h h') (m : MInv h) : MInv h' := m.same ⟨fun i => k 58 0 i (by decide) (by decide) (by decide) (by omega), fun i => k 59 0 i (by decide) (by decide) (by decide) (by omega), k 10 0 46 (by decide) (by decide) (by decide) (by omega)⟩
def kpM (x5 l2 : Int32) (h4 : Hp) : Option (Int32 × Hp) :=
  if l2 = 0 then (if x5 = 0 then (some (0, h4))
  else (some (1, h4)))
  else if l2 = 1 then (if x5 = 0 then (ck (ib 0 46656) (
  some (ra h4 60 0 0, h4)))
  else (some ((-1), h4)))
  else if l2 = 2 then (jn (κ := Hp → Option (Int32 × Hp)) (fun h10 => some ((-1), h10)) fun k140_8 =>
  if x5 = 0 then (k140_8 h4)
  else (if (rd h4 10 0 22) ≤ 0 then (k140_8 h4)
  else (bnd (fX12_roundBy l2 h4) fun x12 h11 =>
  some (x12, h11))))
  else if l2 = 3 then (jn (κ := Hp → Option (Int32 × Hp)) (fun h15 => some ((-1), h15)) fun k140_13 =>
  if x5 = 0 then (k140_13 h4)
  else (if (rd h4 10 0 22) ≤ 0 then (k140_13 h4)
  else (bnd (fX12_roundBy l2 h4) fun x17 h16 =>
  some (x17, h16))))
  else if l2 = 4 then (jn (κ := Hp → Option (Int32 × Hp)) (fun h20 => some ((-1), h20)) fun k140_18 =>
  if x5 = 0 then (k140_18 h4)
  else (if (rd h4 10 0 22) ≤ 0 then (k140_18 h4)
  else (bnd (fX12_roundBy l2 h4) fun x22 h21 =>
  some (x22, h21))))
  else if l2 = 5 then (if x5 = 0 then (bnd (fX12_manyRuns h4) fun x25 h24 =>
  some (x25, h24))
  else (some ((-1), h4)))
  else (some ((-2), h4))
theorem kpM_round {l2 x5 : Int32} {h4 : Hp} (h6 : l2 = 2 ∨ l2 = 3 ∨ l2 = 4) : kpM x5 l2 h4 = if x5 = 0 then some (-1, h4) else (if (rd h4 10 0 22) ≤ 0 then some (-1, h4) else (bnd (fX12_roundBy l2 h4) fun x12 h11 => some (x12, h11))) := by
  unfold kpM
  rcases h6 with rfl | rfl | rfl
  · rw [if_neg (by decide), if_neg (by decide), if_pos rfl, jn_eq]
  · rw [if_neg (by decide), if_neg (by decide), if_neg (by decide), if_pos rfl, jn_eq]
  · rw [if_neg (by decide), if_neg (by decide), if_neg (by decide), if_neg (by decide), if_pos rfl, jn_eq]
theorem answer_round {l2 : Int32} {h : Hp} (h6 : l2 = 2 ∨ l2 = 3 ∨ l2 = 4) : fX2_answer l2 h = (bnd (fX2_isForever 0 h) fun x2 h1 => if x2 = 0 then (some ((-1), h1)) else (if (rd h1 6 10 2) = 0 then (some ((-1), h1)) else (bnd (fX2_findRound h1) fun _ h10 => if l2 = 2 then (some (rd h10 0 0 4, h10)) else (if l2 = 3 then (some (rd h10 0 0 5, h10)) else (some (rd h10 0 0 6, h10)))))) := by
  unfold fX2_answer
  rcases h6 with rfl | rfl | rfl <;> rfl
theorem keepA {hC hM : Hp} {n sp st v f f' : Nat} {pl li le s o mk us s' : Nat → Nat} {T T' : Nat → Option Nat} {x l2 : Int32} (hv : SV sp st n pl li le) (h1n : 1 ≤ n) (hc : CSt hC 10 sp st n pl li le) (hk : KIv hC) (d : DI hC n (GC n sp st pl li le) f s 0 o mk us T) (m : MG hM (GC n sp st pl li le) v) (hI : MInv hM) (tf : TF hM (GC n sp st pl li le) f' s' T') (e22 : hM.1 10 0 22 = nI n) (hx : (T' 0 = none ∧ x = 1) ∨ (T' 0 ≠ none ∧ x = 0)) (h6 : l2 = 0 ∨ l2 = 1 ∨ l2 = 5 ∨ (l2 = 2 ∨ l2 = 3 ∨ l2 = 4)) : ∃ r hC1 hM1, fX2_answer l2 hC = some (r, hC1) ∧ kpM x l2 hM = some (r, hM1) ∧ KIv hC1 ∧ MInv hM1 := by
  have hn := hv.2.2.2.1
  have hG := GC_VG hv
  have hall := (d.all hv).2
  obtain ⟨t, hf, h0, hs0, dk, dm, ⟨t1, t2, t3, t4⟩⟩ := id d
  have hf0' := tf.1.2.2.1
  have hs0' := tf.1.2.2.2.1
  have hT0 := tf.2.2 0 hf0'
  rw [hs0'] at hT0
  obtain ⟨r, er, hr⟩ := isForeverC_eq d h0 (hall 0 h0)
  have er' : fX2_isForever 0 hC = some (r, hC) := er
  rw [hs0] at hr
  have hla := lastsFromC_eq hv d h0
  rw [hs0] at hla
  have r22 : rd hM 10 0 22 = nI n := e22
  have r62 : rd hC 6 10 2 = nI n := hc.2.2.1
  by_cases hE : Ev (GC n sp st pl li le) (c0N (GC n sp st pl li le))
  · have hr1 : r = 1 := by
      rcases hr with ⟨a, -⟩ | ⟨-, b⟩
      · exact a
      · exact absurd hE b
    have hx1 : x = 1 := by
      rcases hx with ⟨-, a⟩ | ⟨b, -⟩
      · exact a
      · cases hq : T' 0 with
        | none => exact absurd hq b
        | some w => exact absurd hE (hT0.2 w hq).1.not_ev
    subst hr1
    subst hx1
    rcases h6 with rfl | rfl | rfl | h6
    · refine ⟨1, hC, hM, ?_, ?_, hk, hI⟩
      · unfold fX2_answer
        rw [er', bnd_eq, if_pos rfl, if_neg ne10]
      · unfold kpM
        rw [if_pos rfl, if_neg ne10]
    · refine ⟨-1, hC, hM, ?_, ?_, hk, hI⟩
      · unfold fX2_answer
        rcases hla with ⟨e, -⟩ | ⟨w, -, b⟩
        · rw [er', bnd_eq, if_neg (by decide), if_pos rfl, show fX2_lastsFrom 0 hC = some (-1, hC) from e, bnd_eq]
        · exact absurd hE b.not_ev
      · unfold kpM
        rw [if_neg (by decide), if_pos rfl, if_neg ne10]
    · refine ⟨-1, hC, hM, ?_, ?_, hk, hI⟩
      · unfold fX2_answer
        rw [er', bnd_eq, if_neg (by decide), if_neg (by decide), if_pos rfl, if_neg ne10]
      · unfold kpM
        rw [if_neg (by decide), if_neg (by decide), if_neg (by decide), if_neg (by decide), if_neg (by decide), if_pos rfl, if_neg ne10]
    · obtain ⟨hC1, x1, q1, tx1, tq1, eC, kC, rdC, a4, a5, a6⟩ := findRoundC_wp hv h1n hc d hE
      obtain ⟨hM1, x2, q2, tx2, tq2, eM, kM, rdM⟩ := roundByM_wp (l1 := l2) hG m tf hE
      obtain ⟨rfl, rfl, rfl, rfl⟩ := rdC.uniq rdM
      refine ⟨if l2 = 2 then nI x1 else if l2 = 3 then nI (q1 - x1) else nI (tq1 - tx1), hC1, hM1, ?_, ?_, hk.sk (fun k i hk' => kC k 0 i (by omega) (by omega) (by omega)) (fun k i hk' => kC k 10 i (by omega) (by omega) (by omega)), hI.kq kM⟩
      · rw [answer_round h6, er', bnd_eq, if_neg ne10, r62, if_neg (fun q => by have := (eq0_n (by omega)).mp q; omega), eC, bnd_eq, show rd hC1 0 0 4 = nI x1 from a4, show rd hC1 0 0 5 = nI (q1 - x1) from a5, show rd hC1 0 0 6 = nI (tq1 - tx1) from a6]
        by_cases g2 : l2 = 2
        · rw [if_pos g2, if_pos g2]
        · rw [if_neg g2, if_neg g2]
          by_cases g3 : l2 = 3
          · rw [if_pos g3, if_pos g3]
          · rw [if_neg g3, if_neg g3]
      · rw [kpM_round h6, if_neg ne10, r22, if_neg (fun q => by have := (le0_n (by omega)).mp q; omega), eM, bnd_eq]
  · have hr1 : r = 0 := by
      rcases hr with ⟨-, a⟩ | ⟨b, -⟩
      · exact absurd a hE
      · exact b
    obtain ⟨hx1, w, hw⟩ : x = 0 ∧ ∃ w, T' 0 = some w := by
      rcases hx with ⟨a, -⟩ | ⟨b, a⟩
      · exact absurd (hT0.1 a) hE
      · refine ⟨a, ?_⟩
        cases hq : T' 0 with
        | none => exact absurd hq b
        | some w => exact ⟨w, rfl⟩
    subst hr1
    subst hx1
    rcases h6 with rfl | rfl | rfl | h6
    · refine ⟨0, hC, hM, ?_, ?_, hk, hI⟩
      · unfold fX2_answer
        rw [er', bnd_eq, if_pos rfl, if_pos rfl]
      · unfold kpM
        rw [if_pos rfl, if_pos rfl]
    · refine ⟨nI w, hC, hM, ?_, ?_, hk, hI⟩
      · unfold fX2_answer
        rcases hla with ⟨-, a⟩ | ⟨w', e, b⟩
        · exact absurd a hE
        · rw [er', bnd_eq, if_neg (by decide), if_pos rfl, show fX2_lastsFrom 0 hC = some (nI w', hC) from e, bnd_eq, b.uniq (hT0.2 w hw).1]
      · unfold kpM
        rw [if_neg (by decide), if_pos rfl, if_pos rfl, ck_p (show ib 0 46656 = true from rfl), show ra hM 60 0 0 = nI w from (tf.2.1 0 hf0').trans (by rw [hw]; rfl)]
    · have hm2 : mk 0 = 2 := by
        rcases hall 0 h0 with a | a
        · exact a
        · have := (t4 0 h0 a).2
          rw [hs0] at this
          exact absurd this hE
      obtain ⟨r1, eC, rl1⟩ := rowLengthC_eq hv h1n hc d hm2
      obtain ⟨r2, hM1, eM, kM, rl2, -⟩ := manyRunsM_wp hG m tf hw
      refine ⟨nI r1, hC, hM1, ?_, ?_, hk, hI.k9 kM⟩
      · unfold fX2_answer
        rw [er', bnd_eq, if_neg (by decide), if_neg (by decide), if_pos rfl, if_pos rfl, eC, bnd_eq]
      · unfold kpM
        rw [if_neg (by decide), if_neg (by decide), if_neg (by decide), if_neg (by decide), if_neg (by decide), if_pos rfl, if_pos rfl, eM, bnd_eq, RLn.uniq _ _ _ rl1 rl2]
    · refine ⟨-1, hC, hM, ?_, ?_, hk, hI⟩
      · rw [answer_round h6, er', bnd_eq, if_pos rfl]
      · rw [kpM_round h6, if_pos rfl]
