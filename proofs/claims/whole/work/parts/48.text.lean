theorem isFull_2 {h : Hp} {c : Nat} (hc : c ≤ 5) (h2 : h.1 6 8 2 = nI c) : fX5_isFull (nI 2) h = some (if decide (c = 5) = true then 1 else 0, h) := by
  show (if rd h 6 8 2 < 5 then ck (zk 0) (some ((0 : Int32), h)) else ck (zk 1) (some (1, h))) = _
  rw [show rd h 6 8 2 = nI c from h2, zk_0, zk_1, ck_t, ck_t]
  by_cases hc5 : c = 5
  · rw [if_neg (by rw [hc5]; decide), if_pos (by simpa using hc5)]
  · rw [if_pos (show nI c < 5 from nI_lt (show c < 5 by omega) (by decide)), if_neg (by simpa using hc5)]
theorem MTk.same {h h' : Hp} {b : Nat → Nat} {n q : Nat} (e10 : ∀ j, j = 9 ∨ j = 10 ∨ j = 11 ∨ j = 12 ∨ j = 13 → h'.1 10 0 j = h.1 10 0 j) (e43 : ∀ j, h'.1 43 0 j = h.1 43 0 j) (e2 : h'.2 = h.2) (c : MTk h b n q) : MTk h' b n q := by
  obtain ⟨d1, d2, d3, d4, d5, d6, d7, d8, d9⟩ := c
  exact ⟨(e10 10 (by omega)).trans d1, d2, d3, fun j hj => by rw [e43]; exact d4 j hj, (e10 11 (by omega)).trans d5, (e10 12 (by omega)).trans d6, fun w => e2.trans (d7 w), fun w => (e10 13 (by omega)).trans (d8 w), fun w => (e10 9 (by omega)).trans (d9 w)⟩
theorem CT.same {h h' : Hp} {b : Nat → Nat} {n p : Nat} (e3 : ∀ j, j = 5 ∨ j = 6 ∨ j = 7 → h'.1 3 0 j = h.1 3 0 j) (e36 : ∀ j, h'.1 36 0 j = h.1 36 0 j) (c : CT h b n p) : CT h' b n p :=
  ⟨(e3 5 (by omega)).trans c.1, (e3 6 (by omega)).trans c.2.1, (e3 7 (by omega)).trans c.2.2.1, c.2.2.2.1, c.2.2.2.2.1, fun j hj => by rw [e36]; exact c.2.2.2.2.2 j hj⟩
theorem line_plate {f x q n : Nat} {b : Nat → Nat} {hC hM : Hp} (hk1 : tk b n q = 1) (cC : CT hC b n (tr b n q)) (p9 : hC.1 3 0 9 = nI q) (cM : MTk hM b n q) (fl : FLT hC hM f x) (hx : x ≤ q) (hg : hM.1 10 0 20 = 1)
    (hh : fX5_headOf (nI 0) hC = some (nI 2, hC)) (hline : Line 0 (mW hM b n q) (nI q) hM = bnd (fX12_plateLine (nI q) hM) fun x2 h1 => ck (zk x2) (some (x2, h1))) (co : Co0 f hC hM) : LRes 0 Co0 hC hM b n q := by
  obtain ⟨c1, c2, hc1, ec1, hc2, ec2, hcon⟩ := co
  have hn : n ≤ 600 := cC.2.2.2.1
  have hrn : tr b n q ≤ n := cC.2.2.2.2.1
  have hqr := tr_gt (b := b) (n := n) (q := q) (by omega) (by omega)
  have hcc : f = 0 → c1 = c2 := by
    intro hf
    obtain ⟨sp, st, m, pl, li, le, hv, hs, hm⟩ := hcon hf
    have hm5 := hv.2.2.2.1
    have a1 := ec1.symm.trans hs.2.2.1
    have a2 := ec2.symm.trans hm.2.2.1
    rw [eq_n (by omega) (by omega)] at a1 a2
    omega
  obtain ⟨f0, hC0, hM0, eB, eF, fl0, hf0, kC0, kM0, k20⟩ := full_step (decide (c1 = 5)) (decide (c2 = 5)) fl hx (by omega) p9 (fun hf => by rw [hcc hf])
  have rl := readLine_unf (s := 0) (decide (c1 = 5)) hh (by decide) (isFull_2 hc1 ec1)
  rw [eB, bnd_eq, FU4] at rl
  have cC0 : CT hC0 b n (tr b n q) := cC.same (fun j hj => kC0 3 0 j (by omega)) (fun j => kC0 36 0 j (by omega))
  have cM0 : MTk hM0 b n q := cM.same (fun j hj => kM0 10 0 j (by omega)) (fun j => kM0 43 0 j (by omega)) k20
  obtain ⟨h5, e5, c5, k5, j5⟩ := tok_next cM0 (by omega)
  have fl5 : FLT hC0 h5 f0 (q + 1) := fl0.same rfl rfl (j5 16 (by omega)) (j5 17 (by omega))
  have hge := tq_ge b n (tr b n q)
  have hqn := tq_le (b := b) hrn
  have g5 : h5.1 10 0 20 = nI 1 := (j5 20 (by omega)).trans ((kM0 10 0 20 (by omega)).trans hg)
  unfold LRes
  rw [mLine_eq, hline, rl]
  unfold fX12_plateLine
  have eF' := full_eq (h := hM) (idx := 2) (most := 5) (a := q) (by decide) ec2 (by omega) (by decide)
  rw [show fX12_full 2 5 (nI q) hM = _ from eF', eF, bnd_eq, e5, bnd_eq]
  rcases num_step (i := 0) (k := 0) (c := 3) (lo := 0) (hi := 9) cC0 c5 fl5 (by omega) g5 (Or.inl rfl) nof_2 (by decide) (by decide) (by decide) (by decide) (by decide) (fun v h' hv e _ => cb_20 hv e) with ⟨t1, v0, f1, g1, hC1, hM1, hv0, eC1, eM1, cC1, cM1, fl1, hg1, hgf1, hff1, v26a, v52a, kC1, kM1⟩ | ⟨-, hC1, hM1, eC1, eM1, r3, r4, m15, -, -⟩
  rotate_left
  · rw [eC1, show fX12_take 0 0 9 h5 = _ from eM1, bnd_eq, if_pos rfl]
    exact Or.inr ⟨_, hC1, hM1, rfl, rfl, r3, r4, m15⟩
  rw [eC1, show fX12_take 0 0 9 h5 = _ from eM1, bnd_eq, if_neg (show ¬ (1 : Int32) = 0 by decide)]
  have hgt1 := tr_gt (b := b) (n := n) (q := tq b n (tr b n q)) (by omega) (by omega)
  have hrn1 : tr b n (tq b n (tr b n q)) ≤ n := tr_le hqn
  generalize hr1 : tr b n (tq b n (tr b n q)) = r1 at cC1 cM1 hgt1 hrn1
  have hge1 := tq_ge b n r1
  have hqn1 := tq_le (b := b) hrn1
  rcases num_step (i := 1) (k := 1) (c := 3) (lo := 1) (hi := 6) cC1 cM1 fl1 (by omega) hg1 hgf1 nof_2 (by decide) (by decide) (by decide) (by decide) (by decide) (fun v h' hv e _ => cb_21 hv e) with ⟨t2, v1, f2, g2, hC2, hM2, hv1, eC2, eM2, cC2, cM2, fl2, hg2, hgf2, hff2, v26b, v52b, kC2, kM2⟩ | ⟨-, hC2, hM2, eC2, eM2, r3, r4, m15, -, -⟩
  rotate_left
  · rw [eC2, show fX12_take 1 1 6 hM1 = _ from eM2, bnd_eq, if_pos rfl]
    exact Or.inr ⟨_, hC2, hM2, rfl, rfl, r3, r4, m15⟩
  rw [eC2, show fX12_take 1 1 6 hM1 = _ from eM2, bnd_eq, if_neg (show ¬ (1 : Int32) = 0 by decide), ck_p (show ib 1 3 = true from rfl), show ra hM2 52 0 1 = nI v1 from v52b, show (6 : Int32) = nI 6 from rfl, lesser_eq hM2 (by decide) (by omega), bnd_eq]
  have hgt2 := tr_gt (b := b) (n := n) (q := tq b n r1) (by omega) (by omega)
  have hrn2 : tr b n (tq b n r1) ≤ n := tr_le hqn1
  generalize hr2 : tr b n (tq b n r1) = r2 at cC2 cM2 hgt2 hrn2
  have hge2 := tq_ge b n r2
  have hqn2 := tq_le (b := b) hrn2
  generalize hw : (if v1 ≤ 6 then v1 else 6) = w
  have hw6 : w ≤ 6 ∧ (w ≤ v1) := by rw [← hw]; split <;> omega
  rcases num_step (i := 2) (k := 2) (c := 3) (lo := 1) (hi := w) cC2 cM2 fl2 (by omega) hg2 hgf2 nof_2 (by decide) (by decide) (by decide) (by decide) (by omega) (fun v h' hv e hoth => cb_22 hv hv1 hw.symm ((hoth 1 (by decide)).trans v26b) e) with ⟨t3, v2, f3, g3, hC3, hM3, hv2, eC3, eM3, cC3, cM3, fl3, hg3, hgf3, hff3, v26c, v52c, kC3, kM3⟩ | ⟨-, hC3, hM3, eC3, eM3, r3, r4, m15, -, -⟩
  rotate_left
  · rw [eC3, show fX12_take 2 1 (nI w) hM2 = _ from eM3, bnd_eq, if_pos rfl]
    exact Or.inr ⟨_, hC3, hM3, rfl, rfl, r3, r4, m15⟩
  rw [eC3, rl_end nof_2 (by decide), show fX12_take 2 1 (nI w) hM2 = _ from eM3, bnd_eq, if_neg (show ¬ (1 : Int32) = 0 by decide), ck_p (show ib 2 81 = true from rfl)]
  have hgt3 := tr_gt (b := b) (n := n) (q := tq b n r2) (by omega) (by omega)
  -- the reference stores
  have s51 : ∀ j, hM3.1 51 0 j = hM.1 51 0 j := fun j => by
    rw [kM3 51 0 j (by decide) (by omega), kM2 51 0 j (by decide) (by omega), kM1 51 0 j (by decide) (by omega), k5 51 0 j (by decide), kM0 51 0 j (by omega)]
  have sC : ∀ k s j, k ≠ 3 → k ≠ 26 → hC3.1 k s j = hC.1 k s j := fun k s j h3 h26 => by
    rw [kC3 k s j h3 (by omega), kC2 k s j h3 (by omega), kC1 k s j h3 (by omega), kC0 k s j (by omega)]
  have w0 : hM3.1 52 0 0 = nI v0 := by rw [kM3 52 0 0 (by decide) (by omega), kM2 52 0 0 (by decide) (by omega)]; exact v52a
  have w1 : hM3.1 52 0 1 = nI v1 := by rw [kM3 52 0 1 (by decide) (by omega)]; exact v52b
  have u0 : hC3.1 26 0 0 = nI v0 := by rw [kC3 26 0 0 (by decide) (by omega), kC2 26 0 0 (by decide) (by omega)]; exact v26a
  have u1 : hC3.1 26 0 1 = nI v1 := by rw [kC3 26 0 1 (by decide) (by omega)]; exact v26b
  rw [lt_eq, show ra hM3 51 0 2 = nI c2 from (s51 2).trans ec2]
  obtain ⟨h7, e7, e72, e7k, e7n, e70, e71, e7p⟩ := plate_store (h := hM3) hc2 w0 w1 v52c
  rw [e7]
  have cM4 : MTk h7 b n (tq b n (tr b n (tq b n r2))) := cM3.same (fun j _ => e7k 10 0 j (by decide)) (fun j => e7k 43 0 j (by decide)) e72
  have fl4 : FLT hC3 h7 f3 (tq b n r2 + 1) := fl3.same rfl rfl (e7k 10 0 16 (by decide)) (e7k 10 0 17 (by decide))
  rcases line_end (hdn := 2) cC3 cM4 fl4 (by omega) rfl (Co0 f3) (fun hA hM' kA kM' => by
    have a6 : hA.1 6 8 2 = nI c1 := (kA 6 8 2 (by decide)).trans ((sC 6 8 2 (by decide) (by decide)).trans ec1)
    obtain ⟨hB, eB', kB, bn, bp⟩ := add8_eq (h := hA) (x := ra hA 26 0 0) (y := ra hA 26 0 1) (z := ra hA 26 0 2) hc1 a6
    refine ⟨hB, ?_, fun k s j hk => kB k s j (by omega), _, _, ?_, bn, ?_, (kM' 51 0 2 (by decide)).trans e7n, fun hf3 => ?_⟩
    · show bnd (fX8_add 8 (ra hA 26 0 0) (ra hA 26 0 1) (ra hA 26 0 2) hA) (fun _ h6 => some ((), h6)) = _
      rw [eB', bnd_eq]
    · split <;> omega
    · split <;> omega
    · obtain ⟨hf2, r31, r32⟩ := hff3 hf3
      obtain ⟨hf1, r21, r22⟩ := hff2 hf2
      obtain ⟨hf0', r11, r12⟩ := hff1 hf1
      obtain ⟨hf, hfull⟩ := hf0 hf0'
      have hcc' := hcc hf
      have hlt : c1 < 5 := by simp at hfull; omega
      obtain ⟨sp, st, m, pl, li, le, hv, hs, hm⟩ := hcon hf
      have hm5 := hv.2.2.2.1
      have a1 := ec1.symm.trans hs.2.2.1
      rw [eq_n (by omega) (by omega)] at a1
      subst a1
      obtain ⟨b33, b34, b35⟩ := bp hlt
      obtain ⟨d3, d8, d13, dp⟩ := e7p (by omega)
      have z0 : ra hA 26 0 0 = nI v0 := (kA 26 0 0 (by decide)).trans u0
      have z1 : ra hA 26 0 1 = nI v1 := (kA 26 0 1 (by decide)).trans u1
      have z2 : ra hA 26 0 2 = nI v2 := (kA 26 0 2 (by decide)).trans v26c
      refine ⟨sp, st, c1 + 1, fun p => if p = c1 then v0 else pl p, fun p => if p = c1 then v1 else li p, fun p => if p = c1 then v2 else le p, ⟨hv.1, hv.2.1, hv.2.2.1, by omega, fun p hp => ?_⟩, ⟨?_, ?_, ?_, fun p hp => ?_⟩, ⟨?_, ?_, ?_, fun p hp => ?_⟩⟩
      · by_cases hpc : p = c1
        · simp only [hpc, if_pos]; omega
        · simp only [hpc, if_false]; exact hv.2.2.2.2 p (by omega)
      · rw [kB 6 8 0 (by omega), kA 6 8 0 (by decide), sC 6 8 0 (by decide) (by decide)]; exact hs.1
      · rw [kB 6 8 1 (by omega), kA 6 8 1 (by decide), sC 6 8 1 (by decide) (by decide)]; exact hs.2.1
      · rw [bn, if_pos (by omega)]
      · by_cases hpc : p = c1
        · subst hpc
          simp only [if_pos]
          exact ⟨b33.trans z0, b34.trans z1, b35.trans z2⟩
        · simp only [hpc, if_false]
          rw [kB 33 8 p (by omega), kA 33 8 p (by decide), sC 33 8 p (by decide) (by decide), kB 34 8 p (by omega), kA 34 8 p (by decide), sC 34 8 p (by decide) (by decide), kB 35 8 p (by omega), kA 35 8 p (by decide), sC 35 8 p (by decide) (by decide)]
          exact hs.2.2.2 p (by omega)
      · rw [kM' 51 0 0 (by decide), e70, s51]; exact hm.1
      · rw [kM' 51 0 1 (by decide), e71, s51]; exact hm.2.1
      · rw [kM' 51 0 2 (by decide), e7n, ← hcc', if_pos (by omega)]
      · rw [← hcc'] at d3 d8 d13 dp
        rw [kM' 51 0 _ (by decide), kM' 51 0 _ (by decide), kM' 51 0 _ (by decide)]
        by_cases hpc : p = c1
        · subst hpc
          simp only [if_pos]
          exact ⟨d3, d8, d13⟩
        · simp only [hpc, if_false]
          obtain ⟨x1, x2, x3⟩ := dp p (by omega)
          rw [x1, x2, x3, s51, s51, s51]
          exact hm.2.2.2 p (by omega)) with ⟨p2, hC', hM', a1, a2, a3, a4, a5, a6, a7⟩ | ⟨a, hC', hM', a1, a2, a3, a4, a5⟩
  · exact Or.inl ⟨f3, p2, hC', hM', a1, a2, by omega, a4, a5, a6, a7⟩
  · exact Or.inr ⟨a, hC', hM', a1, a2, a3, a4, a5⟩
