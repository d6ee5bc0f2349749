theorem tell_f {d : Nat} (hd : d < 2) (h : Hp) : fX5_tell (nI (9 + d)) h = bnd (fX3_add 8 (nI (1 - d)) (ra h 26 0 0) (ra h 26 0 1) h) (fun _ h8 => some ((), h8)) := by
  rcases (show d = 0 ∨ d = 1 by omega) with rfl | rfl <;> rfl
theorem nof_f {d : Nat} (hd : d < 2) (h : Hp) : fX5_numbersOf (nI (9 + d)) h = some (nI 2, h) := by
  rcases (show d = 0 ∨ d = 1 by omega) with rfl | rfl <;> rfl
theorem line_fact {d f x q n : Nat} {b : Nat → Nat} {hC hM : Hp} (hd : d < 2) (hk1 : tk b n q = 1) (cC : CT hC b n (tr b n q)) (p9 : hC.1 3 0 9 = nI q) (cM : MTk hM b n q) (fl : FLT hC hM f x) (hx : x ≤ q) (hg : hM.1 10 0 20 = 1)
    (hh : fX5_headOf (nI 2) hC = some (nI (9 + d), hC))
    (hline : Line 2 (mW hM b n q) (nI q) hM = bnd (fX12_full 1 8 (nI q) hM) fun _ h8 => bnd (fX12_token h8) fun _ h9 => bnd (fX12_take 1 0 4 h9) fun x11 h10 => if x11 = 0 then some (0, h10) else bnd (fX12_take 2 0 30 h10) fun x13 h12 => if x13 = 0 then some (0, h12) else itr1 (fX12_logLine_l148 (ra h12 51 0 1) (fun h14 => bnd (fX12_lesser 8 (ra h12 51 0 1 + (1 : Int32)) h14) fun x16 h15 => ck (ib 1 81) (lt (wa h15 51 0 1 x16) fun h17 => ck (zk 1) (some (1, h17))))) FU 0 (wa h12 52 0 0 (nI (1 - d))))
    (co : Co2 f hC hM) : LRes 2 Co2 hC hM b n q := by
  obtain ⟨c1, c2, hc1, ec1, hc2, ec2, hcon⟩ := co
  have hn : n ≤ 600 := cC.2.2.2.1
  have hrn : tr b n q ≤ n := cC.2.2.2.2.1
  have hqr := tr_gt (b := b) (n := n) (q := q) (by omega) (by omega)
  have hcc : f = 0 → c1 = c2 := by
    intro hf
    obtain ⟨r, m, sd, pt, bt, hv, hs, hm⟩ := hcon hf
    have hm5 := hv.2.1
    have a1 := ec1.symm.trans hs.2.1
    have a2 := ec2.symm.trans hm.2.1
    rw [eq_n (by omega) (by omega)] at a1 a2
    omega
  obtain ⟨f0, hC0, hM0, eB, eF, fl0, hf0, kC0, kM0, k20⟩ := full_step (decide (c1 = 8)) (decide (c2 = 8)) fl hx (by omega) p9 (fun hf => by rw [hcc hf])
  have rl := readLine_unf (s := 2) (decide (c1 = 8)) hh (by omega) (isFull_f hd hc1 ec1)
  rw [eB, bnd_eq, FU4] at rl
  have cC0 : CT hC0 b n (tr b n q) := cC.same (fun j hj => kC0 3 0 j (by omega)) (fun j => kC0 36 0 j (by omega))
  have cM0 : MTk hM0 b n q := cM.same (fun j hj => kM0 10 0 j (by omega)) (fun j => kM0 43 0 j (by omega)) k20
  obtain ⟨h5, e5, c5, k5, j5⟩ := tok_next cM0 (by omega)
  have fl5 : FLT hC0 h5 f0 (q + 1) := fl0.same rfl rfl (j5 16 (by omega)) (j5 17 (by omega))
  have hge := tq_ge b n (tr b n q)
  have hqn := tq_le (b := b) hrn
  have g5 : h5.1 10 0 20 = nI 1 := (j5 20 (by omega)).trans ((kM0 10 0 20 (by omega)).trans hg)
  have eF' := full_eq (h := hM) (idx := 1) (most := 8) (a := q) (by decide) ec2 (by omega) (by decide)
  rw [show fX12_full 1 8 (nI q) hM = _ from eF', eF, bnd_eq, e5, bnd_eq] at hline
  unfold LRes
  rw [mLine_eq, hline, rl]
  rcases num_step (hdn := 9 + d) (i := 0) (k := 1) (c := 2) (lo := 0) (hi := 4) cC0 c5 fl5 (by omega) g5 (Or.inl rfl) (nof_f hd) (by decide) (by decide) (by decide) (by decide) (by decide) (fun v h' hv e _ => cb_d (by omega) hv e) with ⟨t1, v1, f1, g1, hC1, hM1, hv1, eC1, eM1, cC1, cM1, fl1, hg1, hgf1, hff1, v26a, v52a, kC1, kM1⟩ | ⟨-, hC1, hM1, eC1, eM1, r3, r4, m15, -, -⟩
  rotate_left
  · rw [eC1, show fX12_take 1 0 4 h5 = _ from eM1, bnd_eq, if_pos rfl]
    exact Or.inr ⟨_, hC1, hM1, rfl, rfl, r3, r4, m15⟩
  rw [eC1, show fX12_take 1 0 4 h5 = _ from eM1, bnd_eq, if_neg (show ¬ (1 : Int32) = 0 by decide)]
  have hgt1 := tr_gt (b := b) (n := n) (q := tq b n (tr b n q)) (by omega) (by omega)
  have hrn1 : tr b n (tq b n (tr b n q)) ≤ n := tr_le hqn
  generalize hr1 : tr b n (tq b n (tr b n q)) = r1 at cC1 cM1 hgt1 hrn1
  have hge1 := tq_ge b n r1
  have hqn1 := tq_le (b := b) hrn1
  rcases num_step (hdn := 9 + d) (i := 1) (k := 2) (c := 2) (lo := 0) (hi := 30) cC1 cM1 fl1 (by omega) hg1 hgf1 (nof_f hd) (by decide) (by decide) (by decide) (by decide) (by decide) (fun v h' hv e _ => cb_f (by omega) hv e) with ⟨t2, v2, f2, g2, hC2, hM2, hv2, eC2, eM2, cC2, cM2, fl2, hg2, hgf2, hff2, v26b, v52b, kC2, kM2⟩ | ⟨-, hC2, hM2, eC2, eM2, r3, r4, m15, -, -⟩
  rotate_left
  · rw [eC2, show fX12_take 2 0 30 hM1 = _ from eM2, bnd_eq, if_pos rfl]
    exact Or.inr ⟨_, hC2, hM2, rfl, rfl, r3, r4, m15⟩
  rw [eC2, rl_end (nof_f hd) (by decide), show fX12_take 2 0 30 hM1 = _ from eM2, bnd_eq, if_neg (show ¬ (1 : Int32) = 0 by decide)]
  have hgt2 := tr_gt (b := b) (n := n) (q := tq b n r1) (by omega) (by omega)
  have s51 : ∀ j, hM2.1 51 0 j = hM.1 51 0 j := fun j => by
    rw [kM2 51 0 j (by decide) (by omega), kM1 51 0 j (by decide) (by omega), k5 51 0 j (by decide), kM0 51 0 j (by omega)]
  have sC : ∀ k s j, k ≠ 3 → k ≠ 26 → hC2.1 k s j = hC.1 k s j := fun k s j h3 h26 => by
    rw [kC2 k s j h3 (by omega), kC1 k s j h3 (by omega), kC0 k s j (by omega)]
  have w1 : hM2.1 52 0 1 = nI v1 := by rw [kM2 52 0 1 (by decide) (by omega)]; exact v52a
  have u0 : hC2.1 26 0 0 = nI v1 := by rw [kC2 26 0 0 (by decide) (by omega)]; exact v26a
  rw [show ra hM2 51 0 1 = nI c2 from (s51 1).trans ec2]
  obtain ⟨h7, e7, e72, e7k, e7n, e70, e7p⟩ := fact_store (h := wa hM2 52 0 0 (nI (1 - d))) (v0 := 1 - d) (v1 := v1) (v2 := v2) hc2 rfl w1 v52b
  rw [e7]
  have z51 : ∀ j, (wa hM2 52 0 0 (nI (1 - d))).1 51 0 j = hM.1 51 0 j := s51
  have z10 : ∀ j, (wa hM2 52 0 0 (nI (1 - d))).1 10 0 j = hM2.1 10 0 j := fun j => rfl
  have z43 : ∀ j, (wa hM2 52 0 0 (nI (1 - d))).1 43 0 j = hM2.1 43 0 j := fun j => rfl
  have z2' : (wa hM2 52 0 0 (nI (1 - d))).2 = hM2.2 := rfl
  have cM4 : MTk h7 b n (tq b n (tr b n (tq b n r1))) := cM2.same (fun j _ => (e7k 10 0 j (by decide)).trans (z10 j)) (fun j => (e7k 43 0 j (by decide)).trans (z43 j)) (e72.trans z2')
  have fl4 : FLT hC2 h7 f2 (tq b n r1 + 1) := fl2.same rfl rfl ((e7k 10 0 16 (by decide)).trans (z10 16)) ((e7k 10 0 17 (by decide)).trans (z10 17))
  rcases line_end (hdn := 9 + d) cC2 cM4 fl4 (by omega) rfl (Co2 f2) (fun hA hM' kA kM' => by
    have a6 : hA.1 1 8 1 = nI c1 := (kA 1 8 1 (by decide)).trans ((sC 1 8 1 (by decide) (by decide)).trans ec1)
    have y0 : ra hA 26 0 0 = nI v1 := (kA 26 0 0 (by decide)).trans u0
    have y1 : ra hA 26 0 1 = nI v2 := (kA 26 0 1 (by decide)).trans v26b
    obtain ⟨hB, eB', kB, bn, bp⟩ := add3_eq (h := hA) (x := nI (1 - d)) (y := nI v1) (z := nI v2) hc1 a6
    refine ⟨hB, ?_, fun k s j hk => kB k s j (by omega), _, _, ?_, bn, ?_, (kM' 51 0 1 (by decide)).trans e7n, fun hf3 => ?_⟩
    · rw [tell_f hd hA, y0, y1, eB', bnd_eq]
    · split <;> omega
    · split <;> omega
    · obtain ⟨hf1, r21, r22⟩ := hff2 hf3
      obtain ⟨hf0', r11, r12⟩ := hff1 hf1
      obtain ⟨hf, hfull⟩ := hf0 hf0'
      have hcc' := hcc hf
      have hlt : c1 < 8 := by simp at hfull; omega
      obtain ⟨r, m, sd, pt, bt, hv, hs, hm⟩ := hcon hf
      have hm5 := hv.2.1
      have a1 := ec1.symm.trans hs.2.1
      rw [eq_n (by omega) (by omega)] at a1
      subst a1
      obtain ⟨b33, b34, b35⟩ := bp hlt
      obtain ⟨d3, d8, d13, dp⟩ := e7p (by omega)
      refine ⟨r, c1 + 1, fun p => if p = c1 then 1 - d else sd p, fun p => if p = c1 then v1 else pt p, fun p => if p = c1 then v2 else bt p, ⟨hv.1, by omega, fun p hp => ?_⟩, ⟨?_, ?_, fun p hp => ?_⟩, ⟨?_, ?_, fun p hp => ?_⟩⟩
      · by_cases hpc : p = c1
        · simp only [hpc, if_pos]; omega
        · simp only [hpc, if_false]; exact hv.2.2 p (by omega)
      · rw [kB 1 8 0 (by omega), kA 1 8 0 (by decide), sC 1 8 0 (by decide) (by decide)]; exact hs.1
      · rw [bn, if_pos (by omega)]
      · by_cases hpc : p = c1
        · subst hpc
          simp only [if_pos]
          exact ⟨b33, b34, b35⟩
        · simp only [hpc, if_false]
          rw [kB 21 8 p (by omega), kA 21 8 p (by decide), sC 21 8 p (by decide) (by decide), kB 22 8 p (by omega), kA 22 8 p (by decide), sC 22 8 p (by decide) (by decide), kB 23 8 p (by omega), kA 23 8 p (by decide), sC 23 8 p (by decide) (by decide)]
          exact hs.2.2 p (by omega)
      · rw [kM' 51 0 0 (by decide), e70, z51]; exact hm.1
      · rw [kM' 51 0 1 (by decide), e7n, ← hcc', if_pos (by omega)]
      · rw [← hcc'] at d3 d8 d13 dp
        rw [kM' 51 0 _ (by decide), kM' 51 0 _ (by decide), kM' 51 0 _ (by decide)]
        by_cases hpc : p = c1
        · subst hpc
          simp only [if_pos]
          exact ⟨d3, d8, d13⟩
        · simp only [hpc, if_false]
          obtain ⟨x1, x2, x3⟩ := dp p (by omega)
          rw [x1, x2, x3, z51, z51, z51]
          exact hm.2.2 p (by omega)) with ⟨p2, hC', hM', a1, a2, a3, a4, a5, a6, a7⟩ | ⟨a, hC', hM', a1, a2, a3, a4, a5⟩
  · exact Or.inl ⟨f2, p2, hC', hM', a1, a2, by omega, a4, a5, a6, a7⟩
  · exact Or.inr ⟨a, hC', hM', a1, a2, a3, a4, a5⟩
