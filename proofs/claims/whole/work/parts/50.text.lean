theorem nof_d {d : Nat} (hd : d < 5) (h : Hp) : fX5_numbersOf (nI (3 + d)) h = some (nI (if d = 0 then 0 else 1), h) := by
  rcases (show d = 0 ∨ d = 1 ∨ d = 2 ∨ d = 3 ∨ d = 4 by omega) with rfl | rfl | rfl | rfl | rfl <;> rfl
theorem tell_d {d : Nat} (hd : d < 5) (h : Hp) : fX5_tell (nI (3 + d)) h = bnd (fX7_add 8 (nI d) (if d = 0 then -1 else ra h 26 0 0) h) (fun _ h8 => some ((), h8)) := by
  rcases (show d = 0 ∨ d = 1 ∨ d = 2 ∨ d = 3 ∨ d = 4 by omega) with rfl | rfl | rfl | rfl | rfl <;> rfl
theorem line_show {d f x q n : Nat} {b : Nat → Nat} {hC hM : Hp} (hd : d < 5) (hk1 : tk b n q = 1) (cC : CT hC b n (tr b n q)) (p9 : hC.1 3 0 9 = nI q) (cM : MTk hM b n q) (fl : FLT hC hM f x) (hx : x ≤ q) (hg : hM.1 10 0 20 = 1)
    (hh : fX5_headOf (nI 1) hC = some (nI (3 + d), hC)) (hdb : fX12_deedBy (mW hM b n q) hM = some (nI d, hM)) (co : Co1 f hC hM) : LRes 1 Co1 hC hM b n q := by
  obtain ⟨c1, c2, hc1, ec1, hc2, ec2, hcon⟩ := co
  have hn : n ≤ 600 := cC.2.2.2.1
  have hrn : tr b n q ≤ n := cC.2.2.2.2.1
  have hqr := tr_gt (b := b) (n := n) (q := q) (by omega) (by omega)
  have hcc : f = 0 → c1 = c2 := by
    intro hf
    obtain ⟨m, kd, pt, hv, hs, hm⟩ := hcon hf
    have hm5 := hv.1
    have a1 := ec1.symm.trans hs.1
    have a2 := ec2.symm.trans hm.1
    rw [eq_n (by omega) (by omega)] at a1 a2
    omega
  obtain ⟨f0, hC0, hM0, eB, eF, fl0, hf0, kC0, kM0, k20⟩ := full_step (decide (c1 = 40)) (decide (c2 = 40)) fl hx (by omega) p9 (fun hf => by rw [hcc hf])
  have rl := readLine_unf (s := 1) (decide (c1 = 40)) hh (by omega) (isFull_d hd hc1 ec1)
  rw [eB, bnd_eq, FU4] at rl
  have cC0 : CT hC0 b n (tr b n q) := cC.same (fun j hj => kC0 3 0 j (by omega)) (fun j => kC0 36 0 j (by omega))
  have cM0 : MTk hM0 b n q := cM.same (fun j hj => kM0 10 0 j (by omega)) (fun j => kM0 43 0 j (by omega)) k20
  obtain ⟨h5, e5, c5, k5, j5⟩ := tok_next cM0 (by omega)
  have fl5 : FLT hC0 (wa h5 52 0 1 (-1)) f0 (q + 1) := fl0.same rfl rfl (j5 16 (by omega)) (j5 17 (by omega))
  have c6 : MTk (wa h5 52 0 1 (-1)) b n (tq b n (tr b n q)) := c5.same (fun j _ => rfl) (fun j => rfl) rfl
  have w6 : (wa h5 52 0 1 (-1)).1 52 0 1 = -1 := rfl
  have k6 : ∀ j, (wa h5 52 0 1 (-1)).1 51 0 j = hM.1 51 0 j := fun j => (k5 51 0 j (by decide)).trans (kM0 51 0 j (by omega))
  have hge := tq_ge b n (tr b n q)
  have hqn := tq_le (b := b) hrn
  have g6 : (wa h5 52 0 1 (-1)).1 10 0 20 = nI 1 := (j5 20 (by omega)).trans ((kM0 10 0 20 (by omega)).trans hg)
  have hline : Line 1 (mW hM b n q) (nI q) hM = if nI d = 0 then shT (nI d) (wa h5 52 0 1 (-1)) else bnd (fX12_take 1 0 4 (wa h5 52 0 1 (-1))) fun x19 h18 => if x19 = 0 then some (0, h18) else shT (nI d) h18 := by
    show fX12_showLine (mW hM b n q) (nI q) hM = _
    unfold fX12_showLine
    have eF' := full_eq (h := hM) (idx := 0) (most := 40) (a := q) (by decide) ec2 (by omega) (by decide)
    rw [hdb, bnd_eq, if_neg (fun w => neg_ne (show d < 2 ^ 31 by omega) w.symm), show fX12_full 0 40 (nI q) hM = _ from eF', eF, bnd_eq, e5, bnd_eq, ck_p (show ib 1 3 = true from rfl), lt_eq, jn_eq]
    rfl
  generalize wa h5 52 0 1 (-1) = h7 at fl5 c6 w6 k6 g6 hline
  unfold LRes
  rw [mLine_eq, hline, rl]
  have sC0 : ∀ k s j, k ≠ 3 → hC0.1 k s j = hC.1 k s j := fun k s j h3 => kC0 k s j (by omega)
  have hf0' : f0 = 0 → f = 0 ∧ c1 < 40 := fun w => by
    obtain ⟨w1, w2⟩ := hf0 w
    simp at w2
    exact ⟨w1, by omega⟩
  by_cases hd0 : d = 0
  · subst hd0
    rw [if_pos (show nI 0 = 0 from rfl), rl_end (c := 0) (fun h => nof_3 h) (by decide)]
    obtain ⟨h9, e9, e92, e9k, e90, e9p⟩ := shT_eq (h := h7) (x := nI 0) hc2 ((k6 0).trans ec2)
    rw [e9]
    have cM9 : MTk h9 b n (tq b n (tr b n q)) := c6.same (fun j _ => e9k 10 0 j (by decide)) (fun j => e9k 43 0 j (by decide)) e92
    have fl9 : FLT hC0 h9 f0 (q + 1) := fl5.same rfl rfl (e9k 10 0 16 (by decide)) (e9k 10 0 17 (by decide))
    rcases line_end (hdn := 3) cC0 cM9 fl9 (by omega) rfl (Co1 f0) (fun hA hM' kA kM' => by
      have a6 : hA.1 5 8 0 = nI c1 := (kA 5 8 0 (by decide)).trans ((sC0 5 8 0 (by decide)).trans ec1)
      obtain ⟨hB, eB', kB, bn, bp⟩ := add7_eq (h := hA) (x := nI 0) (y := -1) hc1 a6
      refine ⟨hB, ?_, fun k s j hk => kB k s j (by omega), ?_⟩
      · rw [show fX5_tell (nI 3) hA = _ from tell_d (d := 0) (by decide) hA, if_pos rfl, eB', bnd_eq]
      · refine show_told (d := 0) (y := -1) (hA := hA) (hM7 := h7) (by decide) (fun _ => Or.inl ⟨rfl, rfl⟩) hc1 ec1 hc2 ec2 hcon hcc hf0' (fun k s j h3 _ => (kA k s j h3).trans (sC0 k s j h3)) k6 kB bn bp ((kM' 51 0 0 (by decide)).trans e90) (fun hc => ?_)
        obtain ⟨z1, z2, z3⟩ := e9p hc
        exact ⟨(kM' 51 0 _ (by decide)).trans z1, (kM' 51 0 _ (by decide)).trans (z2.trans w6), fun p hp => ⟨(kM' 51 0 _ (by decide)).trans (z3 p hp).1, (kM' 51 0 _ (by decide)).trans (z3 p hp).2⟩⟩) with ⟨p2, hC', hM', a1, a2, a3, a4, a5, a6, a7⟩ | ⟨a, hC', hM', a1, a2, a3, a4, a5⟩
    · exact Or.inl ⟨f0, p2, hC', hM', a1, a2, by omega, a4, a5, a6, a7⟩
    · exact Or.inr ⟨a, hC', hM', a1, a2, a3, a4, a5⟩
  · have hnd : ∀ h, fX5_numbersOf (nI (3 + d)) h = some (nI 1, h) := fun h => by rw [nof_d hd h, if_neg hd0]
    rw [if_neg (show ¬ nI d = 0 from fun w => hd0 ((eq_n (b := 0) (by omega) (by decide)).mp w))]
    rcases num_step (hdn := 3 + d) (i := 0) (k := 1) (c := 1) (lo := 0) (hi := 4) cC0 c6 fl5 (by omega) g6 (Or.inl rfl) hnd (by decide) (by decide) (by decide) (by decide) (by decide) (fun v h' hv e _ => cb_d (by omega) hv e) with ⟨t1, v, f1, g1, hC1, hM1, hv, eC1, eM1, cC1, cM1, fl1, hg1, hgf1, hff1, v26, v52, kC1, kM1⟩ | ⟨-, hC1, hM1, eC1, eM1, r3, r4, m15, -, -⟩
    rotate_left
    · rw [eC1, show fX12_take 1 0 4 h7 = _ from eM1, bnd_eq, if_pos rfl]
      exact Or.inr ⟨_, hC1, hM1, rfl, rfl, r3, r4, m15⟩
    rw [eC1, rl_end hnd (by decide), show fX12_take 1 0 4 h7 = _ from eM1, bnd_eq, if_neg (show ¬ (1 : Int32) = 0 by decide)]
    have hgt1 := tr_gt (b := b) (n := n) (q := tq b n (tr b n q)) (by omega) (by omega)
    have k61 : ∀ j, hM1.1 51 0 j = hM.1 51 0 j := fun j => (kM1 51 0 j (by decide) (by omega)).trans (k6 j)
    obtain ⟨h9, e9, e92, e9k, e90, e9p⟩ := shT_eq (h := hM1) (x := nI d) hc2 ((k61 0).trans ec2)
    rw [e9]
    have cM9 : MTk h9 b n (tq b n (tr b n (tq b n (tr b n q)))) := cM1.same (fun j _ => e9k 10 0 j (by decide)) (fun j => e9k 43 0 j (by decide)) e92
    have fl9 : FLT hC1 h9 f1 (tq b n (tr b n q) + 1) := fl1.same rfl rfl (e9k 10 0 16 (by decide)) (e9k 10 0 17 (by decide))
    have sC1 : ∀ k s j, k ≠ 3 → k ≠ 26 → hC1.1 k s j = hC.1 k s j := fun k s j h3 h26 => (kC1 k s j h3 (by omega)).trans (sC0 k s j h3)
    rcases line_end (hdn := 3 + d) cC1 cM9 fl9 (by omega) rfl (Co1 f1) (fun hA hM' kA kM' => by
      have a6 : hA.1 5 8 0 = nI c1 := (kA 5 8 0 (by decide)).trans ((sC1 5 8 0 (by decide) (by decide)).trans ec1)
      have z0 : ra hA 26 0 0 = nI v := (kA 26 0 0 (by decide)).trans v26
      obtain ⟨hB, eB', kB, bn, bp⟩ := add7_eq (h := hA) (x := nI d) (y := nI v) hc1 a6
      refine ⟨hB, ?_, fun k s j hk => kB k s j (by omega), ?_⟩
      · rw [tell_d hd hA, if_neg hd0, z0, eB', bnd_eq]
      · refine show_told (d := d) (y := nI v) (hA := hA) (hM7 := hM1) hd (fun w => Or.inr ⟨by omega, v, by have := (hff1 w).2; omega, rfl⟩) hc1 ec1 hc2 ec2 hcon hcc (fun w => hf0' (hff1 w).1) (fun k s j h3 h26 => (kA k s j h3).trans (sC1 k s j h3 h26)) k61 kB bn bp ((kM' 51 0 0 (by decide)).trans e90) (fun hc => ?_)
        obtain ⟨z1, z2, z3⟩ := e9p hc
        exact ⟨(kM' 51 0 _ (by decide)).trans z1, (kM' 51 0 _ (by decide)).trans (z2.trans v52), fun p hp => ⟨(kM' 51 0 _ (by decide)).trans (z3 p hp).1, (kM' 51 0 _ (by decide)).trans (z3 p hp).2⟩⟩) with ⟨p2, hC', hM', a1, a2, a3, a4, a5, a6, a7⟩ | ⟨a, hC', hM', a1, a2, a3, a4, a5⟩
    · exact Or.inl ⟨f1, p2, hC', hM', a1, a2, by omega, a4, a5, a6, a7⟩
    · exact Or.inr ⟨a, hC', hM', a1, a2, a3, a4, a5⟩
