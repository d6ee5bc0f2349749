/-! load -/
theorem sn_le {L : Nat → Nat} : ∀ k p, p < k → snN L k ≤ L p := by
  intro k
  induction k with
  | zero => intro p hp; exact absurd hp (Nat.not_lt_zero _)
  | succ k ih =>
    intro p hp
    show min (snN L k) (L k) ≤ L p
    by_cases g : p = k
    · rw [g]; omega
    · have := ih p (by omega); omega
theorem sn_ge {L : Nat → Nat} {x : Nat} (h6 : x ≤ 6) : ∀ k, (∀ p, p < k → x ≤ L p) → x ≤ snN L k := by
  intro k
  induction k with
  | zero => intro _; exact h6
  | succ k ih =>
    intro h
    have a := ih (fun p hp => h p (by omega))
    have b := h k (by omega)
    show x ≤ min (snN L k) (L k)
    omega
theorem sn_rk {le : Nat → Nat} {n w : Nat} (hw : w < n) (h6 : ∀ p, p < n → le p ≤ 6) (e : rkN le w n = 0) : snN (peN n le) n = le w := by
  have pe : ∀ p, p < n → peN n le p = le p := fun p hp => by unfold peN; rw [if_pos hp]
  have a := sn_le (L := peN n le) n w hw
  rw [pe w hw] at a
  have b := sn_ge (L := peN n le) (h6 w hw) n (fun p hp => by
    rw [pe p hp]
    apply Classical.byContradiction
    intro q
    have := (rk_lt (le := le) (w := p) (z := w) (Or.inl (by omega)) n).2 hp
    omega)
  omega
theorem st_load : Stp_load (Rel KIv) := by
  intro a l2
  refine stp_k (frX11_load a l2) (frX12_load a l2) rfl rfl (fun hC hM hR => ?_)
  obtain ⟨⟨-, -, -, -, c0, c1, c2, ⟨v0, v1, -⟩, ⟨e0, e1, e2⟩, ⟨m0, m1, m2⟩, hSt, -⟩, -, hK, hI⟩ := hR
  rcases int_cases a c0 (by omega) with ha | ⟨j, hj, rfl⟩
  · refine ⟨-2, hC, wr hM 10 0 0 0, ?_, ?_, hK, hI.wr0⟩
    · unfold fX11_load
      rw [stageAt_no e0 ha, bnd_eq, nl_n]
    · unfold fX12_load
      rw [lt_eq, hand_no (show (wr hM 10 0 0 0).1 47 0 0 = nI c0 from m0) v0 ha, bnd_eq, if_pos rfl]
  · obtain ⟨sp, st, n, pl, li, le, hv, hcs, hms⟩ := hSt j hj
    rw [Nat.mul_zero, Nat.zero_add] at hcs hms
    have hn := hv.2.2.2.1
    have hj10 : j < 10 := by omega
    obtain ⟨hB, eB, mhB, e21, iB, e48⟩ := handK m0 v0 hj hv hms hI
    have mB := mhB.mb
    have e25 := mhB.2.2.2.1
    have r22 := mB.r22
    have rC := hcs.r2 hj10
    unfold fX11_load fX12_load
    rw [stageAt_yes e0 hj v0, bnd_eq, nl_s, lt_eq, eB, bnd_eq, if_neg ne10]
    have hld := ldN_le li n
    by_cases g0 : l2 = 0
    · subst g0
      have eC := loadC (z := 0) hj10 hv hcs
      have eM := part_eq (h := hB) (u := ldN li n) (d := 60) (z := 0) (by decide) (by decide) (by omega)
      generalize nI ((if (0 : Int32) = 0 then ldN li n else 60) / Nat.gcd (ldN li n) 60) = R at eC eM
      rw [if_pos rfl, eC, bnd_eq, if_pos (by decide), in_eq, bnd_eq, if_pos (by decide), if_pos rfl, loadM hv mB, bnd_eq, jn_eq, if_neg (by decide)]
      dsimp only
      rw [show fX12_part (nI (ldN li n)) 60 0 hB = _ from eM, bnd_eq]
      exact ⟨_, _, _, rfl, rfl, hK, iB⟩
    by_cases g1 : l2 = 1
    · subst g1
      have eC := loadC (z := 1) hj10 hv hcs
      have eM := part_eq (h := hB) (u := ldN li n) (d := 60) (z := 1) (by decide) (by decide) (by omega)
      generalize nI ((if (1 : Int32) = 0 then ldN li n else 60) / Nat.gcd (ldN li n) 60) = R at eC eM
      rw [if_neg (by decide), if_pos rfl, eC, bnd_eq, if_pos (by decide), in_eq, bnd_eq, if_pos (by decide), if_neg (by decide), if_pos rfl, loadM hv mB, bnd_eq, jn_eq, if_pos rfl]
      dsimp only
      rw [show fX12_part (nI (ldN li n)) 60 1 hB = _ from eM, bnd_eq]
      exact ⟨_, _, _, rfl, rfl, hK, iB⟩
    by_cases g2 : l2 = 2
    · subst g2
      unfold fX12_ofLoad
      rw [if_neg (by decide), if_neg (by decide), if_pos rfl, rC]
      by_cases h0 : n = 0
      · rw [if_pos ((eq0_n (by omega)).mpr h0), if_pos (by decide), in_eq, bnd_eq, if_neg (by decide), if_pos rfl, r22, if_pos ((eq0_n (by omega)).mpr h0), bnd_eq]
        exact ⟨_, _, _, rfl, rfl, hK, iB⟩
      · have hD : D7 (peN n le) := fun k hk => by
          unfold peN
          split
          · have := hv.2.2.2.2 k (by omega); omega
          · omega
        obtain ⟨w, ew, hw, hrk⟩ := fallM (k := 0) (show 0 < n by omega) hv mB
        rw [if_neg (fun q => h0 ((eq0_n (by omega)).mp q)), packed_eq (by omega) hv hcs, bnd_eq, soonest_eq hD (by omega) hn hcs.2.2.1, bnd_eq, if_pos (by decide), in_eq, bnd_eq, if_neg (by decide), if_pos rfl, r22, if_neg (fun q => h0 ((eq0_n (by omega)).mp q)), show fX12_fallingOf 0 hB = _ from ew, bnd_eq, ck_p (ib_nI (by omega) (by decide)), mB.r55 hn hw, bnd_eq, sn_rk hw (fun p hp => by have := hv.2.2.2.2 p hp; omega) hrk]
        exact ⟨_, _, _, rfl, rfl, hK, iB⟩
    by_cases g3 : l2 = 3
    · subst g3
      unfold fX12_ofLoad
      have eC := spanC hj10 hv hcs
      have eM := spanM hv mB
      generalize (if n = 0 then (0 : Int32) else nI (hiN pl n - loN pl n)) = R at eC eM
      rw [if_neg (by decide), if_neg (by decide), if_neg (by decide), if_pos rfl, eC, bnd_eq, if_pos (by decide), in_eq, bnd_eq, if_neg (by decide), if_neg (by decide), if_pos rfl, eM, bnd_eq, bnd_eq]
      exact ⟨_, _, _, rfl, rfl, hK, iB⟩
    by_cases g4 : l2 = 4
    · subst g4
      unfold fX12_ofLoad
      obtain ⟨h4, e4, i4⟩ := coupM (z := 0) hv mB iB (fun _ => rfl) (fun q => absurd rfl q)
      rw [if_neg (by decide), if_neg (by decide), if_neg (by decide), if_neg (by decide), if_pos rfl, closeC hj10 hv hcs, bnd_eq, if_pos (by decide), in_eq, bnd_eq, if_neg (by decide), if_neg (by decide), if_neg (by decide), if_pos rfl, e4, bnd_eq, bnd_eq, t12 _ n hn]
      exact ⟨_, _, _, rfl, rfl, hK, i4⟩
    by_cases g5 : l2 = 5
    · subst g5
      unfold fX12_ofLoad
      obtain ⟨b, h', e, k, q⟩ := aloneC hj10 hv hcs hK
      obtain ⟨b2, h2, e2', i2, q2⟩ := aloneM hv mB iB
      rw [if_neg (by decide), if_neg (by decide), if_neg (by decide), if_neg (by decide), if_neg (by decide), if_pos rfl, e, bnd_eq, if_pos (by decide), in_eq, bnd_eq, if_neg (by decide), if_neg (by decide), if_neg (by decide), if_neg (by decide), if_pos rfl, e2', bnd_eq, bnd_eq, BTs.uniq _ _ _ q q2]
      exact ⟨_, _, _, rfl, rfl, k, i2⟩
    by_cases g6 : l2 = 6
    · subst g6
      unfold fX12_ofLoad
      obtain ⟨h', e, k⟩ := coupC hj10 hv hcs hK
      obtain ⟨h4, e4, i4⟩ := coupM (z := 1) hv mB iB (fun q => absurd q (by decide)) (fun _ => rfl)
      rw [if_neg (by decide), if_neg (by decide), if_neg (by decide), if_neg (by decide), if_neg (by decide), if_neg (by decide), if_pos rfl, e, bnd_eq, if_pos (by decide), in_eq, bnd_eq, if_neg (by decide), if_neg (by decide), if_neg (by decide), if_neg (by decide), if_neg (by decide), if_pos rfl, e4, bnd_eq, bnd_eq, t12 _ n hn]
      exact ⟨_, _, _, rfl, rfl, k, i4⟩
    by_cases g7 : l2 = 7
    · subst g7
      unfold fX12_ofLoad
      obtain ⟨b, e, q⟩ := lateC hj10 hv hcs
      obtain ⟨b2, e2', q2⟩ := lateM hv mB
      rw [if_neg (by decide), if_neg (by decide), if_neg (by decide), if_neg (by decide), if_neg (by decide), if_neg (by decide), if_neg (by decide), if_pos rfl, e, bnd_eq, if_pos (by decide), in_eq, bnd_eq, if_neg (by decide), if_neg (by decide), if_neg (by decide), if_neg (by decide), if_neg (by decide), if_neg (by decide), e2', bnd_eq, bnd_eq, BTs.uniq _ _ _ q q2]
      exact ⟨_, _, _, rfl, rfl, hK, iB⟩
    have row : ∃ k h', fX0_inRow j hC = some (nI k, hC) ∧ fX12_inRow hB = some (nI k, h') ∧ MInv h' ∧ k ≤ 99 := by
      obtain ⟨k, h', e, ks, hk⟩ := inRowM hv mB e25
      rcases hk with ⟨h0, rfl⟩ | ⟨h1n, hk⟩
      · refine ⟨0, h', ?_, e, iB.k9 ks.k9, by omega⟩
        unfold fX0_inRow
        rw [rC, if_pos ((eq0_n (by omega)).mpr h0)]; rfl
      · obtain ⟨k2, e2', q2⟩ := inRowC hj10 h1n hv hcs
        rw [q2.uniq hk] at e2'
        exact ⟨k, h', e2', e, iB.k9 ks.k9, hk.1⟩
    by_cases g8 : l2 = 8
    · subst g8
      obtain ⟨k, h', ea, eb, i', hk⟩ := row
      rw [if_neg (by decide), if_neg (by decide), if_neg (by decide), if_neg (by decide), if_neg (by decide), if_neg (by decide), if_neg (by decide), if_neg (by decide), if_pos rfl, ea, bnd_eq, jn_eq, rC]
      by_cases h0 : n = 0
      · rw [if_pos (show nI n = 0 from (eq0_n (by omega)).mpr h0), ite_self, if_pos (by decide), in_eq, bnd_eq, if_pos (by decide), if_neg (by decide), if_neg (by decide), if_neg (by decide), if_neg (by decide), if_neg (by decide), if_neg (by decide), if_neg (by decide), if_neg (by decide), if_pos rfl, jn_eq, r22, if_pos ((eq0_n (by omega)).mpr h0)]
        exact ⟨_, _, _, rfl, rfl, hK, iB⟩
      · rw [if_neg (show ¬ nI n = 0 from fun q => h0 ((eq0_n (by omega)).mp q))]
        by_cases h9 : nI k = 99
        · rw [if_pos h9, if_pos (by decide), in_eq, bnd_eq, if_pos (by decide), if_neg (by decide), if_neg (by decide), if_neg (by decide), if_neg (by decide), if_neg (by decide), if_neg (by decide), if_neg (by decide), if_neg (by decide), if_pos rfl, jn_eq, r22, if_neg (fun q => h0 ((eq0_n (by omega)).mp q)), eb, bnd_eq, if_pos h9]
          exact ⟨_, _, _, rfl, rfl, hK, i'⟩
        · rw [if_neg h9, if_pos (by decide), in_eq, bnd_eq, if_pos (by decide), if_neg (by decide), if_neg (by decide), if_neg (by decide), if_neg (by decide), if_neg (by decide), if_neg (by decide), if_neg (by decide), if_neg (by decide), if_pos rfl, jn_eq, r22, if_neg (fun q => h0 ((eq0_n (by omega)).mp q)), eb, bnd_eq, if_neg h9]
          exact ⟨_, _, _, rfl, rfl, hK, i'⟩
    by_cases g9 : l2 = 9
    · subst g9
      obtain ⟨k, h', ea, eb, i', hk⟩ := row
      rw [if_neg (by decide), if_neg (by decide), if_neg (by decide), if_neg (by decide), if_neg (by decide), if_neg (by decide), if_neg (by decide), if_neg (by decide), if_neg (by decide), if_pos rfl, ea, bnd_eq, if_pos (by decide), in_eq, bnd_eq, if_pos (by decide), if_neg (by decide), if_neg (by decide), if_neg (by decide), if_neg (by decide), if_neg (by decide), if_neg (by decide), if_neg (by decide), if_neg (by decide), if_neg (by decide), if_pos rfl, eb, bnd_eq]
      exact ⟨_, _, _, rfl, rfl, hK, i'⟩
    by_cases g10 : l2 = 10
    · subst g10
      rw [if_neg (by decide), if_neg (by decide), if_neg (by decide), if_neg (by decide), if_neg (by decide), if_neg (by decide), if_neg (by decide), if_neg (by decide), if_neg (by decide), if_neg (by decide), if_pos rfl, centreC hj10 hv hcs, bnd_eq, if_pos (by decide), in_eq, bnd_eq, if_pos (by decide), if_neg (by decide), if_neg (by decide), if_neg (by decide), if_neg (by decide), if_neg (by decide), if_neg (by decide), if_neg (by decide), if_neg (by decide), if_neg (by decide), if_neg (by decide), if_pos rfl, centreM hv mB, bnd_eq]
      exact ⟨_, _, _, rfl, rfl, hK, iB⟩
    by_cases g11 : l2 = 11
    · subst g11
      have hce := ceN_le sp n pl 9
      rw [if_neg (by decide), if_neg (by decide), if_neg (by decide), if_neg (by decide), if_neg (by decide), if_neg (by decide), if_neg (by decide), if_neg (by decide), if_neg (by decide), if_neg (by decide), if_neg (by decide), if_pos rfl, centreC hj10 hv hcs, bnd_eq, waysC hj10 hce hv hcs, bnd_eq, if_pos (by decide), in_eq, bnd_eq, if_pos (by decide), if_neg (by decide), if_neg (by decide), if_neg (by decide), if_neg (by decide), if_neg (by decide), if_neg (by decide), if_neg (by decide), if_neg (by decide), if_neg (by decide), if_neg (by decide), if_neg (by decide), if_pos rfl, centreM hv mB, bnd_eq, waysM hce hv mB, bnd_eq]
      exact ⟨_, _, _, rfl, rfl, hK, iB⟩
    by_cases g12 : l2 = 12
    · subst g12
      have msB : MSt hB j sp st n pl li le := by
        obtain ⟨a1, a2, a3, a4⟩ := hms
        refine ⟨(e48 _).trans a1, (e48 _).trans a2, (e48 _).trans a3, fun p hp => ?_⟩
        rw [e48, e48, e48]; exact a4 p hp
      obtain ⟨r, h', e, k, q⟩ := swapC hj10 hv hcs hK
      obtain ⟨r2, h2, e2', i2, q2⟩ := swapM (show j < 2 by omega) hv mB iB e25 e21 msB
      have er : r = r2 := by
        rcases q with ⟨w1, rfl⟩ | ⟨w1, w2⟩
        · rcases q2 with ⟨-, rfl⟩ | ⟨w3, -⟩
          · rfl
          · exact absurd w1 w3
        · rcases q2 with ⟨w3, -⟩ | ⟨-, w4⟩
          · exact absurd w3 w1
          · exact w2.uniq w4
      rw [if_neg (by decide), if_neg (by decide), if_neg (by decide), if_neg (by decide), if_neg (by decide), if_neg (by decide), if_neg (by decide), if_neg (by decide), if_neg (by decide), if_neg (by decide), if_neg (by decide), if_neg (by decide), if_pos rfl, e, bnd_eq, if_pos (by decide), in_eq, bnd_eq, if_pos (by decide), if_neg (by decide), if_neg (by decide), if_neg (by decide), if_neg (by decide), if_neg (by decide), if_neg (by decide), if_neg (by decide), if_neg (by decide), if_neg (by decide), if_neg (by decide), if_neg (by decide), if_neg (by decide), if_pos rfl, e2', bnd_eq, er]
      exact ⟨_, _, _, rfl, rfl, k, i2⟩
    rw [if_neg g0, if_neg g1, if_neg g2, if_neg g3, if_neg g4, if_neg g5, if_neg g6, if_neg g7, if_neg g8, if_neg g9, if_neg g10, if_neg g11, if_neg g12]
    by_cases hl : l2 < 20
    · have hin : l2 < 2 ∨ (7 : Int32) < l2 := by
        apply Classical.byContradiction
        intro q
        have q1 : ¬ l2 < 2 := fun w => q (Or.inl w)
        have q2 : ¬ (7 : Int32) < l2 := fun w => q (Or.inr w)
        have hl0 : ¬ l2 < 0 := fun w => q1 (Int32.lt_trans w (by decide))
        obtain ⟨b, hb, rfl⟩ := nI_of hl0
        have b2 : 2 ≤ b := by
          apply Classical.byContradiction
          intro w
          exact q1 (nI_lt (b := 2) (by omega) (by decide))
        have b7 : b ≤ 7 := by
          apply Classical.byContradiction
          intro w
          exact q2 (nI_lt (a := 7) (by omega) hb)
        rcases (show b = 2 ∨ b = 3 ∨ b = 4 ∨ b = 5 ∨ b = 6 ∨ b = 7 by omega) with rfl | rfl | rfl | rfl | rfl | rfl
        · exact g2 rfl
        · exact g3 rfl
        · exact g4 rfl
        · exact g5 rfl
        · exact g6 rfl
        · exact g7 rfl
      rw [if_pos hl, if_pos hl, in_eq, bnd_eq, if_pos hin, if_pos rfl, if_neg g0, if_neg g1, if_neg g2, if_neg g3, if_neg g4, if_neg g5, if_neg g6, if_neg g7, if_neg g8, if_neg g9, if_neg g10, if_neg g11, if_neg g12]
      exact ⟨_, _, _, rfl, rfl, hK, iB⟩
    · have hl0 : ¬ l2 < 0 := fun w => hl (Int32.lt_trans w (by decide))
      obtain ⟨b, hb, rfl⟩ := nI_of hl0
      have b20 : 20 ≤ b := by
        apply Classical.byContradiction
        intro w
        exact hl (nI_lt (b := 20) (by omega) (by decide))
      obtain ⟨r, er, hr⟩ := fallC (k := b - 20) hj10 (by omega) hv hcs
      rw [if_neg hl, if_neg hl, show nI b - (20 : Int32) = nI (b - 20) from nI_sub (b := 20) b20, er, bnd_eq, r22]
      rcases hr with ⟨p, hp, rfl, hrk⟩ | ⟨rfl, hnk⟩
      · have hb2 := (rk_b (le := le) (p := p) n).2 hp
        obtain ⟨w, ew, hw, hrk2⟩ := fallM (k := b - 20) (by omega) hv mB
        rw [if_neg (fun q => by have := (le_n (by omega) (by omega)).mp q; omega), ew, bnd_eq, rk_inj (le := le) hp hw (by omega)]
        exact ⟨_, _, _, rfl, rfl, hK, iB⟩
      · rw [if_pos (nI_le hnk (by omega))]
        exact ⟨_, _, _, rfl, rfl, hK, iB⟩
