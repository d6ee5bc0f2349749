theorem sub_e {a b c : Int32} (e : a - b = c) : a = c + b := by rw [← e]; exact (Int32.sub_add_cancel a b).symm
theorem st_need : Stp_need (Rel KIv) := by
  intro a l2
  refine stp_k (frX11_need a l2) (frX12_need a l2) rfl rfl (fun hC hM hR => ?_)
  obtain ⟨⟨-, -, -, -, c0, c1, c2, ⟨v0, v1, -⟩, ⟨e0, e1, e2⟩, ⟨m0, m1, m2⟩, hSt, -⟩, -, hK, hI⟩ := hR
  rcases int_cases a c0 (by omega) with ha | ⟨j, hj, rfl⟩
  · refine ⟨-2, hC, wr hM 10 0 0 0, ?_, ?_, hK, hI.wr0⟩
    · unfold fX11_need
      rw [stageAt_no e0 ha, bnd_eq, nl_n]
    · unfold fX12_need
      rw [lt_eq, hand_no (show (wr hM 10 0 0 0).1 47 0 0 = nI c0 from m0) v0 ha, bnd_eq, if_pos rfl]
  · obtain ⟨sp, st, n, pl, li, le, hv, hcs, hms⟩ := hSt j hj
    rw [Nat.mul_zero, Nat.zero_add] at hcs hms
    have hn := hv.2.2.2.1
    have hj10 : j < 10 := by omega
    obtain ⟨hB, eB, mhB, e21, iB, e48⟩ := handK m0 v0 hj hv hms hI
    have mB := mhB.mb
    have e25 := mhB.2.2.2.1
    have uC : fX11_need (nI j) l2 hC = (if l2 = 0 then (bnd (fX10_leastSpeed j hC) fun x6 h5 => some (x6, h5)) else if l2 = 1 then (bnd (fX10_startPlaces j hC) fun x9 h8 => some (x9, h8)) else if l2 = 2 then (bnd (fX10_mostKept j hC) fun x12 h11 => bnd (fJ6_bitCount_0f7a4 x12 h11) fun x14 h13 => some (x14, h13)) else if l2 = 3 then (bnd (fX10_mostKept j hC) fun x17 h16 => some (x17, h16)) else if l2 = 4 then (bnd (fX10_sparePlates j hC) fun x20 h19 => some (x20, h19)) else if l2 = 5 then (bnd (fX2_exploreAll j hC) fun _ h22 => bnd (fX2_reached h22) fun x24 h23 => some (x24, h23)) else if l2 = 6 then (bnd (fX2_exploreAll j hC) fun _ h26 => bnd (fX2_safe h26) fun x28 h27 => some (x28, h27)) else (bnd (fX11_needOfPlate j l2 hC) fun x30 h29 => some (x30, h29))) := by
      unfold fX11_need
      rw [stageAt_yes e0 hj v0, bnd_eq, nl_s]
    have uM : fX12_need (nI j) l2 hM = (if l2 < 10 then (if l2 = 0 then (bnd (fX12_speeds hB) fun x6 h5 => some (x6, h5)) else if l2 = 1 then (bnd (fX12_starts hB) fun x9 h8 => some (x9, h8)) else if l2 = 2 then (bnd (fX12_leave hB) fun x12 h11 => bnd (fX12_ones x12 h11) fun x14 h13 => some (x14, h13)) else if l2 = 3 then (bnd (fX12_leave hB) fun x17 h16 => some (x17, h16)) else if l2 = 4 then (bnd (fX12_spare hB) fun x20 h19 => some (x20, h19)) else if l2 = 5 then (if l2 = 6 then (bnd (fX12_reachedStands 1 hB) fun x25 h24 => some (x25, h24)) else (bnd (fX12_reachedStands 0 hB) fun x25 h24 => some (x25, h24))) else if l2 = 6 then (if l2 = 6 then (bnd (fX12_reachedStands 1 hB) fun x25 h24 => some (x25, h24)) else (bnd (fX12_reachedStands 0 hB) fun x25 h24 => some (x25, h24))) else (some ((-2), hB))) else (if (30 : Int32) ≤ l2 then some (-2, hB) else (bnd (fX12_isPlate (irm l2 10) hB) fun x34 h33 => if x34 = 0 then some (-2, h33) else (if (20 : Int32) ≤ l2 then (bnd (fX12_movesOf (l2 - (20 : Int32)) h33) fun x36 h35 => some (x36, h35)) else (bnd (fX12_needOf (l2 - (10 : Int32)) h33) fun x38 h37 => some (x38, h37)))))) := by
      unfold fX12_need
      rw [lt_eq, eB, bnd_eq, if_neg ne10]
      rfl
    rw [uC, uM]
    have reach : ∀ z : Int32, ∃ c hE h4, fX2_exploreAll j hC = some ((), hE) ∧ fX12_reachedStands z hB = some (nI c, h4) ∧ KIv hE ∧ MInv h4 ∧ (z = 0 → fX2_reached hE = some (nI c, hE)) ∧ (z ≠ 0 → fX2_safe hE = some (nI c, hE)) := by
      intro z
      obtain ⟨hE, pl', li', le', eE, kE, -, ag, hv', cE, -, ft⟩ := exploreAll_wp hv (show j < 12 by omega) (show j ≠ 10 by omega) hcs hK
      obtain ⟨c, h4, e4, i4, f', s', lo, q1, q2, q3⟩ := reachM (z := z) (GC_VG hv') (mhB.mg hn ag) iB
      exact ⟨c, hE, h4, eE, e4, kE, i4, reachB hv' ft lo q1 q2 q3⟩
    by_cases g0 : l2 = 0
    · subst g0
      obtain ⟨r, h', e, k, q⟩ := speedC hj10 hv hcs hK
      obtain ⟨r2, h2, e2, i2, q2⟩ := speedM hv mB iB e25
      rw [if_pos rfl, if_pos (by decide), if_pos rfl, e, bnd_eq, e2, bnd_eq, q.uniq q2]
      exact ⟨_, _, _, rfl, rfl, k, i2⟩
    by_cases g1 : l2 = 1
    · subst g1
      obtain ⟨r, h', e, k, q⟩ := startC hj10 hv hcs hK
      obtain ⟨r2, h2, e2, i2, q2⟩ := startM hv mB iB e25
      rw [if_neg (by decide), if_pos rfl, if_pos (by decide), if_neg (by decide), if_pos rfl, e, bnd_eq, e2, bnd_eq, BTs.uniq _ _ _ q q2]
      exact ⟨_, _, _, rfl, rfl, k, i2⟩
    by_cases g2 : l2 = 2
    · subst g2
      obtain ⟨r, h', e, k, q⟩ := mostC hj10 hv hcs hK
      obtain ⟨r2, h2, e2, i2, q2⟩ := leaveM hv mB iB
      have hr : r < 32 := by
        have := pw32 hn
        rcases q with ⟨rfl, -⟩ | ⟨-, w, -⟩ <;> omega
      rw [if_neg (by decide), if_neg (by decide), if_pos rfl, if_pos (by decide), if_neg (by decide), if_neg (by decide), if_pos rfl, e, bnd_eq, bc_eq hr, bnd_eq, e2, bnd_eq, ← q.uniq q2, ones_eq hr, bnd_eq]
      exact ⟨_, _, _, rfl, rfl, k, i2⟩
    by_cases g3 : l2 = 3
    · subst g3
      obtain ⟨r, h', e, k, q⟩ := mostC hj10 hv hcs hK
      obtain ⟨r2, h2, e2, i2, q2⟩ := leaveM hv mB iB
      rw [if_neg (by decide), if_neg (by decide), if_neg (by decide), if_pos rfl, if_pos (by decide), if_neg (by decide), if_neg (by decide), if_neg (by decide), if_pos rfl, e, bnd_eq, e2, bnd_eq, ← q.uniq q2]
      exact ⟨_, _, _, rfl, rfl, k, i2⟩
    by_cases g4 : l2 = 4
    · subst g4
      obtain ⟨r, h', e, k, q⟩ := spareC hj10 hv hcs hK
      obtain ⟨r2, h2, e2, i2, q2⟩ := spareM hv mB iB
      rw [if_neg (by decide), if_neg (by decide), if_neg (by decide), if_neg (by decide), if_pos rfl, if_pos (by decide), if_neg (by decide), if_neg (by decide), if_neg (by decide), if_neg (by decide), if_pos rfl, e, bnd_eq, e2, bnd_eq, BTs.uniq _ _ _ q q2]
      exact ⟨_, _, _, rfl, rfl, k, i2⟩
    by_cases g5 : l2 = 5
    · subst g5
      obtain ⟨c, hE, h4, a1, a2, a3, a4, a5, -⟩ := reach 0
      rw [if_neg (by decide), if_neg (by decide), if_neg (by decide), if_neg (by decide), if_neg (by decide), if_pos rfl, if_pos (by decide), if_neg (by decide), if_neg (by decide), if_neg (by decide), if_neg (by decide), if_neg (by decide), if_pos rfl, if_neg (by decide), a1, bnd_eq, a5 rfl, bnd_eq, a2, bnd_eq]
      exact ⟨_, _, _, rfl, rfl, a3, a4⟩
    by_cases g6 : l2 = 6
    · subst g6
      obtain ⟨c, hE, h4, a1, a2, a3, a4, -, a5⟩ := reach 1
      rw [if_neg (by decide), if_neg (by decide), if_neg (by decide), if_neg (by decide), if_neg (by decide), if_neg (by decide), if_pos rfl, if_pos (by decide), if_neg (by decide), if_neg (by decide), if_neg (by decide), if_neg (by decide), if_neg (by decide), if_neg (by decide), if_pos rfl, if_pos rfl, a1, bnd_eq, a5 (by decide), bnd_eq, a2, bnd_eq]
      exact ⟨_, _, _, rfl, rfl, a3, a4⟩
    rw [if_neg g0, if_neg g1, if_neg g2, if_neg g3, if_neg g4, if_neg g5, if_neg g6]
    have has := fun x => has8_eq (h := hC) (s := j) (n := n) (by omega) hcs.2.2.1 x
    unfold fX11_needOfPlate
    rw [has, bnd_eq]
    rcases int_cases (l2 - (10 : Int32)) n (by omega) with hA | ⟨p, hp, eA⟩
    · rw [if_pos hA, if_pos rfl, has, bnd_eq]
      rcases int_cases (l2 - (20 : Int32)) n (by omega) with hB2 | ⟨p, hp, eB2⟩
      · rw [if_pos hB2, if_pos rfl, bnd_eq]
        have key : (if l2 < 10 then (if l2 = 0 then (bnd (fX12_speeds hB) fun x6 h5 => some (x6, h5)) else if l2 = 1 then (bnd (fX12_starts hB) fun x9 h8 => some (x9, h8)) else if l2 = 2 then (bnd (fX12_leave hB) fun x12 h11 => bnd (fX12_ones x12 h11) fun x14 h13 => some (x14, h13)) else if l2 = 3 then (bnd (fX12_leave hB) fun x17 h16 => some (x17, h16)) else if l2 = 4 then (bnd (fX12_spare hB) fun x20 h19 => some (x20, h19)) else if l2 = 5 then (if l2 = 6 then (bnd (fX12_reachedStands 1 hB) fun x25 h24 => some (x25, h24)) else (bnd (fX12_reachedStands 0 hB) fun x25 h24 => some (x25, h24))) else if l2 = 6 then (if l2 = 6 then (bnd (fX12_reachedStands 1 hB) fun x25 h24 => some (x25, h24)) else (bnd (fX12_reachedStands 0 hB) fun x25 h24 => some (x25, h24))) else (some ((-2), hB))) else (if (30 : Int32) ≤ l2 then some (-2, hB) else (bnd (fX12_isPlate (irm l2 10) hB) fun x34 h33 => if x34 = 0 then some (-2, h33) else (if (20 : Int32) ≤ l2 then (bnd (fX12_movesOf (l2 - (20 : Int32)) h33) fun x36 h35 => some (x36, h35)) else (bnd (fX12_needOf (l2 - (10 : Int32)) h33) fun x38 h37 => some (x38, h37)))))) = some (-2, hB) := by
          by_cases hl : l2 < 10
          · rw [if_pos hl, if_neg g0, if_neg g1, if_neg g2, if_neg g3, if_neg g4, if_neg g5, if_neg g6]
          · rw [if_neg hl]
            by_cases h30 : (30 : Int32) ≤ l2
            · rw [if_pos h30]
            · have hl0 : ¬ l2 < 0 := fun q => hl (Int32.lt_trans q (by decide))
              obtain ⟨b, hb, rfl⟩ := nI_of hl0
              have hb10 : 10 ≤ b := by
                apply Classical.byContradiction
                intro q
                exact hl (nI_lt (b := 10) (show b < 10 by omega) (by decide))
              have hb30 : b < 30 := by
                apply Classical.byContradiction
                intro q
                exact h30 (nI_le (a := 30) (by omega) hb)
              have em : irm (nI b) (10 : Int32) = nI (b % 10) := nI_rem (b := 10) hb (by decide)
              have out : nI (b % 10) < 0 ∨ nI n ≤ nI (b % 10) := by
                apply Classical.byContradiction
                intro q
                have hp : b % 10 < n := by
                  apply Classical.byContradiction
                  intro q2
                  exact q (Or.inr (nI_le (by omega) (by omega)))
                by_cases h20 : 20 ≤ b
                · rw [show nI b - (20 : Int32) = nI (b - 20) from nI_sub (b := 20) h20] at hB2
                  exact in_no (show b - 20 < n by omega) (by omega) hB2
                · rw [show nI b - (10 : Int32) = nI (b - 10) from nI_sub (b := 10) hb10] at hA
                  exact in_no (show b - 10 < n by omega) (by omega) hA
              rw [if_neg h30, em, isPlate_eq mhB.1 hn, bnd_eq, if_pos out, if_pos rfl]
        rw [key]
        exact ⟨_, _, _, rfl, rfl, hK, iB⟩
      · have el : l2 = nI (p + 20) := by rw [sub_e eB2]; exact nI_add p 20
        obtain ⟨r, h', e, k, q⟩ := moveC hj10 hp hv hcs hK
        obtain ⟨r2, h2, e2, i2, q2⟩ := moveM hp hv mB iB e25
        have em : irm l2 (10 : Int32) = nI ((p + 20) % 10) := by rw [el]; exact nI_rem (b := 10) (by omega) (by decide)
        rw [show (p + 20) % 10 = p by omega] at em
        rw [eB2, if_neg (in_no hp (by omega)), if_neg ne10, e, bnd_eq, bnd_eq, if_neg (show ¬ l2 < 10 from fun w => by rw [el] at w; have := (lt_n (b := 10) (by omega) (by decide)).mp w; omega), if_neg (show ¬ (30 : Int32) ≤ l2 from fun w => by rw [el] at w; have := (le_n (a := 30) (by decide) (by omega)).mp w; omega), em, isPlate_eq mhB.1 hn, bnd_eq, if_neg (in_no hp (by omega)), if_neg ne10, if_pos (show (20 : Int32) ≤ l2 by rw [el]; exact nI_le (a := 20) (by omega) (by omega)), e2, bnd_eq, BTs.uniq _ _ _ q q2]
        exact ⟨_, _, _, rfl, rfl, k, i2⟩
    · have el : l2 = nI (p + 10) := by rw [sub_e eA]; exact nI_add p 10
      obtain ⟨r, h', e, k, q⟩ := lifeC hj10 hp hv hcs hK
      have e48p : hB.1 48 0 (18 * j + (13 + p)) = nI (le p) := by
        rw [e48, ← Nat.add_assoc]
        exact (hms.2.2.2 p hp).2.2
      obtain ⟨r2, h2, e2, i2, q2⟩ := lifeM (show j < 2 by omega) hp hv mB iB e25 e21 e48p
      have em : irm l2 (10 : Int32) = nI ((p + 10) % 10) := by rw [el]; exact nI_rem (b := 10) (by omega) (by decide)
      rw [show (p + 10) % 10 = p by omega] at em
      rw [eA, if_neg (in_no hp (by omega)), if_neg ne10, e, bnd_eq, bnd_eq, if_neg (show ¬ l2 < 10 from fun w => by rw [el] at w; have := (lt_n (b := 10) (by omega) (by decide)).mp w; omega), if_neg (show ¬ (30 : Int32) ≤ l2 from fun w => by rw [el] at w; have := (le_n (a := 30) (by decide) (by omega)).mp w; omega), em, isPlate_eq mhB.1 hn, bnd_eq, if_neg (in_no hp (by omega)), if_neg ne10, if_neg (show ¬ (20 : Int32) ≤ l2 from fun w => by rw [el] at w; have := (le_n (a := 20) (by decide) (by omega)).mp w; omega), e2, bnd_eq, q.uniq q2]
      exact ⟨_, _, _, rfl, rfl, k, i2⟩
