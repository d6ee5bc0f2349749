/-! behind -/
theorem st_behind : Stp_behind (Rel KIv) := by
  intro a l2 l3
  refine stp_k (frX11_behind a l2 l3) (frX12_behind a l2 l3) rfl rfl (fun hC hM hR => ?_)
  obtain ⟨⟨-, -, -, -, c0, c1, c2, ⟨v0, v1, -⟩, ⟨e0, e1, e2⟩, ⟨m0, m1, m2⟩, hSt, -⟩, -, hK, hI⟩ := hR
  rcases int_cases a c0 (by omega) with ha | ⟨j, hj, rfl⟩
  · refine ⟨-2, hC, wr hM 10 0 0 0, ?_, ?_, hK, hI.wr0⟩
    · unfold fX11_behind
      rw [stageAt_no e0 ha, bnd_eq, nl_n]
    · unfold fX12_behind
      rw [lt_eq, hand_no (show (wr hM 10 0 0 0).1 47 0 0 = nI c0 from m0) v0 ha, bnd_eq, if_pos rfl]
  · obtain ⟨sp, st, n, pl, li, le, hv, hcs, hms⟩ := hSt j hj
    rw [Nat.mul_zero, Nat.zero_add] at hcs hms
    have hn := hv.2.2.2.1
    obtain ⟨hB, eB, mhB, -, iB, -⟩ := handK m0 v0 hj hv hms hI
    rcases int_cases l2 n (by omega) with hp | ⟨p, hp, rfl⟩
    · refine ⟨-2, hC, hB, ?_, ?_, hK, iB⟩
      · unfold fX11_behind
        rw [stageAt_yes e0 hj v0, bnd_eq, nl_s, has8_eq (by omega) hcs.2.2.1, bnd_eq, if_pos hp, if_pos rfl]
      · unfold fX12_behind
        rw [lt_eq, eB, bnd_eq, if_neg ne10, isPlate_eq mhB.1 hn, bnd_eq, if_pos hp, if_pos rfl]
    · by_cases g3 : l3 < 0 ∨ (2 : Int32) < l3
      · refine ⟨-2, hC, hB, ?_, ?_, hK, iB⟩
        · unfold fX11_behind
          rw [stageAt_yes e0 hj v0, bnd_eq, nl_s, has8_eq (by omega) hcs.2.2.1, bnd_eq, if_neg (in_no hp (by omega)), if_neg ne10]
          by_cases g0 : l3 < 0
          · rw [if_pos g0]
          · rw [if_neg g0, if_neg (fun q => by
              have z1 := Int32.lt_iff_toInt_lt.mp (g3.resolve_left g0)
              have z2 := Int32.le_iff_toInt_le.mp q
              omega)]
        · unfold fX12_behind
          rw [lt_eq, eB, bnd_eq, if_neg ne10, isPlate_eq mhB.1 hn, bnd_eq, if_neg (in_no hp (by omega)), if_neg ne10, in_eq, bnd_eq, if_pos g3, if_pos rfl]
      · have g0 : ¬ l3 < 0 := fun q => g3 (Or.inl q)
        have g2 : ¬ (2 : Int32) < l3 := fun q => g3 (Or.inr q)
        obtain ⟨hE, pl', li', le', eE, kE, -, ag, hv', cE, -, ft⟩ := exploreAll_wp hv (show j < 12 by omega) (show j ≠ 10 by omega) hcs hK
        have hG := GC_VG hv'
        have mg := mhB.mg hn ag
        obtain ⟨h4, x, e4, m4, kf4, i4, hcase⟩ := isForever_wp hG mg iB
        obtain ⟨h1n, f, s, o, mk, us, T, d⟩ : 1 ≤ n ∧ ∃ f s o mk us T, DI hE n (GC n sp st pl' li' le') f s 0 o mk us T := by
          rcases ft with ⟨h0, -⟩ | w
          · omega
          · exact w
        obtain ⟨f', s', T', tf⟩ : ∃ f' s' T', TF h4 (GC n sp st pl' li' le') f' s' T' := by
          rcases hcase with ⟨hz, -⟩ | ⟨-, f', s', T', tf, -⟩
          · have := (pw0 n hn).mp hz
            omega
          · exact ⟨f', s', T', tf⟩
        have hall := (d.all hv').2
        obtain ⟨t, hf, h0, hs0, dk, ⟨q1, q0, q2, q3, q4, q5⟩, dt⟩ := id d
        obtain ⟨fw, -⟩ := q5 0 h0 q0
        rw [show FW hE (GC n sp st pl' li' le') f s 0 n = FW hE (GC n sp st pl' li' le') f s 0 n from rfl] at fw
        obtain ⟨h5, e5, o5, ks5⟩ := openFirst_wp hG m4
        have m5 := m4.ks ks5
        have i5 : MInv h5 := i4.k9 ks5.k9
        have hp5 : p < 5 := by omega
        have hvn : VN (GC n sp st pl' li' le') (c0N (GC n sp st pl' li' le')) := c0_VN hG
        have uC : fX11_behind (nI j) (nI p) l3 hC = (if l3 = 0 then (if hE.1 18 0 (5 * 0 + p) = -1 then (some (0, hE)) else (some (1, hE))) else (if hE.1 18 0 (5 * 0 + p) = -1 then (some (-2, hE)) else (if l3 = 1 then (bnd (fX2_isForever (hE.1 18 0 (5 * 0 + p)) hE) fun x10 h9 => if x10 = 0 then (some (0, h9)) else (some (1, h9))) else (bnd (fX2_lastsFrom (hE.1 18 0 (5 * 0 + p)) hE) fun x12 h11 => some (x12, h11))))) := by
          unfold fX11_behind fX2_behindFirst
          rw [stageAt_yes e0 hj v0, bnd_eq, nl_s, has8_eq (by omega) hcs.2.2.1, bnd_eq, if_neg (in_no hp (by omega)), if_neg ne10, if_neg g0, if_pos (Int32.not_lt.mp g2), eE, bnd_eq, show (0 : Int32) = nI 0 from rfl, followerOf_eq hn cE.2.2.1 (by omega) hp, bnd_eq, bnd_eq]
        have uM : fX12_behind (nI j) (nI p) l3 hM = (if l3 = 0 then (if (if kpN (GC n sp st pl' li' le') (c0N (GC n sp st pl' li' le')) p = true then (1 : Int32) else 0) = 0 then (some (0, h5)) else (some (1, h5))) else (if (if kpN (GC n sp st pl' li' le') (c0N (GC n sp st pl' li' le')) p = true then (1 : Int32) else 0) = 0 then (some (-2, h5)) else (bnd (fX12_behindRun (nI p) h5) fun x14 h13 => ck (ib x14 46656) (ck (ib ((ra h13 59 0 x14) - (1 : Int32)) 46656) (lt (ra h13 60 0 ((ra h13 59 0 x14) - (1 : Int32))) fun x15 => if l3 = 2 then (some (x15, h13)) else (if x15 = (-1) then (some (1, h13)) else (some (0, h13)))))))) := by
          unfold fX12_behind
          rw [lt_eq, eB, bnd_eq, if_neg ne10, isPlate_eq mhB.1 hn, bnd_eq, if_neg (in_no hp (by omega)), if_neg ne10, in_eq, bnd_eq, if_neg g3, if_neg ne10, e4, bnd_eq, e5, bnd_eq, isKeptM_eq hG m5 hvn o5 hp5, bnd_eq]
        rw [uC, uM]
        by_cases hkp : kpN (GC n sp st pl' li' le') (c0N (GC n sp st pl' li' le')) p = true
        · obtain ⟨i, hi, ei, e18⟩ := (fw p hp).1 (by rw [hs0]; exact hkp)
          rw [hs0] at ei
          rw [e18, if_pos hkp, if_neg (nI_nm1 (show i < 2 ^ 31 by omega)), if_neg (nI_nm1 (show i < 2 ^ 31 by omega)), if_neg ne10, if_neg ne10]
          by_cases l0 : l3 = 0
          · rw [if_pos l0, if_pos l0]
            exact ⟨_, _, _, rfl, rfl, kE, i5⟩
          · obtain ⟨h6, e6, o6, ks6⟩ := behindRunM_wp hG m5 hvn o5 hp5 hkp
            obtain ⟨j', hj', ej'⟩ := tf.1.2.2.2.2 0 tf.1.2.2.1 p hp5 (by rw [tf.1.2.2.2.1]; exact hkp)
            rw [tf.1.2.2.2.1] at ej'
            have hf' := tf.1.2.1
            have hnv := (nx_VN hG hp5 hkp).1
            have ks := ks5.trans ks6
            have tf6 := tf.ks ks
            have r59 : ra h6 59 0 (nI (nxN (GC n sp st pl' li' le') (c0N (GC n sp st pl' li' le')) p)) - (1 : Int32) = nI j' := by
              rw [ra_n (by omega), ← ej', show h6.1 59 (0 % cnt 59) (s' j') = nI (j' + 1) from (tf6.1.1.2.1 j' hj').2.2]
              exact nI_sub (b := 1) (by omega)
            have r60 : ra h6 60 0 (nI j') = tI (T' j') := by rw [ra_n (by omega)]; exact tf6.2.1 j' hj'
            have i6 : MInv h6 := i5.k9 ks6.k9
            have hTj := tf.2.2 j' hj'
            rw [ej', ← ei] at hTj
            rw [if_neg l0, if_neg l0, e6, bnd_eq, ck_p (ib_nI hnv (by decide)), r59, ck_p (ib_nI (by omega) (by decide)), r60, lt_eq]
            obtain ⟨r, er, hr⟩ := isForeverC_eq d hi (hall i hi)
            by_cases l1 : l3 = 1
            · subst l1
              rw [if_pos rfl, if_neg (by decide), er, bnd_eq]
              rcases hr with ⟨rfl, hEv⟩ | ⟨rfl, hEv⟩
              · rw [if_neg ne10]
                cases hq : T' j' with
                | none =>
                  rw [if_pos (show tI none = (-1 : Int32) from rfl)]
                  exact ⟨_, _, _, rfl, rfl, kE, i6⟩
                | some w => exact absurd hEv (hTj.2 w hq).1.not_ev
              · rw [if_pos rfl]
                cases hq : T' j' with
                | none => exact absurd (hTj.1 hq) hEv
                | some w =>
                  rw [if_neg (show ¬ tI (some w) = (-1 : Int32) from nI_nm1 (by have := (hTj.2 w hq).2; omega))]
                  exact ⟨_, _, _, rfl, rfl, kE, i6⟩
            · have l2' : l3 = 2 := by
                obtain ⟨b, hb, rfl⟩ := nI_of g0
                have hb2 : b ≤ 2 := by
                  apply Classical.byContradiction
                  intro q
                  exact g2 (nI_lt (a := 2) (by omega) hb)
                rcases (show b = 0 ∨ b = 1 ∨ b = 2 by omega) with rfl | rfl | rfl
                · exact absurd rfl l0
                · exact absurd rfl l1
                · rfl
              subst l2'
              rw [if_neg (by decide), if_pos rfl]
              rcases lastsFromC_eq hv' d hi with ⟨e, hEv⟩ | ⟨w, e, hL⟩
              · rw [e, bnd_eq]
                cases hq : T' j' with
                | none => exact ⟨_, _, _, rfl, rfl, kE, i6⟩
                | some w => exact absurd hEv (hTj.2 w hq).1.not_ev
              · rw [e, bnd_eq]
                cases hq : T' j' with
                | none => exact absurd (hTj.1 hq) hL.not_ev
                | some w' =>
                  rw [hL.uniq (hTj.2 w' hq).1]
                  exact ⟨_, _, _, rfl, rfl, kE, i6⟩
        · rw [(fw p hp).2 (by rw [hs0]; exact Bool.not_eq_true _ |>.mp hkp), if_neg hkp, if_pos rfl, if_pos rfl, if_pos rfl, if_pos rfl]
          by_cases l0 : l3 = 0
          · rw [if_pos l0, if_pos l0]
            exact ⟨_, _, _, rfl, rfl, kE, i5⟩
          · rw [if_neg l0, if_neg l0]
            exact ⟨_, _, _, rfl, rfl, kE, i5⟩
