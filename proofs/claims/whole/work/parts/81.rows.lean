/-! fits() and least() -/
def suA (r : Nat) (i : Nat) (A : AR) : Int32 := if A.length = 0 then -1 else if i < r then srI (vvN i A) else -1
theorem sureRun_eq {h : Hp} {r n i : Nat} {a : Int32} {A : AR} (hr : r ≤ 4) (hA : A.length ≤ 1000) (hi : i < 4) (e9 : h.1 4 0 9 = nI r) (cr : CR h r n a A) : fX6_sureRun (nI i) h = some (suA r i A, h) := by
  obtain ⟨d0, d1, d2, d3, d4, d5, d6⟩ := cr
  have q0 : rd h 4 0 0 = nI A.length := d0
  have q9 : rd h 4 0 9 = nI r := e9
  unfold fX6_sureRun suA
  rw [jn_eq, q0, q9]
  by_cases h0 : A.length = 0
  · rw [if_pos ((le0_n (by omega)).mpr h0), if_pos h0]
  · rw [if_neg (fun q => h0 ((le0_n (by omega)).mp q)), if_neg h0, if_neg (fun q => in_no hi (by decide) (Or.inl q))]
    by_cases g : i < r
    · rw [if_neg (fun q => nI_ge g (by omega) q), if_neg (show ¬ (4 : Int32) ≤ nI i from fun q => nI_ge hi (by decide) q), ck_p (ib_nI hi (by decide)), if_pos g, ra_n (by omega)]
      exact congrArg (fun z => some (z, h)) (d6 h0 i g)
    · rw [if_pos (nI_le (by omega) (by omega)), if_neg g]
theorem srI_loop : ∀ v, v < 32 → ∀ p, p < 5 → ((nI v = (1 : Int32) <<< (nI p &&& 31)) ↔ v = 2 ^ p) := by decide +kernel
theorem srI_val : ∀ v, v < 32 → (srI v = -1 ∧ ∀ p, p < 5 → v ≠ 2 ^ p) ∨ ∃ p, p < 5 ∧ v = 2 ^ p ∧ srI v = nI p ∧ ∀ q, q < p → v ≠ 2 ^ q := by decide +kernel
theorem sureM_eq {h : Hp} {v i : Nat} (hi : i < 4) (hv : v < 32) (e65 : h.1 65 0 i = nI v) : fX12_sure (nI i) h = some (srI v, h) := by
  apply wp_same
  unfold fX12_sure
  have r65 : ra h 65 0 (nI i) = nI v := by rw [ra_n (by omega)]; exact e65
  refine wp_for1 5 (fun p h' => h' = h ∧ ∀ q, q < p → v ≠ 2 ^ q) ?_ ?_ FU h (i0 := 0) (by omega) (FUb (by decide)) ⟨rfl, fun q hq => absurd hq (Nat.not_lt_zero _)⟩
  · rintro p h1 rec hp ⟨rfl, hq⟩ hrec
    unfold fX12_sure_l2
    rw [if_neg (show ¬ (5 : Int32) ≤ nI p from fun q => nI_ge hp (by decide) q), ck_p (ib_nI hi (by decide)), r65]
    by_cases g : v = 2 ^ p
    · rw [if_pos ((srI_loop v hv p hp).mpr g)]
      refine wp_some ⟨?_, rfl⟩
      rcases srI_val v hv with ⟨-, w⟩ | ⟨p', hp', e1, e2, e3⟩
      · exact absurd g (w p hp)
      · have : p = p' := by
          rcases Nat.lt_trichotomy p p' with w | w | w
          · exact absurd g (e3 p w)
          · exact w
          · exact absurd e1 (hq p' w)
        rw [e2, this]
    · rw [if_neg (fun w => g ((srI_loop v hv p hp).mp w)), lt_eq, nI_1]
      exact hrec _ ⟨rfl, fun q hq' => by
        rcases Nat.lt_or_ge q p with w | w
        · exact hq q w
        · have : q = p := by omega
          rw [this]; exact g⟩
  · rintro h1 rec ⟨rfl, hq⟩
    unfold fX12_sure_l2
    rw [if_pos (show (5 : Int32) ≤ nI 5 by decide)]
    refine wp_some ⟨?_, rfl⟩
    rcases srI_val v hv with ⟨w, -⟩ | ⟨p', hp', e1, -⟩
    · exact w.symm
    · exact absurd e1 (hq p' hp')
theorem sureA_eq {h : Hp} {r n i : Nat} {a : Int32} {A : AR} (hi : i < 4) (hA : VA n r A) (mr : MR h r n a A) : fX12_sure (nI i) h = some (suA r i A, h) := by
  obtain ⟨d0, d1, d2, d3, d4, d5, d6, d7⟩ := mr
  unfold suA
  by_cases g : i < r
  · rw [sureM_eq hi (vvN_lt A hA i g).1 (d5 i g), if_pos g]
    by_cases h0 : A.length = 0
    · have : A = [] := List.eq_nil_of_length_eq_zero h0
      subst this
      rw [if_pos h0]; rfl
    · rw [if_neg h0]
  · rw [sureM_eq (v := 0) hi (by decide) (d6 i (by omega) hi), if_neg g]
    by_cases h0 : A.length = 0
    · rw [if_pos h0]; rfl
    · rw [if_neg h0]; rfl
theorem rowsC {h : Hp} {j jj sp st n r m : Nat} {pl li le sd pt bt : Nat → Nat} (k : Int32) (hj : j < 8) (hjj : jj < 8) (hv : SV sp st n pl li le) (hc : CSt h j sp st n pl li le) (hg : GV r m sd pt bt) (hl : CLg h jj r m sd pt bt) : ∃ h', fX6_tally j jj k h = some ((), h') ∧ CR h' r n (askN r k (foldA n sp st r m pl li le sd pt bt n (n ^ r))) (foldA n sp st r m pl li le sd pt bt n (n ^ r)) ∧ h'.1 4 0 9 = nI r ∧ h'.1 6 j 2 = nI n := by
  obtain ⟨u, h', e, q⟩ := tally_wp k hj hjj hv hc hg hl
  exact ⟨h', e, q⟩
theorem rowsM {h : Hp} {j jj c0 c2 sp st n r m : Nat} {pl li le sd pt bt : Nat → Nat} (k : Int32) (e0 : h.1 47 0 0 = nI c0) (v0 : c0 ≤ 2) (hj : j < c0) (e2 : h.1 47 0 2 = nI c2) (v2 : c2 ≤ 2) (hjj : jj < c2) (hv : SV sp st n pl li le) (hm : MSt h j sp st n pl li le) (hg : GV r m sd pt bt) (hl : MLg h jj r m sd pt bt) : ∃ hL hB, fX12_hasLog (nI jj) h = some (1, hL) ∧ fX12_hand (nI j) hL = some (1, hB) ∧ MLS hB j jj sp st n r m pl li le sd pt bt ∧ hB.1 10 0 22 = nI n := by
  obtain ⟨rH, hH, eH, rfl, mH, h21, frH⟩ := hand_yes (h := wr h 10 0 52 (nI jj)) e0 v0 hj hv.2.2.2.1 hm
  refine ⟨_, hH, hasLog_yes e2 v2 hjj, eH, ⟨h21, ⟨(frH.cell 48 0 rfl _).trans hm.1, (frH.cell 48 0 rfl _).trans hm.2.1, (frH.cell 48 0 rfl _).trans hm.2.2.1, fun p hp => ?_⟩, (frH.at 10 0 52 rfl).trans rfl, (frH.cell 50 0 rfl _).trans hl.1, (frH.cell 50 0 rfl _).trans hl.2.1, fun k hk => ?_⟩, mH.1⟩
  · rw [frH.cell 48 0 rfl, frH.cell 48 0 rfl, frH.cell 48 0 rfl]; exact hm.2.2.2 p hp
  · rw [frH.cell 50 0 rfl, frH.cell 50 0 rfl, frH.cell 50 0 rfl]; exact hl.2.2 k hk
theorem rowsM_no {h : Hp} {a b : Int32} {c0 c2 : Nat} {z : Int32} (e0 : h.1 47 0 0 = nI c0) (v0 : c0 ≤ 2) (e2 : h.1 47 0 2 = nI c2) (v2 : c2 ≤ 2) (hn : (a < 0 ∨ nI c0 ≤ a) ∨ (b < 0 ∨ nI c2 ≤ b)) (f : Hp → Option (Int32 × Hp)) : ∃ h', (bnd (fX12_hasLog b h) fun x3 h2 => if x3 = 0 then (some (z, h2)) else (bnd (fX12_hand a h2) fun x5 h4 => if x5 = 0 then (some (z, h4)) else f h4)) = some (z, h') := by
  rcases int_cases b c2 (by omega) with hb | ⟨jj, hjj, rfl⟩
  · rw [hasLog_no e2 v2 hb, bnd_eq, if_pos rfl]
    exact ⟨_, rfl⟩
  · rw [hasLog_yes e2 v2 hjj, bnd_eq, if_neg ne10]
    have ha : a < 0 ∨ nI c0 ≤ a := hn.resolve_right (in_no hjj (by omega))
    rw [hand_no (h := wr h 10 0 52 (nI jj)) e0 v0 ha, bnd_eq, if_pos rfl]
    exact ⟨_, rfl⟩
theorem st_fits {KI : Hp → Prop} (hKI : KStab KI) : Stp_fits (Rel KI) := by
  intro a b w
  refine stp_q hKI (frX11_fits a b w) (frX12_fits a b w) rfl rfl rfl rfl (fun hC hM hR => ?_)
  obtain ⟨⟨-, -, -, -, c0, c1, c2, ⟨v0, v1, v2⟩, ⟨e0, e1, e2⟩, ⟨m0, m1, m2⟩, hSt, -, hLg⟩, -⟩ := hR
  have m0' : (wr hM 10 0 0 0).1 47 0 0 = nI c0 := m0
  have m2' : (wr hM 10 0 0 0).1 47 0 2 = nI c2 := m2
  have noC : (a < 0 ∨ nI c0 ≤ a) ∨ (b < 0 ∨ nI c2 ≤ b) → fX11_fits a b w hC = some (-2, hC) := by
    intro hno
    unfold fX11_fits
    rcases int_cases a c0 (by omega) with ha | ⟨j, hj, rfl⟩
    · rw [stageAt_no e0 ha, bnd_eq]
      rcases int_cases b c2 (by omega) with hb | ⟨jj, hjj, rfl⟩
      · rw [logAt_no e2 hb]; rfl
      · rw [logAt_yes e2 hjj v2]; rfl
    · have hb := hno.resolve_left (in_no hj (by omega))
      rw [stageAt_yes e0 hj v0, bnd_eq, logAt_no e2 hb]; rfl
  by_cases hno : (a < 0 ∨ nI c0 ≤ a) ∨ (b < 0 ∨ nI c2 ≤ b)
  · obtain ⟨h', e⟩ := rowsM_no (h := wr hM 10 0 0 0) (z := -2) m0' v0 m2' v2 hno (fun h4 => bnd (fX12_findRows (w - (10 : Int32)) h4) fun _ h6 =>
      if w < 10 then (bnd (fX12_in w 2 5 h6) fun x8 h7 =>
      if x8 = 0 then (if w = 0 then (some (rd h7 10 0 53, h7))
      else (if w = 1 then (bnd (fX12_askWhat h7) fun x10 h9 =>
      some (x10, h9))
      else (some ((-2), h7))))
      else (bnd (fX12_sure (w - (2 : Int32)) h7) fun x12 h11 =>
      some (x12, h11)))
      else (some (rd h6 10 0 54, h6)))
    exact ⟨-2, hC, h', noC hno, e⟩
  · obtain ⟨j, hj, rfl⟩ := (int_cases a c0 (by omega)).resolve_left (fun q => hno (Or.inl q))
    obtain ⟨jj, hjj, rfl⟩ := (int_cases b c2 (by omega)).resolve_left (fun q => hno (Or.inr q))
    obtain ⟨sp, st, n, pl, li, le, hv, hcs, hms⟩ := hSt j hj
    obtain ⟨r, m, sd, pt, bt, hg, hcl, hml⟩ := hLg jj hjj
    rw [Nat.mul_zero, Nat.zero_add] at hcs hms hcl hml
    have hn := hv.2.2.2.1
    have hr : r ≤ 4 := hg.1
    obtain ⟨hL, hB, eL, eB, ml, e22⟩ := rowsM (h := wr hM 10 0 0 0) (w - 10) m0' v0 hj m2' v2 hjj hv hms hg hml
    obtain ⟨u, hF, eF, mr, f22⟩ := findRows_wp (w - 10) (by omega) (by omega) hv hg ml e22
    obtain ⟨hT, eT, cr, t9, t62⟩ := rowsC (w - 10) (by omega) (by omega) hv hcs hg hcl
    rw [foldA_eq hn hr] at mr
    have hlen : (foldA n sp st r m pl li le sd pt bt n (n ^ r)).length ≤ 1000 := Nat.le_trans (foldA_len _) (Nat.le_trans (pow_small n hn r hr) (by decide))
    have hVA : VA n r (foldA n sp st r m pl li le sd pt bt n (n ^ r)) := by
      rw [← foldA_eq hn hr]; exact foldA_VA hv hr (by decide) (Or.inl (by decide)) _
    generalize foldA n sp st r m pl li le sd pt bt n (n ^ r) = A at mr cr hlen hVA
    have uM : fX12_fits (nI j) (nI jj) w hM = (if w < 10 then (bnd (fX12_in w 2 5 hF) fun x8 h7 =>
        if x8 = 0 then (if w = 0 then (some (rd h7 10 0 53, h7))
        else (if w = 1 then (bnd (fX12_askWhat h7) fun x10 h9 => some (x10, h9))
        else (some ((-2), h7))))
        else (bnd (fX12_sure (w - (2 : Int32)) h7) fun x12 h11 => some (x12, h11)))
        else (some (rd hF 10 0 54, hF))) := by
      unfold fX12_fits
      rw [lt_eq, eL, bnd_eq, if_neg ne10, eB, bnd_eq, if_neg ne10, eF, bnd_eq]
    have r53 : rd hF 10 0 53 = nI A.length := mr.1
    have r54 : rd hF 10 0 54 = askN r (w - 10) A := mr.2.1
    rw [in_eq, bnd_eq, r53, r54, askWhat_eq hn hlen f22 mr, bnd_eq] at uM
    have uC : fX11_fits (nI j) (nI jj) w hC = (if (0 : Int32) ≤ w then (jn (κ := Hp → Option (Int32 × Hp)) (fun h8 => bnd (fX6_tally j jj (w - (10 : Int32)) h8) fun _ h9 =>
        if w = 0 then (some (rd h9 4 0 0, h9))
        else (if w = 1 then (bnd (fX6_bestQuestion (rd h9 6 j 2) h9) fun x11 h10 => some (x11, h10))
        else (if (10 : Int32) ≤ w then (some (rd h9 4 0 1, h9))
        else (bnd (fX6_sureRun (w - (2 : Int32)) h9) fun x13 h12 => some (x13, h12))))) fun k51_6 =>
        if w ≤ 5 then (k51_6 hC)
        else (if (10 : Int32) ≤ w then (k51_6 hC)
        else (some ((-2), hC))))
        else (some ((-2), hC))) := by
      unfold fX11_fits
      rw [stageAt_yes e0 hj v0, bnd_eq, logAt_yes e2 hjj v2, bnd_eq, nl_s, nl_s]
    have r0 : rd hT 4 0 0 = nI A.length := cr.1
    have r1 : rd hT 4 0 1 = askN r (w - 10) A := cr.2.1
    have r62 : rd hT 6 j 2 = nI n := by show hT.1 6 (j % 12) 2 = _; rw [Nat.mod_eq_of_lt (by omega)]; exact t62
    rw [jn_eq] at uC
    dsimp only at uC
    rw [eT, bnd_eq, r0, r1, r62, bestQuestion_eq hn hlen cr, bnd_eq] at uC
    by_cases hw : w < 0
    · have n0 : ¬ w = 0 := fun q => by rw [q] at hw; exact absurd hw (by decide)
      have n1 : ¬ w = 1 := fun q => by rw [q] at hw; exact absurd hw (by decide)
      rw [if_pos (show w < 10 from Int32.lt_trans hw (by decide)), if_pos (Or.inl (Int32.lt_trans hw (by decide))), if_pos rfl, if_neg n0, if_neg n1] at uM
      rw [if_neg (fun z => by
        have z1 := Int32.lt_iff_toInt_lt.mp hw
        have z2 := Int32.le_iff_toInt_le.mp z
        omega)] at uC
      exact ⟨_, _, _, uC, uM⟩
    · obtain ⟨x, hx, rfl⟩ := nI_of hw
      rw [if_pos (show (0 : Int32) ≤ nI x from nI_le (a := 0) (by omega) hx)] at uC
      have q10 : ((10 : Int32) ≤ nI x) ↔ 10 ≤ x := nI_leI (by decide) hx
      have q10' : (nI x < (10 : Int32)) ↔ x < 10 := lt_n (b := 10) hx (by decide)
      have q5 : (nI x ≤ (5 : Int32)) ↔ x ≤ 5 := le_n (b := 5) hx (by decide)
      have q2 : (nI x < (2 : Int32)) ↔ x < 2 := lt_n (b := 2) hx (by decide)
      have q5' : ((5 : Int32) < nI x) ↔ 5 < x := lt_n (a := 5) (by decide) hx
      have z0 : (nI x = 0) ↔ x = 0 := eq_n (b := 0) hx (by decide)
      have z1 : (nI x = 1) ↔ x = 1 := eq_n (b := 1) hx (by decide)
      by_cases g10 : 10 ≤ x
      · rw [if_neg (fun q => by have := q10'.mp q; omega)] at uM
        rw [if_neg (fun q => by have := q5.mp q; omega), if_pos (q10.mpr g10), if_neg (fun q => by have := z0.mp q; omega), if_neg (fun q => by have := z1.mp q; omega), if_pos (q10.mpr g10)] at uC
        exact ⟨_, _, _, uC, uM⟩
      · rw [if_pos (q10'.mpr (by omega))] at uM
        by_cases g5 : x ≤ 5
        · rw [if_pos (q5.mpr g5)] at uC
          by_cases g2 : x < 2
          · rw [if_pos (Or.inl (q2.mpr g2)), if_pos rfl] at uM
            rcases (show x = 0 ∨ x = 1 by omega) with rfl | rfl
            · rw [if_pos (show nI 0 = 0 from rfl)] at uM uC
              exact ⟨_, _, _, uC, uM⟩
            · rw [if_neg (show ¬ nI 1 = 0 by decide), if_pos (show nI 1 = 1 from rfl)] at uM uC
              exact ⟨_, _, _, uC, uM⟩
          · have es : nI x - (2 : Int32) = nI (x - 2) := nI_sub (b := 2) (by omega)
            rw [if_neg (show ¬ (nI x < 2 ∨ (5 : Int32) < nI x) from fun q => q.elim (fun q => g2 (q2.mp q)) (fun q => by have := q5'.mp q; omega)), if_neg ne10, es, sureA_eq (by omega) hVA mr, bnd_eq] at uM
            rw [if_neg (fun q => by have := z0.mp q; omega), if_neg (fun q => by have := z1.mp q; omega), if_neg (fun q => g10 (q10.mp q)), es, sureRun_eq hr hlen (by omega) t9 cr, bnd_eq] at uC
            exact ⟨_, _, _, uC, uM⟩
        · rw [if_pos (Or.inr (q5'.mpr (by omega))), if_pos rfl, if_neg (fun q => by have := z0.mp q; omega), if_neg (fun q => by have := z1.mp q; omega)] at uM
          rw [if_neg (fun q => g5 (q5.mp q)), if_neg (fun q => g10 (q10.mp q))] at uC
          exact ⟨_, _, _, uC, uM⟩
theorem st_least {KI : Hp → Prop} (hKI : KStab KI) : Stp_least (Rel KI) := by
  intro a b w
  refine stp_q hKI (frX11_least a b w) (frX12_least a b w) rfl rfl rfl rfl (fun hC hM hR => ?_)
  obtain ⟨⟨-, -, -, -, c0, c1, c2, ⟨v0, v1, v2⟩, ⟨e0, e1, e2⟩, ⟨m0, m1, m2⟩, hSt, -, hLg⟩, -⟩ := hR
  have m0' : (wr hM 10 0 0 0).1 47 0 0 = nI c0 := m0
  have m2' : (wr hM 10 0 0 0).1 47 0 2 = nI c2 := m2
  by_cases hno : (a < 0 ∨ nI c0 ≤ a) ∨ (b < 0 ∨ nI c2 ≤ b)
  · obtain ⟨h', e⟩ := rowsM_no (h := wr hM 10 0 0 0) (z := -1) m0' v0 m2' v2 hno (fun h4 => bnd (fX12_in w 0 2 h4) fun x7 h6 =>
      if x7 = 0 then (some ((-1), h6))
      else (bnd (fX12_findRows (-1) h6) fun _ h8 =>
      if (rd h8 10 0 53) = 0 then (some ((-1), h8))
      else (if w = 0 then (some (rd h8 10 0 55, h8))
      else (if w = 1 then (some (rd h8 10 0 56, h8))
      else (some (rd h8 10 0 57, h8))))))
    refine ⟨-1, hC, h', ?_, e⟩
    unfold fX11_least
    rcases int_cases a c0 (by omega) with ha | ⟨j, hj, rfl⟩
    · rw [stageAt_no e0 ha, bnd_eq]
      rcases int_cases b c2 (by omega) with hb | ⟨jj, hjj, rfl⟩
      · rw [logAt_no e2 hb]; rfl
      · rw [logAt_yes e2 hjj v2]; rfl
    · have hb := hno.resolve_left (in_no hj (by omega))
      rw [stageAt_yes e0 hj v0, bnd_eq, logAt_no e2 hb]; rfl
  · obtain ⟨j, hj, rfl⟩ := (int_cases a c0 (by omega)).resolve_left (fun q => hno (Or.inl q))
    obtain ⟨jj, hjj, rfl⟩ := (int_cases b c2 (by omega)).resolve_left (fun q => hno (Or.inr q))
    obtain ⟨sp, st, n, pl, li, le, hv, hcs, hms⟩ := hSt j hj
    obtain ⟨r, m, sd, pt, bt, hg, hcl, hml⟩ := hLg jj hjj
    rw [Nat.mul_zero, Nat.zero_add] at hcs hms hcl hml
    have hn := hv.2.2.2.1
    have hr : r ≤ 4 := hg.1
    obtain ⟨hL, hB, eL, eB, ml, e22⟩ := rowsM (h := wr hM 10 0 0 0) (-1) m0' v0 hj m2' v2 hjj hv hms hg hml
    obtain ⟨u, hF, eF, mr, f22⟩ := findRows_wp (-1) (by omega) (by omega) hv hg ml e22
    obtain ⟨hT, eT, cr, t9, t62⟩ := rowsC (-1) (by omega) (by omega) hv hcs hg hcl
    rw [foldA_eq hn hr] at mr
    have hlen : (foldA n sp st r m pl li le sd pt bt n (n ^ r)).length ≤ 1000 := Nat.le_trans (foldA_len _) (Nat.le_trans (pow_small n hn r hr) (by decide))
    generalize foldA n sp st r m pl li le sd pt bt n (n ^ r) = A at mr cr hlen
    have uC : fX11_least (nI j) (nI jj) w hC = (if w = 0 then (some (rd hT 4 0 2, hT)) else if w = 1 then (some (rd hT 4 0 3, hT)) else if w = 2 then (some (rd hT 4 0 4, hT)) else (some ((-1), hT))) := by
      unfold fX11_least
      rw [stageAt_yes e0 hj v0, bnd_eq, logAt_yes e2 hjj v2, bnd_eq, nl_s, nl_s, eT, bnd_eq]
    have uM : fX12_least (nI j) (nI jj) w hM = bnd (fX12_in w 0 2 hB) fun x7 h6 => if x7 = 0 then (some ((-1), h6)) else (bnd (fX12_findRows (-1) h6) fun _ h8 => if (rd h8 10 0 53) = 0 then (some ((-1), h8)) else (if w = 0 then (some (rd h8 10 0 55, h8)) else (if w = 1 then (some (rd h8 10 0 56, h8)) else (some (rd h8 10 0 57, h8))))) := by
      unfold fX12_least
      rw [lt_eq, eL, bnd_eq, if_neg ne10, eB, bnd_eq, if_neg ne10]
    have r2 : rd hT 4 0 2 = (if A.length = 0 then -1 else nI (fewN A)) := cr.2.2.1
    have r3 : rd hT 4 0 3 = (if A.length = 0 then -1 else nI (mosN A)) := cr.2.2.2.1
    have r4 : rd hT 4 0 4 = (if A.length = 0 then -1 else nI (upsN n A)) := cr.2.2.2.2.1
    have s53 : rd hF 10 0 53 = nI A.length := mr.1
    have s55 : rd hF 10 0 55 = (if A.length = 0 then 1000000 else nI (fewN A)) := mr.2.2.1
    have s56 : rd hF 10 0 56 = (if A.length = 0 then -1 else nI (mosN A)) := mr.2.2.2.1
    have s57 : rd hF 10 0 57 = (if A.length = 0 then -1 else nI (upsN n A)) := mr.2.2.2.2.1
    rw [r2, r3, r4] at uC
    rw [in_eq, bnd_eq, eF, bnd_eq, s53, s55, s56, s57] at uM
    have io : (w < 0 ∨ (2 : Int32) < w) ↔ (w < 0 ∨ nI 3 ≤ w) := out_iff2 (c := 2) (by decide)
    rcases int_cases w 3 (by decide) with hw | ⟨x, hx, rfl⟩
    · rw [if_pos (io.mpr hw), if_pos rfl] at uM
      have nw : ∀ k, k < 3 → ¬ w = nI k := fun k hk q => by rw [q] at hw; exact in_no hk (by decide) hw
      rw [if_neg (show ¬ w = 0 from nw 0 (by decide)), if_neg (show ¬ w = 1 from nw 1 (by decide)), if_neg (show ¬ w = 2 from nw 2 (by decide))] at uC
      exact ⟨_, _, _, uC, uM⟩
    · rw [if_neg (fun q => in_no hx (by decide) (io.mp q)), if_neg ne10] at uM
      by_cases h0 : A.length = 0
      · rw [if_pos ((eq0_n (by omega)).mpr h0)] at uM
        rw [if_pos h0, if_pos h0, if_pos h0] at uC
        refine ⟨-1, hT, hF, ?_, uM⟩
        rw [uC]
        rcases (show x = 0 ∨ x = 1 ∨ x = 2 by omega) with rfl | rfl | rfl <;> rfl
      · rw [if_neg (fun q => h0 ((eq0_n (by omega)).mp q)), if_neg h0, if_neg h0, if_neg h0] at uM
        rw [if_neg h0, if_neg h0, if_neg h0] at uC
        rcases (show x = 0 ∨ x = 1 ∨ x = 2 by omega) with rfl | rfl | rfl
        · exact ⟨_, _, _, uC, uM⟩
        · exact ⟨_, _, _, uC, uM⟩
        · exact ⟨_, _, _, uC, uM⟩
