/-! after() -/
def msN (S : Nat → Nat) : Nat → Nat
  | 0 => 9
  | k + 1 => if (if msN S k = 9 then 0 else S (msN S k)) < S k then k else msN S k
theorem msN_lt (S : Nat → Nat) : ∀ k, msN S k = 9 ∨ msN S k < k := by
  intro k
  induction k with
  | zero => exact Or.inl rfl
  | succ k ih =>
    show (if (if msN S k = 9 then 0 else S (msN S k)) < S k then k else msN S k) = 9 ∨ (if (if msN S k = 9 then 0 else S (msN S k)) < S k then k else msN S k) < k + 1
    by_cases g : (if msN S k = 9 then 0 else S (msN S k)) < S k
    · rw [if_pos g]; right; omega
    · rw [if_neg g]; omega
theorem bI_m1 {b : Nat} (hb : b = 9 ∨ b < 5) : (bI b = -1) ↔ b = 9 := by
  unfold bI
  by_cases h : b = 9
  · rw [if_pos h]; exact ⟨fun _ => h, fun _ => rfl⟩
  · rw [if_neg h]; exact ⟨fun q => absurd q.symm (neg_ne (by omega)), fun q => absurd q h⟩
theorem mostSpun_eq {h : Hp} {n : Nat} {S : Nat → Nat} (hn : n ≤ 5) (e2 : h.1 6 9 2 = nI n) (eS : ∀ p, p < n → S p ≤ 200 ∧ h.1 24 0 p = nI (S p)) : fX4_mostSpun h = some (bI (msN S n), h) := by
  have : WP (fX4_mostSpun h) (fun r h' => r = bI (msN S n) ∧ h' = h) := by
    unfold fX4_mostSpun
    refine wp_for2 n (fun i a h' => a = bI (msN S i) ∧ h' = h) ?_ ?_ FU (-1) h (i0 := 0) (by omega) (FUb (by omega)) ⟨rfl, rfl⟩
    · rintro i a h1 rec hi ⟨rfl, rfl⟩ hrec
      unfold fX4_mostSpun_l4
      have q : rd h1 6 9 2 = nI n := e2
      have r : ra h1 24 0 (nI i) = nI (S i) := by rw [ra_n (by omega)]; exact (eS i hi).2
      have hm := msN_lt S i
      have hSi := (eS i hi).1
      rw [q, if_neg (fun w => nI_ge hi (by omega) w), ck_p (ib_nI (by omega) (by decide)), jn_eq, r]
      have fin : ∀ v, v ≤ 200 → v = (if msN S i = 9 then 0 else S (msN S i)) → WP (jn (κ := Int32 → Hp → Option (Int32 × Hp)) (fun y1_2 h4 => lt (nI i + 1) fun x5 => rec y1_2 x5 h4) fun k41_2 => if nI (S i) ≤ nI v then (k41_2 (bI (msN S i)) h1) else (k41_2 (nI i) h1)) (fun r h' => r = bI (msN S n) ∧ h' = h1) := by
        intro v hv1 hv
        rw [jn_eq]
        by_cases g : v < S i
        · rw [if_neg (fun w => by have := (le_n (by omega) (by omega)).mp w; omega)]
          dsimp only
          rw [lt_eq, nI_1]
          refine hrec _ _ ⟨?_, rfl⟩
          unfold msN
          rw [if_pos (by rw [← hv]; exact g), bIp (by omega)]
        · rw [if_pos (nI_le (by omega) (by omega))]
          dsimp only
          rw [lt_eq, nI_1]
          refine hrec _ _ ⟨?_, rfl⟩
          show _ = bI (if _ then i else msN S i)
          rw [if_neg (by rw [← hv]; exact g)]
      by_cases h9 : msN S i = 9
      · rw [if_pos ((bI_m1 (by omega)).mpr h9)]
        exact fin 0 (by omega) (by rw [if_pos h9])
      · have hlt : msN S i < i := hm.resolve_left h9
        rw [if_neg (fun w => h9 ((bI_m1 (by omega)).mp w)), bIp (by omega), ck_p (ib_nI (by omega) (by decide))]
        have r2 : ra h1 24 0 (nI (msN S i)) = nI (S (msN S i)) := by rw [ra_n (by omega)]; exact (eS _ (by omega)).2
        rw [r2, ← bIp (show msN S i < 5 by omega)]
        exact fin _ (eS _ (by omega)).1 (by rw [if_neg h9])
    · rintro a h1 rec ⟨rfl, rfl⟩
      unfold fX4_mostSpun_l4
      have q : rd h1 6 9 2 = nI n := e2
      rw [q, if_pos (nI_le (Nat.le_refl n) (by omega))]
      exact wp_some ⟨rfl, rfl⟩
  obtain ⟨r, h', e, rfl, rfl⟩ := this
  exact e
theorem afterL_wp {h : Hp} {n : Nat} {S : Nat → Nat} {K : Int32 → Hp → Option (Int32 × Hp)} {P : Int32 → Hp → Prop} (hn : n ≤ 5) (e2 : h.1 10 0 22 = nI n) (eS : ∀ p, p < n → S p ≤ 200 ∧ h.1 56 0 p = nI (S p)) (hK : WP (K (bI (msN S n)) h) P) : WP (itr2 (fX12_after_l91 K) FU (-1) 0 h) P := by
  refine wp_for2 n (fun i a h' => a = bI (msN S i) ∧ h' = h) ?_ ?_ FU (-1) h (i0 := 0) (by omega) (FUb (by omega)) ⟨rfl, rfl⟩
  · rintro i a h1 rec hi ⟨rfl, rfl⟩ hrec
    unfold fX12_after_l91
    have q : rd h1 10 0 22 = nI n := e2
    have r : ra h1 56 0 (nI i) = nI (S i) := by rw [ra_n (by omega)]; exact (eS i hi).2
    have hm := msN_lt S i
    have hSi := (eS i hi).1
    rw [q, if_neg (fun w => nI_ge hi (by omega) w), ck_p (ib_nI (by omega) (by decide)), jn_eq, r]
    have fin : ∀ v, v ≤ 200 → v = (if msN S i = 9 then 0 else S (msN S i)) → WP (jn (κ := Int32 → Hp → Option (Int32 × Hp)) (fun y1_2 h4 => lt (nI i + 1) fun x5 => rec y1_2 x5 h4) fun k41_2 => if nI (S i) ≤ nI v then (k41_2 (bI (msN S i)) h1) else (k41_2 (nI i) h1)) P := by
      intro v hv1 hv
      rw [jn_eq]
      by_cases g : v < S i
      · rw [if_neg (fun w => by have := (le_n (by omega) (by omega)).mp w; omega)]
        dsimp only
        rw [lt_eq, nI_1]
        refine hrec _ _ ⟨?_, rfl⟩
        unfold msN
        rw [if_pos (by rw [← hv]; exact g), bIp (by omega)]
      · rw [if_pos (nI_le (by omega) (by omega))]
        dsimp only
        rw [lt_eq, nI_1]
        refine hrec _ _ ⟨?_, rfl⟩
        show _ = bI (if _ then i else msN S i)
        rw [if_neg (by rw [← hv]; exact g)]
    by_cases h9 : msN S i = 9
    · rw [if_pos ((bI_m1 (by omega)).mpr h9)]
      exact fin 0 (by omega) (by rw [if_pos h9])
    · have hlt : msN S i < i := hm.resolve_left h9
      rw [if_neg (fun w => h9 ((bI_m1 (by omega)).mp w)), bIp (by omega), ck_p (ib_nI (by omega) (by decide))]
      have r2 : ra h1 56 0 (nI (msN S i)) = nI (S (msN S i)) := by rw [ra_n (by omega)]; exact (eS _ (by omega)).2
      rw [r2, ← bIp (show msN S i < 5 by omega)]
      exact fin _ (eS _ (by omega)).1 (by rw [if_neg h9])
  · rintro a h1 rec ⟨rfl, rfl⟩
    unfold fX12_after_l91
    have q : rd h1 10 0 22 = nI n := e2
    rw [q, if_pos (nI_le (Nat.le_refl n) (by omega))]
    exact hK
def afN (n : Nat) (R : Nat × PW × Int32) (w : Int32) : Int32 := if w = 0 then R.2.2 else if w = 1 then nI (R.2.1.2.2.2 4) else if w = 2 then bI (msN R.2.1.2.2.1 n) else if w = 3 then nI (R.2.1.2.2.2 7) else if w = 4 then nI (R.2.1.2.2.2 5) else nI (R.2.1.2.2.2 8)
theorem afterM_wp {h : Hp} {jj n sp m : Nat} {pl kd : Nat → Nat} {pt : Nat → Int32} {x0 : PW} (hjj : jj < 8) (h40 : h.1 10 0 40 = nI jj) (hp : VP n sp pl) (hg : PG n 0 x0 (-1)) (ms : MS h n sp pl x0) (hw : HV m kd pt) (hs : MSh h jj m kd pt) {K : Int32 → Hp → Option (Int32 × Hp)} {P : Int32 → Hp → Prop} (hK : ∀ h', MS h' n sp pl (plyF n sp pl kd (ptN pt) m 0 x0 (-1)).2.1 → VX n (plyF n sp pl kd (ptN pt) m 0 x0 (-1)).2.1 → WP (K (plyF n sp pl kd (ptN pt) m 0 x0 (-1)).2.2 h') P) : WP (itr3 (fX12_after_l35 K) FU (-1) 1 0 h) P := by
  have hm : m ≤ 40 := hw.1
  generalize hR : plyF n sp pl kd (ptN pt) m 0 x0 (-1) = R at hK
  refine wp_itr3 (fun mm a0 a1 a2 h' => (a1 = 1 ∧ ∃ i x, i ≤ m ∧ a2 = nI i ∧ mm = 2 * (m - i) + 1 ∧ MS h' n sp pl x ∧ PG n i x a0 ∧ h'.1 10 0 40 = nI jj ∧ MSh h' jj m kd pt ∧ plyF n sp pl kd (ptN pt) (m - i) i x a0 = R) ∨ (a1 = 0 ∧ mm = 0 ∧ MS h' n sp pl R.2.1 ∧ VX n R.2.1 ∧ a0 = R.2.2)) ?_ FU (2 * m + 1) _ _ _ _ (by have := FU_big; omega) (Or.inl ⟨rfl, 0, x0, Nat.zero_le _, rfl, rfl, ms, hg, h40, hs, hR⟩)
  rintro mm a0 a1 a2 h2 rec hI hrec
  unfold fX12_after_l35
  rcases hI with ⟨rfl, i, x, him, rfl, rfl, mx, pg, h40', hs2, hR2⟩ | ⟨rfl, rfl, mx, vx, rfl⟩
  · rw [if_neg ne10, deeds_eq h40' hjj, bnd_eq, hs2.1]
    by_cases hi : i = m
    · subst hi
      rw [Nat.sub_self] at hR2
      have hR3 : R = (i, x, a0) := hR2.symm
      subst hR3
      rw [if_pos (nI_le (Nat.le_refl _) (by omega))]
      exact hK h2 mx pg.1
    · have hi' : i < m := by omega
      rw [if_neg (fun w => nI_ge hi' (by omega) w)]
      rw [show m - i = (m - (i + 1)) + 1 by omega] at hR2
      unfold plyF at hR2
      refine wp_bnd (wp_mono (doesDeed_wp hjj h40' hp pg.1 mx hw hs2 hi') (fun r h' q => ?_))
      obtain ⟨q1, q2, q3⟩ := q
      rw [jn_eq, jn_eq]
      rcases q1 with ⟨hmay, rfl, mx'⟩ | ⟨hmay, rfl, rfl⟩
      · rw [if_pos hmay] at hR2
        have pg3 := pg.step (p := ptN pt i) hp (by omega) hmay
        have hb2 : (doN n sp pl x (kd i) (ptN pt i)).2.2.2 2 ≤ 5 * 200 + 100 := by
          obtain ⟨-, -, w3, -, -, -, w7, w8⟩ := pg3.1
          omega
        have r31 : rd h' 10 0 31 = nI ((doN n sp pl x (kd i) (ptN pt i)).2.2.2 2) := mx'.2.2.2.2.2.1
        rw [r31]
        have go : ∀ g', g' = (if 0 < (doN n sp pl x (kd i) (ptN pt i)).2.2.2 2 ∧ a0 = -1 then nI i else a0) → WP (rec g' 1 (nI (i + 1)) h') P := by
          rintro g' rfl
          exact hrec (2 * (m - (i + 1)) + 1) _ _ _ _ (by omega) (Or.inl ⟨rfl, i + 1, _, by omega, rfl, rfl, mx', pg3, q2, q3, hR2⟩)
        by_cases hg1 : a0 = -1
        · rw [if_pos hg1]
          by_cases hf : (doN n sp pl x (kd i) (ptN pt i)).2.2.2 2 = 0
          · rw [if_pos ((le0_n (by omega)).mpr hf)]
            dsimp only
            rw [lt_eq, nI_1]
            exact go _ (by rw [if_neg (by omega)])
          · rw [if_neg (fun w => hf ((le0_n (by omega)).mp w))]
            dsimp only
            rw [lt_eq, nI_1]
            exact go _ (by rw [if_pos ⟨by omega, hg1⟩])
        · rw [if_neg hg1]
          dsimp only
          rw [lt_eq, nI_1]
          exact go _ (by rw [if_neg (fun w => hg1 w.2)])
      · rw [if_neg (by rw [hmay]; decide)] at hR2
        subst hR2
        have go : WP (rec a0 0 (nI (i + 1)) h') P := hrec 0 _ _ _ _ (by omega) (Or.inr ⟨rfl, rfl, mx, pg.1, rfl⟩)
        have r31 : rd h' 10 0 31 = nI (x.2.2.2 2) := mx.2.2.2.2.2.1
        rw [r31]
        by_cases hg1 : a0 = -1
        · rw [if_pos hg1, if_pos (by rw [pg.2.2 hg1]; decide)]
          dsimp only
          rw [lt_eq, nI_1]
          exact go
        · rw [if_neg hg1]
          dsimp only
          rw [lt_eq, nI_1]
          exact go
  · rw [if_pos rfl]
    exact hK h2 mx vx
theorem st_after {KI : Hp → Prop} (hKI : KStab KI) : Stp_after (Rel KI) := by
  intro a b w
  refine stp_q hKI (frX11_after a b w) (frX12_after a b w) rfl rfl rfl rfl (fun hC hM hR => ?_)
  obtain ⟨⟨-, -, -, -, c0, c1, c2, ⟨v0, v1, -⟩, ⟨e0, e1, e2⟩, ⟨m0, m1, m2⟩, hSt, hSh, -⟩, -⟩ := hR
  rcases int_cases a c0 (by omega) with ha | ⟨j, hj, rfl⟩
  · obtain ⟨h', e⟩ := layAll_no (h := wr hM 10 0 0 0) (a := a) (b := b) m0 v0 m1 v1 (Or.inl ha)
    refine ⟨-2, hC, h', ?_, ?_⟩
    · unfold fX11_after
      rw [stageAt_no e0 ha, bnd_eq]
      rcases int_cases b c1 (by omega) with hb | ⟨jj, hjj, rfl⟩
      · rw [showAt_no e1 hb]; rfl
      · rw [showAt_yes e1 hjj v1]; rfl
    · unfold fX12_after
      rw [lt_eq, e, bnd_eq, if_pos rfl]
  · rcases int_cases b c1 (by omega) with hb | ⟨jj, hjj, rfl⟩
    · obtain ⟨h', e⟩ := layAll_no (h := wr hM 10 0 0 0) (a := nI j) (b := b) m0 v0 m1 v1 (Or.inr hb)
      refine ⟨-2, hC, h', ?_, ?_⟩
      · unfold fX11_after
        rw [stageAt_yes e0 hj v0, bnd_eq, showAt_no e1 hb]; rfl
      · unfold fX12_after
        rw [lt_eq, e, bnd_eq, if_pos rfl]
    · obtain ⟨sp, st, n, pl, li, le, hv, hcs, hms⟩ := hSt j hj
      obtain ⟨m, kd, pt, hw, hcw, hmw⟩ := hSh jj hjj
      rw [Nat.mul_zero, Nat.zero_add] at hcs hms hcw hmw
      have hn := hv.2.2.2.1
      obtain ⟨rL, hL, eL, rfl, msL, h40, hsL⟩ := layAll_yes (h := wr hM 10 0 0 0) m0 v0 hj m1 v1 hjj hv hms hmw
      obtain ⟨r, hC', eC, -, csC, e8, vC⟩ := play_wp (q := 40) (by omega) (by omega) (by decide) hv hcs hw hcw
      have hmin : min 40 m = m := by have := hw.1; omega
      rw [hmin] at csC e8 vC
      have uC : fX11_after (nI j) (nI jj) w hC = (if w = 0 then (some (rd hC' 2 0 8, hC')) else if w = 1 then (some (rd hC' 2 0 9, hC')) else if w = 2 then (bnd (fX4_mostSpun hC') fun x13 h12 => some (x13, h12)) else if w = 3 then (some (rd hC' 2 0 10, hC')) else if w = 4 then (some (rd hC' 2 0 11, hC')) else if w = 5 then (some (rd hC' 2 0 12, hC')) else (some ((-2), hC'))) := by
        unfold fX11_after
        rw [stageAt_yes e0 hj v0, bnd_eq, showAt_yes e1 hjj v1, bnd_eq, nl_s, nl_s, show fX4_play j jj 40 hC = _ from eC, bnd_eq]
      generalize hR : plyF n sp pl kd (ptN pt) m 0 (iniP n st li le) (-1) = R at csC e8 vC
      have hS : ∀ p, p < n → R.2.1.2.2.1 p ≤ 200 := fun p hp => by
        have := (vC.1 p hp).2.2.2
        have := vC.2.2.1
        omega
      have r8 : rd hC' 2 0 8 = R.2.2 := e8
      have r9 : rd hC' 2 0 9 = nI (R.2.1.2.2.2 4) := csC.2.2.2.2.2.2.2.1
      have r10 : rd hC' 2 0 10 = nI (R.2.1.2.2.2 7) := csC.2.2.2.2.2.2.2.2.2.2.1
      have r11 : rd hC' 2 0 11 = nI (R.2.1.2.2.2 5) := csC.2.2.2.2.2.2.2.2.1
      have r12 : rd hC' 2 0 12 = nI (R.2.1.2.2.2 8) := csC.2.2.2.2.2.2.2.2.2.2.2
      rw [r8, r9, r10, r11, r12, mostSpun_eq hn csC.2.1 (fun p hp => ⟨hS p hp, (csC.2.2.1 p hp).2.2.2⟩), bnd_eq] at uC
      have uM : fX12_after (nI j) (nI jj) w hM = bnd (fX12_in w 0 5 hL) fun x5 h4 => if x5 = 0 then (some ((-2), h4)) else (itr3 (fX12_after_l35 (fun y15 h16 => itr2 (fX12_after_l91 (fun y22 h23 => if w = 0 then (some (y15, h23)) else if w = 1 then (some (rd h23 10 0 33, h23)) else if w = 2 then (some (y22, h23)) else if w = 3 then (some (rd h23 10 0 36, h23)) else if w = 4 then (some (rd h23 10 0 34, h23)) else (some (rd h23 10 0 37, h23)))) FU (-1) 0 h16)) FU (-1) 1 0 h4) := by
        unfold fX12_after
        rw [lt_eq, eL, bnd_eq, if_neg ne10]
      rw [in_eq, bnd_eq] at uM
      rcases int_cases w 6 (by decide) with hw6 | ⟨ww, hww, rfl⟩
      · have hout : w < 0 ∨ (5 : Int32) < w := by
          rcases hw6 with q | q
          · exact Or.inl q
          · right
            rw [Int32.lt_iff_toInt_lt]
            have := Int32.le_iff_toInt_le.mp q
            have e6 : (nI 6).toInt = 6 := rfl
            show (5 : Int) < _
            omega
        rw [if_pos hout, if_pos rfl] at uM
        have nw : ∀ k, k < 6 → ¬ w = nI k := fun k hk q => by rw [q] at hw6; exact in_no hk (by decide) hw6
        rw [if_neg (show ¬ w = 0 from nw 0 (by decide)), if_neg (show ¬ w = 1 from nw 1 (by decide)), if_neg (show ¬ w = 2 from nw 2 (by decide)), if_neg (show ¬ w = 3 from nw 3 (by decide)), if_neg (show ¬ w = 4 from nw 4 (by decide)), if_neg (show ¬ w = 5 from nw 5 (by decide))] at uC
        exact ⟨_, _, _, uC, uM⟩
      · rw [if_neg (show ¬ (nI ww < 0 ∨ (5 : Int32) < nI ww) from fun q => q.elim (fun q => in_no hww (by decide) (Or.inl q)) (fun q => by have := (lt_n (a := 5) (by decide) (by omega)).mp q; omega)), if_neg ne10] at uM
        have main : WP (fX12_after (nI j) (nI jj) (nI ww) hM) (fun r _ => r = afN n R (nI ww)) := by
          rw [uM]
          refine afterM_wp (by omega) h40 hv.vp ⟨iniP_VX hv, Nat.zero_le _, fun _ => rfl⟩ msL hw hsL (fun h' mx vx => ?_)
          rw [hR] at mx vx ⊢
          refine afterL_wp hn mx.2.1 (fun p hp => ⟨hS p hp, (mx.2.2.1 p hp).2.2.2⟩) ?_
          have q33 : rd h' 10 0 33 = nI (R.2.1.2.2.2 4) := mx.2.2.2.2.2.2.2.1
          have q36 : rd h' 10 0 36 = nI (R.2.1.2.2.2 7) := mx.2.2.2.2.2.2.2.2.2.2.1
          have q34 : rd h' 10 0 34 = nI (R.2.1.2.2.2 5) := mx.2.2.2.2.2.2.2.2.1
          have q37 : rd h' 10 0 37 = nI (R.2.1.2.2.2 8) := mx.2.2.2.2.2.2.2.2.2.2.2.1
          rw [q33, q36, q34, q37]
          unfold afN
          repeat' refine wp_if (fun hc => ?_) (fun hc => ?_)
          · rw [if_pos hc]; exact wp_some rfl
          · rename_i h0
            rw [if_neg h0, if_pos hc]; exact wp_some rfl
          · rename_i h0 h1
            rw [if_neg h0, if_neg h1, if_pos hc]; exact wp_some rfl
          · rename_i h0 h1 h2
            rw [if_neg h0, if_neg h1, if_neg h2, if_pos hc]; exact wp_some rfl
          · rename_i h0 h1 h2 h3
            rw [if_neg h0, if_neg h1, if_neg h2, if_neg h3, if_pos hc]; exact wp_some rfl
          · rename_i h0 h1 h2 h3
            rw [if_neg h0, if_neg h1, if_neg h2, if_neg h3, if_neg hc]; exact wp_some rfl
        obtain ⟨r', hM', eM, rfl⟩ := main
        refine ⟨_, hC', hM', ?_, eM⟩
        rw [uC]
        unfold afN
        rcases (show ww = 0 ∨ ww = 1 ∨ ww = 2 ∨ ww = 3 ∨ ww = 4 ∨ ww = 5 by omega) with rfl | rfl | rfl | rfl | rfl | rfl <;> rfl
