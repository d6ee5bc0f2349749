/-! shows played -/
def plyF (n sp : Nat) (pl kd pt : Nat → Nat) : Nat → Nat → PW → Int32 → Nat × PW × Int32
  | 0, k, x, g => (k, x, g)
  | f + 1, k, x, g => if mayB n sp pl x (kd k) (pt k) = true then plyF n sp pl kd pt f (k + 1) (doN n sp pl x (kd k) (pt k)) (if 0 < (doN n sp pl x (kd k) (pt k)).2.2.2 2 ∧ g = -1 then nI k else g) else (k, x, g)
theorem plyF_le {n sp : Nat} {pl kd pt : Nat → Nat} : ∀ f k x g, (plyF n sp pl kd pt f k x g).1 ≤ k + f := by
  intro f
  induction f with
  | zero => intro k x g; exact Nat.le_refl _
  | succ f ih =>
    intro k x g
    unfold plyF
    split
    · exact Nat.le_trans (ih _ _ _) (by omega)
    · show k ≤ _; omega
def ptN (pt : Nat → Int32) : Nat → Nat := fun k => (pt k).toNatClampNeg
theorem HV.at {m : Nat} {kd : Nat → Nat} {pt : Nat → Int32} (hv : HV m kd pt) {k : Nat} (hk : k < m) : kd k ≤ 4 ∧ (kd k = 0 ∨ (pt k = nI (ptN pt k) ∧ ptN pt k < 5)) := by
  rcases hv.2 k hk with ⟨h1, h2⟩ | ⟨h1, h2, q, hq, e⟩
  · exact ⟨by omega, Or.inl h1⟩
  · refine ⟨h2, Or.inr ?_⟩
    have : ptN pt k = q := by unfold ptN; rw [e, nI_clamp (by omega)]
    rw [this]; exact ⟨e, hq⟩
def PG (n k : Nat) (x : PW) (g : Int32) : Prop := VX n x ∧ x.2.2.2 9 ≤ k ∧ (g = -1 → x.2.2.2 2 = 0)
theorem PG.step {n sp k kd p : Nat} {pl : Nat → Nat} {x : PW} {g : Int32} (hp : VP n sp pl) (h : PG n k x g) (hk : k < 100) (hm : mayB n sp pl x kd p = true) : PG n (k + 1) (doN n sp pl x kd p) (if 0 < (doN n sp pl x kd p).2.2.2 2 ∧ g = -1 then nI k else g) := by
  obtain ⟨h1, h2, h3⟩ := h
  have h9 := doN_c9 n sp pl x kd p
  refine ⟨doN_VX hp h1 (by omega) hm, by omega, fun hg => ?_⟩
  by_cases q : 0 < (doN n sp pl x kd p).2.2.2 2 ∧ g = -1
  · rw [if_pos q] at hg
    exact absurd hg.symm (neg_ne (by omega))
  · rw [if_neg q] at hg
    have : ¬ 0 < (doN n sp pl x kd p).2.2.2 2 := fun w => q ⟨w, hg⟩
    omega
theorem play_wp {h : Hp} {j jj sp st n m q : Nat} {pl li le kd : Nat → Nat} {pt : Nat → Int32} (hj : j < 8) (hjj : jj < 8) (hq : q < 2 ^ 31) (hv : SV sp st n pl li le) (hc : CSt h j sp st n pl li le) (hw : HV m kd pt) (hs : CSh h jj m kd pt) : WP (fX4_play j jj (nI q) h) (fun r h' => r = nI (plyF n sp pl kd (ptN pt) (min q m) 0 (iniP n st li le) (-1)).1 ∧ CS h' n sp pl (plyF n sp pl kd (ptN pt) (min q m) 0 (iniP n st li le) (-1)).2.1 ∧ h'.1 2 0 8 = (plyF n sp pl kd (ptN pt) (min q m) 0 (iniP n st li le) (-1)).2.2 ∧ VX n (plyF n sp pl kd (ptN pt) (min q m) 0 (iniP n st li le) (-1)).2.1) := by
  have hp := hv.vp
  have hm : m ≤ 40 := hw.1
  unfold fX4_play
  refine wp_bnd (wp_mono (wp_fr (begin_wp (by omega) hv hc) (frX4_begin j h)) (fun _ h1 q1 => ?_))
  obtain ⟨⟨cs, e8⟩, fr⟩ := q1
  have hs1 : CSh h1 jj m kd pt := by
    refine ⟨(fr.cell 5 jj rfl 0).trans hs.1, fun k hk => ?_⟩
    rw [fr.cell 31 jj rfl k, fr.cell 32 jj rfl k]; exact hs.2 k hk
  generalize hR : plyF n sp pl kd (ptN pt) (min q m) 0 (iniP n st li le) (-1) = R
  refine wp_for1 (min q m) (fun i h' => ∃ x g, CS h' n sp pl x ∧ h'.1 2 0 8 = g ∧ PG n i x g ∧ CSh h' jj m kd pt ∧ plyF n sp pl kd (ptN pt) (min q m - i) i x g = R) ?_ ?_ FU h1 (i0 := 0) (by omega) (FUb (by omega)) ⟨_, _, cs, e8, ⟨iniP_VX hv, Nat.zero_le _, fun _ => rfl⟩, hs1, hR⟩
  · rintro i h2 rec hi ⟨x, g, cx, eg, pg, hs2, hR2⟩ hrec
    have him : i < m := by omega
    unfold fX4_play_l8
    rw [if_neg (fun w => nI_ge (show i < q by omega) (by omega) w), has7_eq (by omega) hs2.1, bnd_eq, if_neg (in_no him (by omega)), if_neg ne10]
    have hib : ib (nI i) 40 = true := ib_nI (by omega) (by decide)
    have r31 : ra h2 31 jj (nI i) = nI (kd i) := by rw [ra_n (by omega), show jj % cnt 31 = jj from Nat.mod_eq_of_lt (show jj < 9 by omega)]; exact (hs2.2 i him).1
    have r32 : ra h2 32 jj (nI i) = pt i := by rw [ra_n (by omega), show jj % cnt 32 = jj from Nat.mod_eq_of_lt (show jj < 9 by omega)]; exact (hs2.2 i him).2
    obtain ⟨k4, kP⟩ := hw.at him
    rw [ck_p hib, ck_p hib, r31, r32, may_eq hp pg.1 cx k4 kP, bnd_eq]
    rw [show min q m - i = (min q m - (i + 1)) + 1 by omega] at hR2
    unfold plyF at hR2
    by_cases hmay : mayB n sp pl x (kd i) (ptN pt i) = true
    · rw [if_pos hmay] at hR2
      rw [if_pos hmay, if_neg ne10, ck_p hib, ck_p hib, r31, r32]
      refine wp_bnd (wp_mono (wp_fr (perform_wp hp pg.1 cx k4 kP hmay) (frX4_perform _ _ h2)) (fun _ h3 q3 => ?_))
      obtain ⟨cx3, fr3⟩ := q3
      have hs3 : CSh h3 jj m kd pt := by
        refine ⟨(fr3.cell 5 jj rfl 0).trans hs2.1, fun k hk => ?_⟩
        rw [fr3.cell 31 jj rfl k, fr3.cell 32 jj rfl k]; exact hs2.2 k hk
      have e83 : h3.1 2 0 8 = g := (fr3.at 2 0 8 rfl).trans eg
      have pg3 := pg.step (p := ptN pt i) hp (by omega) hmay
      have hb2 : (doN n sp pl x (kd i) (ptN pt i)).2.2.2 2 ≤ 5 * 200 + 100 := by
        have := pg3.1
        obtain ⟨-, -, w3, -, -, -, w7, w8⟩ := this
        omega
      have r4 : rd h3 2 0 4 = nI ((doN n sp pl x (kd i) (ptN pt i)).2.2.2 2) := cx3.2.2.2.2.2.1
      have r8 : rd h3 2 0 8 = g := e83
      rw [jn_eq, r4, r8]
      by_cases hf : (doN n sp pl x (kd i) (ptN pt i)).2.2.2 2 = 0
      · rw [if_pos ((le0_n (by omega)).mpr hf)]
        dsimp only
        rw [lt_eq, nI_1]
        rw [if_neg (show ¬ (0 < (doN n sp pl x (kd i) (ptN pt i)).2.2.2 2 ∧ g = -1) by omega)] at hR2 pg3
        exact hrec _ ⟨_, _, cx3, e83, pg3, hs3, hR2⟩
      · rw [if_neg (fun w => hf ((le0_n (by omega)).mp w))]
        by_cases hg : g = -1
        · rw [if_pos hg, lt_eq]
          dsimp only
          rw [lt_eq, nI_1]
          rw [if_pos (show 0 < (doN n sp pl x (kd i) (ptN pt i)).2.2.2 2 ∧ g = -1 from ⟨by omega, hg⟩)] at hR2 pg3
          exact hrec _ ⟨_, _, cx3, rfl, pg3, hs3, hR2⟩
        · rw [if_neg hg]
          dsimp only
          rw [lt_eq, nI_1]
          rw [if_neg (show ¬ (0 < (doN n sp pl x (kd i) (ptN pt i)).2.2.2 2 ∧ g = -1) from fun w => hg w.2)] at hR2 pg3
          exact hrec _ ⟨_, _, cx3, e83, pg3, hs3, hR2⟩
    · rw [if_neg hmay] at hR2
      rw [if_neg hmay, if_pos rfl]
      subst hR2
      exact wp_some ⟨rfl, cx, eg, pg.1⟩
  · rintro h2 rec ⟨x, g, cx, eg, pg, hs2, hR2⟩
    rw [Nat.sub_self] at hR2
    have hR3 : R = (min q m, x, g) := hR2.symm
    subst hR3
    unfold fX4_play_l8
    by_cases hqm : q ≤ min q m
    · rw [if_pos (nI_le hqm (by omega))]
      exact wp_some ⟨rfl, cx, eg, pg.1⟩
    · rw [if_neg (fun w => hqm ((le_n hq (by omega)).mp w)), has7_eq (by omega) hs2.1, bnd_eq, if_pos (Or.inr (nI_le (show m ≤ min q m by omega) (by omega))), if_pos rfl]
      exact wp_some ⟨rfl, cx, eg, pg.1⟩
theorem doesDeed_wp {h : Hp} {jj n sp m k : Nat} {pl kd : Nat → Nat} {pt : Nat → Int32} {x : PW} (hjj : jj < 8) (h40 : h.1 10 0 40 = nI jj) (hp : VP n sp pl) (hx : VX n x) (ms : MS h n sp pl x) (hw : HV m kd pt) (hs : MSh h jj m kd pt) (hk : k < m) : WP (fX12_doesDeed (nI k) h) (fun r h' => ((mayB n sp pl x (kd k) (ptN pt k) = true ∧ r = 1 ∧ MS h' n sp pl (doN n sp pl x (kd k) (ptN pt k))) ∨ (mayB n sp pl x (kd k) (ptN pt k) = false ∧ r = 0 ∧ h' = h)) ∧ h'.1 10 0 40 = nI jj ∧ MSh h' jj m kd pt) := by
  have hm : m ≤ 40 := hw.1
  have main : WP (fX12_doesDeed (nI k) h) (fun r h' => ((mayB n sp pl x (kd k) (ptN pt k) = true ∧ r = 1 ∧ MS h' n sp pl (doN n sp pl x (kd k) (ptN pt k))) ∨ (mayB n sp pl x (kd k) (ptN pt k) = false ∧ r = 0 ∧ h' = h))) := by
    unfold fX12_doesDeed
    obtain ⟨k4, kP⟩ := hw.at hk
    rw [show (0 : Int32) = nI 0 from rfl, deedOf_eq h40 hjj (by omega) (by decide), bnd_eq, show (1 : Int32) = nI 1 from rfl, deedOf_eq h40 hjj (by omega) (by decide), bnd_eq]
    have a1 : h.1 49 0 (81 * jj + 1 + 2 * k + 0) = nI (kd k) := (hs.2 k hk).1
    have a2 : h.1 49 0 (81 * jj + 1 + 2 * k + 1) = pt k := by rw [show 81 * jj + 1 + 2 * k + 1 = 81 * jj + 2 + 2 * k by omega]; exact (hs.2 k hk).2
    rw [a1, a2]
    refine wp_bnd (wp_mono (does_wp hp hx ms k4 kP) (fun r h' q => ?_))
    have hz : zk r = true := by rcases q with ⟨-, rfl, -⟩ | ⟨-, rfl, -⟩ <;> rfl
    rw [ck_p hz]
    exact wp_some q
  refine wp_mono (wp_fr main (frX12_doesDeed (nI k) h)) (fun r h' q => ⟨q.1, (q.2.at 10 0 40 rfl).trans h40, (q.2.cell 49 0 rfl _).trans hs.1, fun k' hk' => ?_⟩)
  rw [q.2.cell 49 0 rfl _, q.2.cell 49 0 rfl _]; exact hs.2 k' hk'
theorem playM_wp {h : Hp} {jj n sp m N : Nat} {pl kd : Nat → Nat} {pt : Nat → Int32} {x0 : PW} (hjj : jj < 8) (h40 : h.1 10 0 40 = nI jj) (hp : VP n sp pl) (hg : PG n 0 x0 (-1)) (ms : MS h n sp pl x0) (hw : HV m kd pt) (hs : MSh h jj m kd pt) (hN : N ≤ m) : WP (fX12_play (nI N) h) (fun r h' => r = nI (plyF n sp pl kd (ptN pt) N 0 x0 (-1)).1 ∧ MS h' n sp pl (plyF n sp pl kd (ptN pt) N 0 x0 (-1)).2.1 ∧ VX n (plyF n sp pl kd (ptN pt) N 0 x0 (-1)).2.1) := by
  have hm : m ≤ 40 := hw.1
  unfold fX12_play
  generalize hR : plyF n sp pl kd (ptN pt) N 0 x0 (-1) = R
  refine wp_for1 N (fun i h' => ∃ x g, MS h' n sp pl x ∧ PG n i x g ∧ h'.1 10 0 40 = nI jj ∧ MSh h' jj m kd pt ∧ plyF n sp pl kd (ptN pt) (N - i) i x g = R) ?_ ?_ FU h (i0 := 0) (by omega) (FUb (by omega)) ⟨_, _, ms, hg, h40, hs, hR⟩
  · rintro i h2 rec hi ⟨x, g, mx, pg, h40', hs2, hR2⟩ hrec
    unfold fX12_play_l2
    rw [if_neg (fun w => nI_ge hi (by omega) w)]
    rw [show N - i = (N - (i + 1)) + 1 by omega] at hR2
    unfold plyF at hR2
    refine wp_bnd (wp_mono (doesDeed_wp hjj h40' hp pg.1 mx hw hs2 (by omega)) (fun r h' q => ?_))
    obtain ⟨q1, q2, q3⟩ := q
    rcases q1 with ⟨hmay, rfl, mx'⟩ | ⟨hmay, rfl, rfl⟩
    · rw [if_pos hmay] at hR2
      rw [if_neg ne10, lt_eq, nI_1]
      exact hrec _ ⟨_, _, mx', pg.step hp (by omega) hmay, q2, q3, hR2⟩
    · rw [if_neg (by rw [hmay]; decide)] at hR2
      rw [if_pos rfl]
      subst hR2
      exact wp_some ⟨rfl, mx, pg.1⟩
  · rintro h2 rec ⟨x, g, mx, pg, h40', hs2, hR2⟩
    rw [Nat.sub_self] at hR2
    have hR3 : R = (N, x, g) := hR2.symm
    subst hR3
    unfold fX12_play_l2
    rw [if_pos (nI_le (Nat.le_refl _) (by omega))]
    exact wp_some ⟨rfl, mx, pg.1⟩
/-- the reference lays a stage and a show -/
theorem layAll_yes {h : Hp} {j jj c0 c1 sp st n m : Nat} {pl li le kd : Nat → Nat} {pt : Nat → Int32} (e0 : h.1 47 0 0 = nI c0) (v0 : c0 ≤ 2) (hj : j < c0) (e1 : h.1 47 0 1 = nI c1) (v1 : c1 ≤ 2) (hjj : jj < c1) (hv : SV sp st n pl li le) (hm : MSt h j sp st n pl li le) (hs : MSh h jj m kd pt) : WP (fX12_layAll (nI j) (nI jj) h) (fun r h' => r = 1 ∧ MS h' n sp pl (iniP n st li le) ∧ h'.1 10 0 40 = nI jj ∧ MSh h' jj m kd pt) := by
  unfold fX12_layAll
  rw [hasShow_yes e1 v1 hjj, bnd_eq, if_neg ne10]
  refine wp_bnd (wp_mono (hand_yes (h := wr h 10 0 40 (nI jj)) e0 v0 hj hv.2.2.2.1 hm) (fun r h2 q => ?_))
  obtain ⟨rfl, hMH, h21, fr⟩ := q
  rw [if_neg ne10]
  have hm2 : MSt h2 j sp st n pl li le := by
    refine ⟨(fr.cell 48 0 rfl _).trans hm.1, (fr.cell 48 0 rfl _).trans hm.2.1, (fr.cell 48 0 rfl _).trans hm.2.2.1, fun p hp => ?_⟩
    rw [fr.cell 48 0 rfl, fr.cell 48 0 rfl, fr.cell 48 0 rfl]; exact hm.2.2.2 p hp
  refine wp_bnd (wp_mono (beginShow_wp h21 (by omega) hv hm2) (fun _ h3 q => ?_))
  obtain ⟨ms, fr3⟩ := q
  rw [ck_p zk_1]
  refine wp_some ⟨rfl, ms, ?_, ?_, fun k hk => ?_⟩
  · rw [fr3.at 10 0 40 rfl, fr.at 10 0 40 rfl]; rfl
  · rw [fr3.cell 49 0 rfl, fr.cell 49 0 rfl]; exact hs.1
  · rw [fr3.cell 49 0 rfl, fr3.cell 49 0 rfl, fr.cell 49 0 rfl, fr.cell 49 0 rfl]; exact hs.2 k hk
theorem layAll_no {h : Hp} {a b : Int32} {c0 c1 : Nat} (e0 : h.1 47 0 0 = nI c0) (v0 : c0 ≤ 2) (e1 : h.1 47 0 1 = nI c1) (v1 : c1 ≤ 2) (hn : (a < 0 ∨ nI c0 ≤ a) ∨ (b < 0 ∨ nI c1 ≤ b)) : ∃ h', fX12_layAll a b h = some (0, h') := by
  unfold fX12_layAll
  rcases int_cases b c1 (by omega) with hb | ⟨jj, hjj, rfl⟩
  · rw [hasShow_no e1 v1 hb, bnd_eq, if_pos rfl]
    exact ⟨_, rfl⟩
  · rw [hasShow_yes e1 v1 hjj, bnd_eq, if_neg ne10]
    have ha : a < 0 ∨ nI c0 ≤ a := hn.resolve_right (in_no hjj (by omega))
    rw [hand_no (h := wr h 10 0 40 (nI jj)) e0 v0 ha, bnd_eq, if_pos rfl]
    exact ⟨_, rfl⟩
theorem st_stop {KI : Hp → Prop} (hKI : KStab KI) : Stp_stop (Rel KI) := by
  intro a b
  refine stp_q hKI (frX11_stop a b) (frX12_stop a b) rfl rfl rfl rfl (fun hC hM hR => ?_)
  obtain ⟨⟨-, -, -, -, c0, c1, c2, ⟨v0, v1, -⟩, ⟨e0, e1, e2⟩, ⟨m0, m1, m2⟩, hSt, hSh, -⟩, -⟩ := hR
  rcases int_cases a c0 (by omega) with ha | ⟨j, hj, rfl⟩
  · obtain ⟨h', e⟩ := layAll_no (h := wr hM 10 0 0 0) (a := a) (b := b) m0 v0 m1 v1 (Or.inl ha)
    refine ⟨-1, hC, h', ?_, ?_⟩
    · unfold fX11_stop
      rw [stageAt_no e0 ha, bnd_eq]
      rcases int_cases b c1 (by omega) with hb | ⟨jj, hjj, rfl⟩
      · rw [showAt_no e1 hb]; rfl
      · rw [showAt_yes e1 hjj v1]; rfl
    · unfold fX12_stop
      rw [lt_eq, e, bnd_eq, if_pos rfl]
  · rcases int_cases b c1 (by omega) with hb | ⟨jj, hjj, rfl⟩
    · obtain ⟨h', e⟩ := layAll_no (h := wr hM 10 0 0 0) (a := nI j) (b := b) m0 v0 m1 v1 (Or.inr hb)
      refine ⟨-1, hC, h', ?_, ?_⟩
      · unfold fX11_stop
        rw [stageAt_yes e0 hj v0, bnd_eq, showAt_no e1 hb]; rfl
      · unfold fX12_stop
        rw [lt_eq, e, bnd_eq, if_pos rfl]
    · obtain ⟨sp, st, n, pl, li, le, hv, hcs, hms⟩ := hSt j hj
      obtain ⟨m, kd, pt, hw, hcw, hmw⟩ := hSh jj hjj
      rw [Nat.mul_zero, Nat.zero_add] at hcs hms hcw hmw
      obtain ⟨r, hC', eC, rC, -⟩ := play_wp (q := 40) (by omega) (by omega) (by decide) hv hcs hw hcw
      have hM1 : WP (fX12_stop (nI j) (nI jj) hM) (fun r _ => r = nI (plyF n sp pl kd (ptN pt) m 0 (iniP n st li le) (-1)).1) := by
        unfold fX12_stop
        rw [lt_eq]
        refine wp_bnd (wp_mono (layAll_yes (h := wr hM 10 0 0 0) m0 v0 hj m1 v1 hjj hv hms hmw) (fun r h2 q => ?_))
        obtain ⟨rfl, ms, h40, hs2⟩ := q
        rw [if_neg ne10, deeds_eq h40 (by omega), bnd_eq, hs2.1]
        exact wp_bnd (wp_mono (playM_wp (by omega) h40 hv.vp ⟨iniP_VX hv, Nat.zero_le _, fun _ => rfl⟩ ms hw hs2 (Nat.le_refl m)) (fun r h3 q => wp_some q.1))
      obtain ⟨r', hM', eM, rM⟩ := hM1
      have hmin : min 40 m = m := by have := hw.1; omega
      rw [hmin] at rC
      subst rC rM
      refine ⟨_, hC', hM', ?_, eM⟩
      unfold fX11_stop
      rw [stageAt_yes e0 hj v0, bnd_eq, showAt_yes e1 hjj v1, bnd_eq, nl_s, nl_s, show fX4_play j jj 40 hC = _ from eC, bnd_eq]
