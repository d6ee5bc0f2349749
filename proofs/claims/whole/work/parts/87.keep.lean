/-! all stands, laid out -/
def KLO (h h' : Hp) : Prop := ∀ k s i, k ≠ 58 → k ≠ 59 → k ≠ 63 → ¬ (k = 10 ∧ (i = 46 ∨ i = 47)) → h'.1 k s i = h.1 k s i
/-- laid out: the list holds just what kept rows lead to -/
def LO (h : Hp) (G : KG) (f : Nat) (s : Nat → Nat) : Prop := SLt h G f s ∧ f ≤ 46656 ∧ 0 < f ∧ s 0 = c0N G ∧ ∀ i, i < f → ∀ p, p < 5 → kpN G (s i) p = true → ∃ j, j < f ∧ s j = nxN G (s i) p
theorem layOut_wp {h : Hp} {G : KG} {v : Nat} (hG : VG G) (m : MG h G v) (hI : MInv h) : ∃ h' f s, fX12_layOut h = some ((), h') ∧ LO h' G f s ∧ MG h' G v ∧ KLO h h' := by
  suffices hw : WP (fX12_layOut h) (fun _ h' => ∃ f s, LO h' G f s ∧ MG h' G v ∧ KLO h h') by
    obtain ⟨u, h', e, f, s, q⟩ := hw
    exact ⟨h', f, s, e, q⟩
  obtain ⟨f0, hf0, e46, old, oldn⟩ := hI
  unfold fX12_layOut
  refine wp_for1 f0 (fun i h' => (∀ k s j, k ≠ 59 → h'.1 k s j = h.1 k s j) ∧ ∀ c, c < 46656 → h'.1 59 0 c ≠ 0 → ∃ j, i ≤ j ∧ j < f0 ∧ h.1 58 0 j = nI c) ?_ ?_ FU h (i0 := 0) (by omega) (FUb (by omega)) ⟨fun _ _ _ _ => rfl, fun c hc hne => by obtain ⟨j, hj, e⟩ := oldn c hc hne; exact ⟨j, by omega, hj, e⟩⟩
  · rintro i h1 rec hi ⟨a1, a2⟩ hrec
    unfold fX12_layOut_l2
    obtain ⟨c, hc, ec⟩ := old i hi
    have r46 : rd h1 10 0 46 = nI f0 := (a1 10 0 46 (by decide)).trans e46
    have r58 : ra h1 58 0 (nI i) = nI c := by rw [ra_n (by omega)]; exact (a1 58 0 i (by decide)).trans ec
    rw [r46, if_neg (fun q => nI_ge hi (by omega) q), ck_p (ib_nI (by omega) (by decide)), r58, ck_p (ib_nI hc (by decide)), lt_eq, lt_eq, nI_1]
    refine hrec _ ⟨fun k s j hk => by rw [wa_g, if_neg (by omega)]; exact a1 k s j hk, fun c' hc' hne => ?_⟩
    rw [wa_g, nI_clamp (by omega), show 0 % cnt 59 = 0 from rfl] at hne
    by_cases q : c' = c
    · rw [if_pos ⟨rfl, rfl, q⟩] at hne
      exact absurd rfl hne
    · rw [if_neg (fun w => q w.2.2)] at hne
      obtain ⟨j, h1', h2', h3'⟩ := a2 c' hc' hne
      refine ⟨j, ?_, h2', h3'⟩
      by_cases hji : j = i
      · rw [hji, ec] at h3'
        exact absurd ((eq_n (by omega) (by omega)).mp h3').symm q
      · omega
  · rintro h1 rec ⟨a1, a2⟩
    unfold fX12_layOut_l2
    have r46 : rd h1 10 0 46 = nI f0 := (a1 10 0 46 (by decide)).trans e46
    rw [r46, if_pos (nI_le (Nat.le_refl _) (by omega))]
    dsimp only
    rw [lt_eq]
    have z59 : ∀ c, c < 46656 → h1.1 59 0 c = 0 := fun c hc => by
      apply Classical.byContradiction
      intro hne
      obtain ⟨j, h1', h2', -⟩ := a2 c hc hne
      omega
    have m1 : MG (wr h1 10 0 46 0) G v := by
      obtain ⟨m1, m2, m3, m4, m5, m6⟩ := m
      exact ⟨m1, (a1 _ _ _ (by decide)).trans m2, (a1 _ _ _ (by decide)).trans m3, (a1 _ _ _ (by decide)).trans m4, m5, fun p hp hs => ⟨(a1 53 0 p (by decide)).trans (m6 p hp hs).1, (a1 54 0 p (by decide)).trans (m6 p hp hs).2.1, (a1 55 0 p (by decide)).trans (m6 p hp hs).2.2⟩⟩
    have l1 : SLt (wr h1 10 0 46 0) G 0 (fun _ => 0) := ⟨rfl, fun i hi => absurd hi (Nat.not_lt_zero _), fun c hc _ => z59 c hc⟩
    have k1 : KLO h (wr h1 10 0 46 0) := fun k s i u1 u2 u3 u4 => by rw [wr_g, if_neg (by omega)]; exact a1 k s i u2
    obtain ⟨h2, e2, o2, ks2⟩ := openFirst_wp hG m1
    have m2 := m1.ks ks2
    have hcl : fX12_close h2 = some (nI (c0N G), h2) := by
      refine close_eq (f := fun e => G.2.2.2.2.2 e - 1) m2 ?_ (fun p hp hs => ?_)
      · have := o2.1
        unfold c0N at this
        rwa [cdN_run (c0_dig hG)] at this
      · rw [o2.2 p hp hs]
        unfold c0N
        rw [cdN_dig (c0_dig hG) hp]
        show nI ((if G.1 p = true then _ else 0) + 1) = _
        rw [if_pos hs]
    rw [e2, bnd_eq, hcl, bnd_eq]
    obtain ⟨h3, f1, s1, e3, sl3, hf1, hf1', hs1, ⟨j0, hj0, ej0⟩, kl3⟩ := addStand_wp hG (l1.ks ks2) (by omega) (show Rc G (c0N G) from ⟨0, rfl⟩)
    rw [e3, bnd_eq]
    have m3 := m2.kl kl3
    have s10 : 0 < f1 ∧ s1 0 = c0N G := by
      refine ⟨by omega, ?_⟩
      have hle : f1 ≤ 1 := by
        have := sl3.1
        have h46 : h2.1 10 0 46 = 0 := (ks2 _ _ _ (by decide) (by decide)).trans rfl
        unfold fX12_addStand at e3
        have hib : ib (nI (c0N G)) 46656 = true := ib_nI (c0_VN hG).1 (by decide)
        rw [ck_p hib] at e3
        have r46 : rd h2 10 0 46 = 0 := h46
        by_cases q : ra h2 59 0 (nI (c0N G)) = 0
        · rw [if_pos q, r46, ck_p (show ib 0 46656 = true from rfl)] at e3
          have : h3.1 10 0 46 = 1 := by
            have e4 : lt (wa h2 58 0 0 (nI (c0N G))) (fun h1 => lt (wr h1 10 0 46 ((rd h1 10 0 46) + (1 : Int32))) fun h2 => ck (ib (nI (c0N G)) 46656) (lt (wa h2 59 0 (nI (c0N G)) (rd h2 10 0 46)) fun h3 => some ((), h3))) = some ((), h3) := e3
            rw [lt_eq, lt_eq, ck_p hib, lt_eq] at e4
            cases e4
            show (rd (wa h2 58 0 0 (nI (c0N G))) 10 0 46) + (1 : Int32) = 1
            rw [show rd (wa h2 58 0 0 (nI (c0N G))) 10 0 46 = 0 from r46]; rfl
          rw [sl3.1] at this
          have := (eq_n (b := 1) (by omega) (by decide)).mp this
          omega
        · rw [if_neg q] at e3
          cases e3
          rw [sl3.1] at h46
          have := (eq0_n (by omega)).mp h46
          omega
      have : j0 = 0 := by omega
      rw [← ej0, this]
    have k3 : KLO h h3 := fun k s i u1 u2 u3 u4 => (kl3 k s i u1 u2 (by omega)).trans ((ks2 k s i u3 (by omega)).trans (k1 k s i u1 u2 u3 u4))
    refine wp_itr1 (fun mm x h' => ∃ i f s, x = nI i ∧ mm = 46656 - i ∧ i ≤ f ∧ f ≤ 46656 ∧ 0 < f ∧ s 0 = c0N G ∧ SLt h' G f s ∧ MG h' G v ∧ KLO h h' ∧ ∀ i', i' < i → ∀ p, p < 5 → kpN G (s i') p = true → ∃ j, j < f ∧ s j = nxN G (s i') p) ?_ FU 46656 _ _ (FUb (by decide)) ⟨0, f1, s1, rfl, rfl, by omega, hf1', s10.1, s10.2, sl3, m3, k3, fun i' hi' => absurd hi' (Nat.not_lt_zero _)⟩
    rintro mm x h4 rec4 ⟨i, f, s, rfl, rfl, hif, hf, hf0', hs0, sl, m4, k4, clo⟩ hrec4
    unfold fX12_layOut_l47
    have r46 : rd h4 10 0 46 = nI f := sl.1
    rw [r46]
    by_cases hi : i = f
    · subst hi
      rw [if_pos (nI_le (Nat.le_refl _) (by omega))]
      exact wp_some ⟨i, s, ⟨sl, hf, hf0', hs0, clo⟩, m4, k4⟩
    · have hi' : i < f := by omega
      rw [if_neg (fun q => nI_ge hi' (by omega) q)]
      have hrc := (sl.2.1 i hi').1
      have hvn := hrc.vn hG
      have hsi := hvn.1
      generalize hci : s i = ci at hrc hvn hsi
      refine wp_for1 5 (fun p h' => ∃ f' s', f ≤ f' ∧ f' ≤ 46656 ∧ (∀ q, q < f → s' q = s q) ∧ SLt h' G f' s' ∧ MG h' G v ∧ KLO h h' ∧ ∀ p', p' < p → kpN G ci p' = true → ∃ j, j < f' ∧ s' j = nxN G ci p') ?_ ?_ FU h4 (i0 := 0) (by omega) (FUb (by decide)) ⟨f, s, Nat.le_refl _, hf, fun _ _ => rfl, sl, m4, k4, fun p' hp' => absurd hp' (Nat.not_lt_zero _)⟩
      · rintro p h5 rec5 hp ⟨f', s', hff, hf', hss, sl5, m5, k5, cl5⟩ hrec5
        unfold fX12_layOut_l57
        have r58 : ra h5 58 0 (nI i) = nI ci := by rw [ra_n (by omega), ← hci, ← hss i hi']; exact (sl5.2.1 i (by omega)).2.1
        obtain ⟨h6, e6, o6, ks6⟩ := open_wp (h := h5) G hsi
        have m6 := m5.ks ks6
        rw [if_neg (show ¬ (5 : Int32) ≤ nI p from fun q => nI_ge hp (by decide) q), ck_p (ib_nI (by omega) (by decide)), r58, e6, bnd_eq, isKeptM_eq hG m6 hvn o6 hp, bnd_eq, jn_eq]
        have k6 : KLO h h6 := fun k s i u1 u2 u3 u4 => (ks6 k s i u3 (by omega)).trans (k5 k s i u1 u2 u3 u4)
        by_cases g : kpN G ci p = true
        · obtain ⟨h7, e7, o7, ks7⟩ := behindRunM_wp hG m6 hvn o6 hp g
          obtain ⟨h8, f8, s8, e8, sl8, hf8, hf8', hs8, ⟨j8, hj8, ej8⟩, kl8⟩ := addStand_wp hG ((sl5.ks ks6).ks ks7) hf' (hrc.next hp g)
          rw [if_pos g, if_neg ne10, e7, bnd_eq, e8, bnd_eq]
          dsimp only
          rw [lt_eq, nI_1]
          refine hrec5 _ ⟨f8, s8, by omega, hf8', fun q hq => (hs8 q (by omega)).trans (hss q hq), sl8, (m6.ks ks7).kl kl8, fun k s i u1 u2 u3 u4 => (kl8 k s i u1 u2 (by omega)).trans ((ks7 k s i u3 (by omega)).trans (k6 k s i u1 u2 u3 u4)), fun p' hp' hk' => ?_⟩
          by_cases q : p' = p
          · rw [q]; exact ⟨j8, hj8, ej8⟩
          · obtain ⟨j, hj, ej⟩ := cl5 p' (by omega) hk'
            exact ⟨j, by omega, (hs8 j hj).trans ej⟩
        · rw [if_neg g, if_pos rfl]
          dsimp only
          rw [lt_eq, nI_1]
          refine hrec5 _ ⟨f', s', hff, hf', hss, sl5.ks ks6, m6, k6, fun p' hp' hk' => ?_⟩
          by_cases q : p' = p
          · rw [q] at hk'; exact absurd hk' g
          · exact cl5 p' (by omega) hk'
      · rintro h5 rec5 ⟨f', s', hff, hf', hss, sl5, m5, k5, cl5⟩
        unfold fX12_layOut_l57
        rw [if_pos (show (5 : Int32) ≤ nI 5 by decide)]
        dsimp only
        rw [lt_eq, nI_1]
        refine hrec4 (46656 - (i + 1)) _ _ (by omega) ⟨i + 1, f', s', rfl, rfl, by omega, hf', by omega, (hss 0 hf0').trans hs0, sl5, m5, k5, fun i' hii p hp hk => ?_⟩
        by_cases q : i' = i
        · rw [q, hss i hi', hci] at hk ⊢
          exact cl5 p hp hk
        · rw [hss i' (by omega)] at hk ⊢
          obtain ⟨j, hj, ej⟩ := clo i' (by omega) p hp hk
          exact ⟨j, by omega, (hss j hj).trans ej⟩
