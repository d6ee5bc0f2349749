/-! the keeper finds the round -/
def KRd (h h' : Hp) : Prop := ∀ k s i, k ≠ 19 → k ≠ 20 → ¬ (k = 0 ∧ 4 ≤ i ∧ i ≤ 6) → h'.1 k s i = h.1 k s i
def KR0 (h h' : Hp) : Prop := ∀ k s i, k ≠ 19 → k ≠ 20 → h'.1 k s i = h.1 k s i
theorem findRoundC_wp {h : Hp} {n sp st f : Nat} {pl li le s o mk us : Nat → Nat} {T : Nat → Option Nat} (hv : SV sp st n pl li le) (h1n : 1 ≤ n) (hc : CSt h 10 sp st n pl li le) (d : DI h n (GC n sp st pl li le) f s 0 o mk us T) (hE : Ev (GC n sp st pl li le) (c0N (GC n sp st pl li le))) : ∃ h' x q tx tq, fX2_findRound h = some ((), h') ∧ KRd h h' ∧ RDn (GC n sp st pl li le) x q tx tq ∧ h'.1 0 0 4 = nI x ∧ h'.1 0 0 5 = nI (q - x) ∧ h'.1 0 0 6 = nI (tq - tx) := by
  have hn := hv.2.2.2.1
  have hall := (d.all hv).2
  obtain ⟨t, hf, h0, hs0, dk, ⟨m1, m0, m2, m3, m4, m5⟩, dt⟩ := id d
  suffices hw : WP (fX2_findRound h) (fun _ h' => ∃ x q tx tq, KRd h h' ∧ RDn (GC n sp st pl li le) x q tx tq ∧ h'.1 0 0 4 = nI x ∧ h'.1 0 0 5 = nI (q - x) ∧ h'.1 0 0 6 = nI (tq - tx)) by
    obtain ⟨u, h', e, x, q, tx, tq, r⟩ := hw
    exact ⟨h', x, q, tx, tq, e, r⟩
  unfold fX2_findRound
  refine wp_for1 f (fun i h' => KR0 h h' ∧ ∀ y, y < i → h'.1 19 0 y = -1) ?_ ?_ FU h (i0 := 0) (by omega) (FUb (by omega)) ⟨fun _ _ _ _ _ => rfl, fun y hy => absurd hy (Nat.not_lt_zero _)⟩
  · rintro i h1 rec hi ⟨k1, z1⟩ hrec
    unfold fX2_findRound_l2
    have r2 : rd h1 0 0 2 = nI f := (k1 0 0 2 (by decide) (by decide)).trans t.1
    rw [r2, if_neg (fun q => nI_ge hi (by omega) q), ck_p (ib_nI (by omega) (by decide)), show vp_nar .short (-1) = (-1 : Int32) by rw [vp_nar_short]; decide, lt_eq, lt_eq, nI_1]
    refine hrec _ ⟨fun k s j u1 u2 => by rw [wa_g, if_neg (by omega)]; exact k1 k s j u1 u2, fun y hy => ?_⟩
    rw [wa_g, nI_clamp (by omega), show 0 % cnt 19 = 0 from rfl]
    by_cases g : y = i
    · rw [if_pos ⟨rfl, rfl, g⟩]
    · rw [if_neg (fun w => g w.2.2)]; exact z1 y (by omega)
  · rintro h1 rec ⟨k1, z1⟩
    unfold fX2_findRound_l2
    have r2 : rd h1 0 0 2 = nI f := (k1 0 0 2 (by decide) (by decide)).trans t.1
    rw [r2, if_pos (nI_le (Nat.le_refl _) (by omega))]
    dsimp only
    refine wp_for3 2200 (fun q a b h' => KR0 h h' ∧ ∃ (i u : Nat) (vis vt : Nat → Nat), i < f ∧ a = nI i ∧ b = nI u ∧ u ≤ 10 * q ∧ WSn (GC n sp st pl li le) q (s i) u ∧ Ev (GC n sp st pl li le) (s i) ∧ (∀ x, x < q → vis x < f ∧ WSn (GC n sp st pl li le) x (s (vis x)) (vt x) ∧ vt x ≤ u ∧ h'.1 19 0 (vis x) = nI x ∧ h'.1 20 0 (vis x) = nI (vt x)) ∧ (∀ y, y < f → (∀ x, x < q → vis x ≠ y) → h'.1 19 0 y = -1) ∧ ∀ x y, x < q → y < q → vis x = vis y → x = y) ?_ ?_ FU _ _ h1 (i0 := 0) (by omega) (FUb (by omega)) ⟨k1, 0, 0, fun _ => 0, fun _ => 0, h0, rfl, rfl, by omega, ⟨hs0, rfl⟩, by rw [hs0]; exact hE, fun x hx => absurd hx (Nat.not_lt_zero _), fun y hy _ => z1 y hy, fun x y hx => absurd hx (Nat.not_lt_zero _)⟩
    · rintro q a b h2 rec2 hq ⟨k2, i, u, vis, vt, hi, rfl, rfl, hub, hws, hEv, hvis, hun, hinj⟩ hrec2
      unfold fX2_findRound_l29
      have hqf := pig f q vis (fun x hx => (hvis x hx).1) hinj
      have sk2 : SK h h2 := fun k j hk => k2 k 0 j (by omega) (by omega)
      have d2 := d.sk sk2
      have hc2 : CSt h2 10 sp st n pl li le := hc.cp (fun k j hk => k2 k 10 j (by omega) (by omega))
      have hib : ib (nI i) 2200 = true := ib_nI (by omega) (by decide)
      obtain ⟨r, er, hr⟩ := nextRunC_eq hv h1n hc2 d2 hi
      obtain ⟨p, hp, rfl, hkp, hEn⟩ := hEv.run hr
      have hpn : p < n := by
        have w : decide (p < n) = true := (kp_le hkp).1
        exact of_decide_eq_true w
      rw [if_neg (show ¬ (2200 : Int32) < nI q from fun w => by have := (lt_n (a := 2200) (by decide) (by omega)).mp w; omega), er, bnd_eq, ck_p hib, show ra h2 19 0 (nI i) = h2.1 19 0 i from ra_n (by omega)]
      by_cases seen : ∃ x, x < q ∧ vis x = i
      · obtain ⟨x, hx, ex⟩ := seen
        obtain ⟨-, v2, v3, v4, v5⟩ := hvis x hx
        rw [ex] at v2 v4 v5
        rw [v4, if_neg (nI_nm1 (show x < 2 ^ 31 by omega))]
        dsimp only
        rw [ck_p hib, show ra h2 19 0 (nI i) = nI x from (ra_n (by omega)).trans v4, lt_eq, show rd (wr h2 0 0 4 (nI x)) 0 0 4 = nI x from rfl, nI_sub (by omega), lt_eq, ck_p hib, show ra (wr (wr h2 0 0 4 (nI x)) 0 0 5 (nI (q - x))) 20 0 (nI i) = nI (vt x) by rw [ra_n (by omega)]; exact v5, nI_sub (by omega), lt_eq]
        refine wp_some ⟨x, q, vt x, u, fun k s j u1 u2 u3 => ?_, ⟨hx, ⟨s i, v2, hws⟩, fun y z c t1 t2 hyz hzq hy hz => ?_⟩, rfl, rfl, rfl⟩
        · rw [wr_g, if_neg (by omega), wr_g, if_neg (by omega), wr_g, if_neg (by omega)]; exact k2 k s j u1 u2
        · have e1 := (WSn.uniq y hy (hvis y (by omega)).2.1).1
          have e2 := (WSn.uniq z hz (hvis z hzq).2.1).1
          have := hinj y z (by omega) hzq (t.inj (by omega) _ _ (hvis y (by omega)).1 (hvis z hzq).1 (by rw [← e1, ← e2]))
          omega
      · have hne : ∀ x, x < q → vis x ≠ i := fun x hx w => seen ⟨x, hx, w⟩
        have e19 : h2.1 19 0 i = -1 := hun i hi hne
        have hin : ∀ x y, x < q + 1 → y < q + 1 → exU vis q i x = exU vis q i y → x = y := fun x y hx hy e => by
          by_cases g : x = q
          · by_cases g' : y = q
            · omega
            · rw [exU_p g, exU_n g'] at e; exact absurd e.symm (hne y (by omega))
          · by_cases g' : y = q
            · rw [exU_n g, exU_p g'] at e; exact absurd e (hne x (by omega))
            · rw [exU_n g, exU_n g'] at e; exact hinj x y (by omega) (by omega) e
        have hq1 : q + 1 ≤ f := pig f (q + 1) (exU vis q i) (fun x hx => by
          by_cases g : x = q
          · rw [exU_p g]; exact hi
          · rw [exU_n g]; exact (hvis x (by omega)).1) hin
        rw [e19, if_pos rfl, if_neg (nI_nm1 (show p < 2 ^ 31 by omega)), ck_p hib, nar_s (by omega), lt_eq, ck_p hib, nar_s (by omega), lt_eq]
        generalize hH : wa (wa h2 19 0 (nI i) (nI q)) 20 0 (nI i) (nI u) = H
        have k3 : KR0 h H := fun k s j u1 u2 => by rw [← hH, wa_g, if_neg (by omega), wa_g, if_neg (by omega)]; exact k2 k s j u1 u2
        have v19 : ∀ y, H.1 19 0 y = if y = i then nI q else h2.1 19 0 y := fun y => by
          rw [← hH, wa_g, if_neg (by omega), wa_g, nI_clamp (by omega), show 0 % cnt 19 = 0 from rfl]
          by_cases g : y = i
          · rw [if_pos ⟨rfl, rfl, g⟩, if_pos g]
          · rw [if_neg (fun w => g w.2.2), if_neg g]
        have v20 : ∀ y, H.1 20 0 y = if y = i then nI u else h2.1 20 0 y := fun y => by
          rw [← hH, wa_g, nI_clamp (by omega), show 0 % cnt 20 = 0 from rfl]
          by_cases g : y = i
          · rw [if_pos ⟨rfl, rfl, g⟩, if_pos g]
          · rw [if_neg (fun w => g w.2.2), if_neg g, wa_g, if_neg (by omega)]
        have hc3 : CSt H 10 sp st n pl li le := hc.cp (fun k j hk => k3 k 10 j (by omega) (by omega))
        have t3 : KT H n (GC n sp st pl li le) f s := t.cp (fun k j hk => k3 k 0 j (by omega) (by omega))
        obtain ⟨fw, -⟩ := m5 i hi (by have := hall i hi; omega)
        obtain ⟨j, hj, ej, e18⟩ := (fw p hpn).1 hkp
        have htb := tmN_b (GC_VG hv) ((t.2.1 i hi).1.vn (GC_VG hv)) hp (kp_le hkp).1
        rw [beatsToC_eq hv hc3 t3 hf hi hpn, bnd_eq, lt_eq, followerOf_eq hn hc3.2.2.1 (by omega) hpn, bnd_eq, show H.1 18 0 (5 * i + p) = nI j from (k3 18 0 _ (by decide) (by decide)).trans e18, lt_eq, nI_1, nI_add]
        refine hrec2 _ _ _ ⟨k3, j, u + tmN (GC n sp st pl li le) (s i) p, exU vis q i, exU vt q u, hj, rfl, rfl, by omega, ?_, ?_, fun x hx => ?_, fun y hy hno => ?_, hin⟩
        · rw [ej]; exact ⟨s i, u, p, hws, hp, hr, rfl, rfl⟩
        · rw [ej]; exact hEn
        · by_cases g : x = q
          · rw [exU_p g, exU_p g, v19, v20, if_pos rfl, if_pos rfl, g]
            exact ⟨hi, hws, by omega, rfl, rfl⟩
          · obtain ⟨w1, w2, w3, w4, w5⟩ := hvis x (by omega)
            rw [exU_n g, exU_n g, v19, v20, if_neg (hne x (by omega)), if_neg (hne x (by omega))]
            exact ⟨w1, w2, by omega, w4, w5⟩
        · have hyi : y ≠ i := fun w => hno q (by omega) (by rw [exU_p rfl]; exact w.symm)
          rw [v19, if_neg hyi]
          exact hun y hy (fun x hx w => hno x (by omega) (by rw [exU_n (by omega)]; exact w))
    · rintro a b h2 rec2 ⟨-, i, u, vis, vt, -, -, -, -, -, -, hvis, -, hinj⟩
      have := pig f 2200 vis (fun x hx => (hvis x hx).1) hinj
      omega
