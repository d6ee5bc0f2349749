/-! the reference finds the round -/
def KQ (h h' : Hp) : Prop := ∀ k s i, k ≠ 61 → k ≠ 62 → k ≠ 63 → ¬ (k = 10 ∧ (i = 47 ∨ i = 49)) → h'.1 k s i = h.1 k s i
theorem K9.kq {h h' : Hp} (a : K9 h h') : KQ h h' := fun k s i _ _ u3 u4 => a k s i u3 u4
theorem KQ.trans {h h1 h2 : Hp} (a : KQ h h1) (b : KQ h1 h2) : KQ h h2 := fun k s i u1 u2 u3 u4 => (b k s i u1 u2 u3 u4).trans (a k s i u1 u2 u3 u4)
theorem MG.kq {h h' : Hp} {G : KG} {v : Nat} (k : KQ h h') (m : MG h G v) : MG h' G v := by
  obtain ⟨a1, a2, a3, a4, a5, a6⟩ := m
  exact ⟨a1, (k 10 0 23 (by decide) (by decide) (by decide) (by omega)).trans a2, (k 10 0 24 (by decide) (by decide) (by decide) (by omega)).trans a3, (k 10 0 25 (by decide) (by decide) (by decide) (by omega)).trans a4, a5, fun p hp hs => ⟨(k 53 0 p (by decide) (by decide) (by decide) (by omega)).trans (a6 p hp hs).1, (k 54 0 p (by decide) (by decide) (by decide) (by omega)).trans (a6 p hp hs).2.1, (k 55 0 p (by decide) (by decide) (by decide) (by omega)).trans (a6 p hp hs).2.2⟩⟩
theorem TF.kq {h h' : Hp} {G : KG} {f : Nat} {s : Nat → Nat} {T : Nat → Option Nat} (k : KQ h h') (t : TF h G f s T) : TF h' G f s T := by
  obtain ⟨⟨⟨s1, s2, s3⟩, l⟩, t1, t2⟩ := t
  exact ⟨⟨⟨(k 10 0 46 (by decide) (by decide) (by decide) (by omega)).trans s1, fun i hi => ⟨(s2 i hi).1, (k 58 0 i (by decide) (by decide) (by decide) (by omega)).trans (s2 i hi).2.1, (k 59 0 _ (by decide) (by decide) (by decide) (by omega)).trans (s2 i hi).2.2⟩, fun c hc hno => (k 59 0 c (by decide) (by decide) (by decide) (by omega)).trans (s3 c hc hno)⟩, l⟩, fun j hj => (k 60 0 j (by decide) (by decide) (by decide) (by omega)).trans (t1 j hj), t2⟩
theorem roundByM_wp {h : Hp} {G : KG} {v f : Nat} {s : Nat → Nat} {T : Nat → Option Nat} {l1 : Int32} (hG : VG G) (m : MG h G v) (tf : TF h G f s T) (hE : Ev G (c0N G)) : ∃ h' x q tx tq, fX12_roundBy l1 h = some (if l1 = 2 then nI x else if l1 = 3 then nI (q - x) else nI (tq - tx), h') ∧ KQ h h' ∧ RDn G x q tx tq := by
  suffices hw : WP (fX12_roundBy l1 h) (fun r h' => ∃ x q tx tq, r = (if l1 = 2 then nI x else if l1 = 3 then nI (q - x) else nI (tq - tx)) ∧ KQ h h' ∧ RDn G x q tx tq) by
    obtain ⟨r, h', e, x, q, tx, tq, rfl, r2⟩ := hw
    exact ⟨h', x, q, tx, tq, e, r2⟩
  have hf0 := tf.1.2.2.1
  have hs0 := tf.1.2.2.2.1
  have hf := tf.1.2.1
  have hsinj := tf.1.1.inj hG (by omega)
  unfold fX12_roundBy
  refine wp_for1 f (fun i h' => KQ h h' ∧ ∀ y, y < i → h'.1 61 0 y = -1) ?_ ?_ FU h (i0 := 0) (by omega) (FUb (by omega)) ⟨fun _ _ _ _ _ _ _ => rfl, fun y hy => absurd hy (Nat.not_lt_zero _)⟩
  · rintro i h1 rec hi ⟨k1, z1⟩ hrec
    unfold fX12_roundBy_l2
    have r46 : rd h1 10 0 46 = nI f := (tf.kq k1).1.1.1
    rw [r46, if_neg (fun q => nI_ge hi (by omega) q), ck_p (ib_nI (by omega) (by decide)), lt_eq, lt_eq, nI_1]
    refine hrec _ ⟨fun k s j u1 u2 u3 u4 => by rw [wa_g, if_neg (by omega)]; exact k1 k s j u1 u2 u3 u4, fun y hy => ?_⟩
    rw [wa_g, nI_clamp (by omega), show 0 % cnt 61 = 0 from rfl]
    by_cases g : y = i
    · rw [if_pos ⟨rfl, rfl, g⟩]
    · rw [if_neg (fun w => g w.2.2)]; exact z1 y (by omega)
  · rintro h1 rec ⟨k1, z1⟩
    unfold fX12_roundBy_l2
    have r46 : rd h1 10 0 46 = nI f := (tf.kq k1).1.1.1
    rw [r46, if_pos (nI_le (Nat.le_refl _) (by omega))]
    dsimp only
    rw [lt_eq]
    have k1' : KQ h (wr h1 10 0 49 0) := fun k s j u1 u2 u3 u4 => by rw [wr_g, if_neg (by omega)]; exact k1 k s j u1 u2 u3 u4
    refine wp_itr2 (fun mm a b h' => ∃ (q i u : Nat) (vis vt : Nat → Nat), mm = f - q ∧ a = nI q ∧ b = nI i ∧ KQ h h' ∧ i < f ∧ h'.1 10 0 49 = nI u ∧ u ≤ 10 * q ∧ WSn G q (s i) u ∧ Ev G (s i) ∧ (∀ x, x < q → vis x < f ∧ WSn G x (s (vis x)) (vt x) ∧ vt x ≤ u ∧ h'.1 61 0 (vis x) = nI x ∧ h'.1 62 0 (vis x) = nI (vt x)) ∧ (∀ y, y < f → (∀ x, x < q → vis x ≠ y) → h'.1 61 0 y = -1) ∧ ∀ x y, x < q → y < q → vis x = vis y → x = y) ?_ FU f _ _ _ (FUb (by omega)) ⟨0, 0, 0, fun _ => 0, fun _ => 0, rfl, rfl, rfl, k1', hf0, rfl, by omega, ⟨hs0, rfl⟩, by rw [hs0]; exact hE, fun x hx => absurd hx (Nat.not_lt_zero _), fun y hy _ => z1 y hy, fun x y hx => absurd hx (Nat.not_lt_zero _)⟩
    rintro mm a b h2 rec2 ⟨q, i, u, vis, vt, rfl, rfl, rfl, k2, hi, e49, hub, hws, hEv, hvis, hun, hinj⟩ hrec2
    unfold fX12_roundBy_l32
    have hqf := pig f q vis (fun x hx => (hvis x hx).1) hinj
    have hib : ib (nI i) 46656 = true := ib_nI (by omega) (by decide)
    rw [ck_p hib]
    by_cases seen : ∃ x, x < q ∧ vis x = i
    · obtain ⟨x, hx, ex⟩ := seen
      obtain ⟨-, v2, v3, v4, v5⟩ := hvis x hx
      rw [ex] at v2 v4 v5
      have r61 : ra h2 61 0 (nI i) = nI x := (ra_n (by omega)).trans v4
      have r62 : ra h2 62 0 (nI i) = nI (vt x) := (ra_n (by omega)).trans v5
      have r49 : rd h2 10 0 49 = nI u := e49
      have rd1 : RDn G x q (vt x) u := ⟨hx, ⟨s i, v2, hws⟩, fun y z c t1 t2 hyz hzq hy hz => by
        have e1 := (WSn.uniq y hy (hvis y (by omega)).2.1).1
        have e2 := (WSn.uniq z hz (hvis z hzq).2.1).1
        have := hinj y z (by omega) hzq (hsinj _ _ (hvis y (by omega)).1 (hvis z hzq).1 (by rw [← e1, ← e2]))
        omega⟩
      rw [r61, if_neg (nI_nm1 (show x < 2 ^ 31 by omega))]
      dsimp only
      simp only [hib, ck_t]
      rw [r61, r62, r49, nI_sub (show x ≤ q by omega), nI_sub v3]
      by_cases g2 : l1 = 2
      · rw [if_pos g2]; exact wp_some ⟨x, q, vt x, u, by rw [if_pos g2], k2, rd1⟩
      · rw [if_neg g2]
        by_cases g3 : l1 = 3
        · rw [if_pos g3]; exact wp_some ⟨x, q, vt x, u, by rw [if_neg g2, if_pos g3], k2, rd1⟩
        · rw [if_neg g3]; exact wp_some ⟨x, q, vt x, u, by rw [if_neg g2, if_neg g3], k2, rd1⟩
    · have hne : ∀ x, x < q → vis x ≠ i := fun x hx w => seen ⟨x, hx, w⟩
      have e61 : h2.1 61 0 i = -1 := hun i hi hne
      have hin : ∀ x y, x < q + 1 → y < q + 1 → exU vis q i x = exU vis q i y → x = y := fun x y hx hy e => by
        by_cases g : x = q
        · by_cases g' : y = q
          · omega
          · rw [exU_p g, exU_n g'] at e; exact absurd e.symm (hne y (by omega))
        · by_cases g' : y = q
          · rw [exU_n g, exU_p g'] at e; exact absurd e (hne x (by omega))
          · rw [exU_n g, exU_n g'] at e; exact hinj x y (by omega) (by omega) e
      have hq1 : q + 1 ≤ f := pig f (q + 1) (exU vis q i) (fun x hx => by
        by_cases g : x = q
        · rw [exU_p g]; exact hi
        · rw [exU_n g]; exact (hvis x (by omega)).1) hin
      have r61 : ra h2 61 0 (nI i) = -1 := (ra_n (by omega)).trans e61
      have r49 : rd (wa h2 61 0 (nI i) (nI q)) 10 0 49 = nI u := e49
      rw [r61, if_pos rfl, ck_p hib, lt_eq, ck_p hib, lt_eq, r49]
      generalize hH : wa (wa h2 61 0 (nI i) (nI q)) 62 0 (nI i) (nI u) = H
      have k3 : KQ h H := fun k s j u1 u2 u3 u4 => by rw [← hH, wa_g, if_neg (by omega), wa_g, if_neg (by omega)]; exact k2 k s j u1 u2 u3 u4
      have v61 : ∀ y, H.1 61 0 y = if y = i then nI q else h2.1 61 0 y := fun y => by
        rw [← hH, wa_g, if_neg (by omega), wa_g, nI_clamp (by omega), show 0 % cnt 61 = 0 from rfl]
        by_cases g : y = i
        · rw [if_pos ⟨rfl, rfl, g⟩, if_pos g]
        · rw [if_neg (fun w => g w.2.2), if_neg g]
      have v62 : ∀ y, H.1 62 0 y = if y = i then nI u else h2.1 62 0 y := fun y => by
        rw [← hH, wa_g, nI_clamp (by omega), show 0 % cnt 62 = 0 from rfl]
        by_cases g : y = i
        · rw [if_pos ⟨rfl, rfl, g⟩, if_pos g]
        · rw [if_neg (fun w => g w.2.2), if_neg g, wa_g, if_neg (by omega)]
      have e49' : H.1 10 0 49 = nI u := by rw [← hH, wa_g, if_neg (by omega), wa_g, if_neg (by omega)]; exact e49
      obtain ⟨r, h3, er, ks3, hr⟩ := nextRunM_wp hG (m.kq k3) (tf.kq k3) hi
      obtain ⟨p, hp, rfl, hkp, hEn⟩ := hEv.run hr
      have k3' := k3.trans ks3.k9.kq
      obtain ⟨j, h4, e4, k4, hj, ej, e49''⟩ := standBehind_wp hG (m.kq k3') (tf.kq k3') hi hp hkp
      have k4' := k3'.trans k4.kq
      rw [er, bnd_eq, e4, bnd_eq, lt_eq, nI_1]
      have htb := tmN_b hG ((tf.1.1.2.1 i hi).1.vn hG) hp (kp_le hkp).1
      have kk : ∀ k y, (k = 61 ∨ k = 62) → h4.1 k 0 y = H.1 k 0 y := fun k y hk => (k4 k 0 y (by omega) (by omega)).trans (ks3 k 0 y (by omega) (by omega))
      refine hrec2 (f - (q + 1)) _ _ _ (by omega) ⟨q + 1, j, u + tmN G (s i) p, exU vis q i, exU vt q u, rfl, rfl, rfl, k4', hj, ?_, by omega, ?_, ?_, fun x hx => ?_, fun y hy hno => ?_, hin⟩
      · rw [e49'', ks3 10 0 49 (by decide) (by omega), e49', nI_add]
      · rw [ej]; exact ⟨s i, u, p, hws, hp, hr, rfl, rfl⟩
      · rw [ej]; exact hEn
      · rw [kk 61 _ (Or.inl rfl), kk 62 _ (Or.inr rfl)]
        by_cases g : x = q
        · rw [exU_p g, exU_p g, v61, v62, if_pos rfl, if_pos rfl, g]
          exact ⟨hi, hws, by omega, rfl, rfl⟩
        · obtain ⟨w1, w2, w3, w4, w5⟩ := hvis x (by omega)
          rw [exU_n g, exU_n g, v61, v62, if_neg (hne x (by omega)), if_neg (hne x (by omega))]
          exact ⟨w1, w2, by omega, w4, w5⟩
      · have hyi : y ≠ i := fun w => hno q (by omega) (by rw [exU_p rfl]; exact w.symm)
        rw [kk 61 _ (Or.inl rfl), v61, if_neg hyi]
        exact hun y hy (fun x hx w => hno x (by omega) (by rw [exU_n (by omega)]; exact w))
