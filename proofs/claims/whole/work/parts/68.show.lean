/-! deeds: the reference, set and all -/
theorem sets_wp {h : Hp} {n sp p : Nat} {pl : Nat → Nat} {x : PW} (hp : VP n sp pl) (hpn : p < n) (hx : VX n x) (ms : MS h n sp pl x) : WP (fX12_sets (nI p) h) (fun r h' => (mayB n sp pl x 2 p = true ∧ r = 1 ∧ MS h' n sp pl (setP n sp pl p x)) ∨ (mayB n sp pl x 2 p = false ∧ r = 0 ∧ h' = h)) := by
  have hn := hp.1
  have hw := wayN_le hp.2.1 hx.2.1 (hp.2.2.2 p hpn)
  have hib : ib (nI p) 5 = true := ib_nI (by omega) (by decide)
  have hL := (hx.1 p hpn).1
  have hb := hx.2.2.1
  unfold fX12_sets
  have r29 : rd h 10 0 29 = nI (x.2.2.2 0) := ms.2.2.2.1
  have r53 : ra h 53 0 (nI p) = nI (pl p) := by rw [ra_n (by omega)]; exact (ms.2.2.1 p hpn).1
  have r63 : ra h 63 0 (nI p) = nI (x.1 p) := by rw [ra_n (by omega)]; exact (ms.2.2.1 p hpn).2.2.1
  rw [ck_p hib, r29, r53, way12_eq hp.2.1 hp.2.2.1 ms.1 hx.2.1 (hp.2.2.2 p hpn), bnd_eq, lt_eq, ck_p hib, r63, nI_1]
  have mB : mayB n sp pl x 2 p = (decide (x.1 p = 0) && decide (x.2.2.2 1 + wayN sp (x.2.2.2 0) (pl p) + 1 ≤ 99)) := by
    unfold mayB
    rw [if_neg (by decide), if_neg (by decide), if_pos rfl, decide_eq_true hpn, Bool.true_and]
  by_cases h0 : x.1 p = 0
  · rw [if_neg (show ¬ (0 : Int32) < nI (x.1 p) by rw [h0]; decide), isLate_eq hb (by omega) ms.2.2.2.2.1, bnd_eq]
    by_cases hl : x.2.2.2 1 + (wayN sp (x.2.2.2 0) (pl p) + 1) ≤ 99
    · rw [if_pos hl, if_pos rfl]
      have hmt : mayB n sp pl x 2 p = true := by rw [mB]; simp; omega
      refine wp_for1 (wayN sp (x.2.2.2 0) (pl p) + 1) (fun i h' => MS h' n sp pl (btk n i x)) ?_ ?_ FU h (i0 := 0) (by omega) (FUb (by omega)) ms
      · rintro i h1' rec hi hI hrec
        unfold fX12_sets_l38
        rw [if_neg (fun q => nI_ge hi (by omega) q)]
        refine wp_bnd (wp_mono (show WP (fX12_beat (-1) h1') _ from beat_wp (b := 9) hp (btk_VX hn i x hx (by omega)) hI (Or.inr rfl)) (fun _ h2 q => ?_))
        rw [lt_eq, nI_1]
        rw [btk_s] at q
        exact hrec _ q
      · rintro h8 rec hI
        unfold fX12_sets_l38
        rw [if_pos (nI_le (Nat.le_refl _) (by omega))]
        dsimp only
        have es := btk_ES n (wayN sp (x.2.2.2 0) (pl p) + 1) x
        have k5 := btk_c n 5 (by omega) (wayN sp (x.2.2.2 0) (pl p) + 1) x
        have hx3 : nI (wayN sp (x.2.2.2 0) (pl p) + 1) - (1 : Int32) = nI (wayN sp (x.2.2.2 0) (pl p)) := nI_sub (b := 1) (by omega)
        obtain ⟨c1, c2, c3, d29, d30, d31, d32, d33, d34, d35, d36, d37, d57⟩ := hI
        have e54 : ra h8 54 0 (nI p) = nI (x.2.1 p) := by rw [ra_n (by omega)]; exact (c3 p hpn).2.1.trans (by rw [es.1])
        rw [ck_p hib, ck_p hib, lt_eq, hx3, e54]
        have e34 : rd (wa h8 63 0 (nI p) (nI (x.2.1 p))) 10 0 34 = nI (x.2.2.2 5) := d34.trans (congrArg nI k5)
        rw [lt_eq, e34, nI_add, ck_p hib]
        have e53 : ra (wr (wa h8 63 0 (nI p) (nI (x.2.1 p))) 10 0 34 (nI (x.2.2.2 5 + wayN sp (x.2.2.2 0) (pl p)))) 53 0 (nI p) = nI (pl p) := by rw [ra_n (by omega)]; exact (c3 p hpn).1
        rw [e53, lt_eq, ck_p zk_1]
        refine wp_some (Or.inl ⟨hmt, rfl, ?_⟩)
        rw [← btk_s] at c3 d30 d31 d32 d33 d35 d36 d37 d57 es
        have k3 := btk_c n 3 (by omega) (wayN sp (x.2.2.2 0) (pl p)) x
        have k4 := btk_c n 4 (by omega) (wayN sp (x.2.2.2 0) (pl p)) x
        refine ⟨c1, c2, fun q hq => ⟨(c3 q hq).1, ?_, ?_, ?_⟩, rfl, d30, d31, d32, d33, rfl, d35, d36, d37, fun t ht ht2 => ?_⟩
        · refine (c3 q hq).2.1.trans ?_
          rw [es.1]; rfl
        · rw [wr_other (by decide), wr_other (by decide), wa_g, nI_clamp (by omega), show 0 % cnt 63 = 0 from rfl]
          show _ = nI (if q = p then x.2.1 p else btL n 9 (btk n (wayN sp (x.2.2.2 0) (pl p)) x).1 q)
          by_cases hqp : q = p
          · rw [if_pos ⟨rfl, rfl, hqp⟩, if_pos hqp]
          · rw [if_neg (by omega), if_neg hqp]; exact (c3 q hq).2.2.1
        · refine (c3 q hq).2.2.2.trans ?_
          rw [es.2]; rfl
        · refine (d57 t ht ht2).trans (congrArg nI ?_)
          show (bt1 n 9 (btk n (wayN sp (x.2.2.2 0) (pl p)) x)).2.2.2 (100 + t) = (bt1 n 9 (pwy n sp pl p x)).2.2.2 (100 + t)
          rw [bt1_hi, bt1_hi]
          by_cases q : 100 + t = 101 + (btk n (wayN sp (x.2.2.2 0) (pl p)) x).2.2.2 1
          · rw [if_pos q, if_pos (show 100 + t = 101 + (pwy n sp pl p x).2.2.2 1 from q)]; rfl
          · rw [if_neg q, if_neg (show ¬ 100 + t = 101 + (pwy n sp pl p x).2.2.2 1 from q), pwy_hi]
    · rw [if_neg hl, if_neg ne10, ck_p zk_0]
      exact wp_some (Or.inr ⟨by rw [mB]; simp; omega, rfl, rfl⟩)
  · rw [if_pos (show (0 : Int32) < nI (x.1 p) from nI_lt (a := 0) (by omega) (by omega)), ck_p zk_0]
    exact wp_some (Or.inr ⟨by rw [mB]; simp [h0], rfl, rfl⟩)
theorem does_wp {h : Hp} {n sp p kd : Nat} {pl : Nat → Nat} {x : PW} {P : Int32} (hp : VP n sp pl) (hx : VX n x) (ms : MS h n sp pl x) (hk : kd ≤ 4) (hP : kd = 0 ∨ (P = nI p ∧ p < 5)) : WP (fX12_does (nI kd) P h) (fun r h' => (mayB n sp pl x kd p = true ∧ r = 1 ∧ MS h' n sp pl (doN n sp pl x kd p)) ∨ (mayB n sp pl x kd p = false ∧ r = 0 ∧ h' = h)) := by
  have hn := hp.1
  have hb := hx.2.2.1
  unfold fX12_does
  by_cases h0 : kd = 0
  · subst h0
    rw [if_pos (show nI 0 = 0 from rfl), show (1 : Int32) = nI 1 from rfl, isLate_eq hb (by decide) ms.2.2.2.2.1, bnd_eq]
    by_cases hl : x.2.2.2 1 + 1 ≤ 99
    · rw [if_pos hl, if_pos rfl]
      refine wp_bnd (wp_mono (show WP (fX12_beat (-1) h) _ from beat_wp (b := 9) hp hx ms (Or.inr rfl)) (fun _ h3 q => ?_))
      rw [ck_p (show zk (nI 1) = true from rfl)]
      exact wp_some (Or.inl ⟨by unfold mayB; rw [if_pos rfl]; exact decide_eq_true hl, rfl, q⟩)
    · rw [if_neg hl, if_neg ne10, ck_p zk_0]
      exact wp_some (Or.inr ⟨by unfold mayB; rw [if_pos rfl]; simpa using hl, rfl, rfl⟩)
  · obtain ⟨rfl, hp5⟩ := hP.resolve_left h0
    have hk0 : ¬ nI kd = 0 := fun q => h0 ((eq0_n (by omega)).mp q)
    rw [if_neg hk0, isPlate_eq ms.2.1 hn, bnd_eq]
    by_cases hpn : p < n
    · have hib : ib (nI p) 5 = true := ib_nI (by omega) (by decide)
      obtain ⟨b1, b2, b3, b4⟩ := hx.1 p hpn
      have r63 : ra h 63 0 (nI p) = nI (x.1 p) := by rw [ra_n (by omega)]; exact (ms.2.2.1 p hpn).2.2.1
      have r54 : ra h 54 0 (nI p) = nI (x.2.1 p) := by rw [ra_n (by omega)]; exact (ms.2.2.1 p hpn).2.1
      rw [if_neg (in_no hpn (by omega)), if_neg ne10]
      rcases (show kd = 1 ∨ kd = 2 ∨ kd = 3 ∨ kd = 4 by omega) with rfl | rfl | rfl | rfl
      · rw [if_pos (show nI 1 = 1 from rfl)]
        refine wp_bnd (wp_mono (run_wp hp hpn hx ms) (fun r h3 q => ?_))
        have hz : zk r = true := by rcases q with ⟨-, rfl, -⟩ | ⟨-, rfl, -⟩ <;> rfl
        rw [ck_p hz]
        exact wp_some q
      · rw [if_neg (show ¬ nI 2 = 1 by decide), if_pos (show nI 2 = 2 from rfl)]
        refine wp_bnd (wp_mono (sets_wp hp hpn hx ms) (fun r h3 q => ?_))
        have hz : zk r = true := by rcases q with ⟨-, rfl, -⟩ | ⟨-, rfl, -⟩ <;> rfl
        rw [ck_p hz]
        exact wp_some q
      · rw [if_neg (show ¬ nI 3 = 1 by decide), if_neg (show ¬ nI 3 = 2 by decide), if_pos (show nI 3 = 3 from rfl), ck_p hib, r63]
        have mB : mayB n sp pl x 3 p = decide (0 < x.1 p) := by
          unfold mayB
          rw [if_neg (by decide), if_neg (by decide), if_neg (by decide), if_pos rfl, decide_eq_true hpn, Bool.true_and]
        by_cases g : x.1 p = 0
        · rw [if_pos ((eq0_n (by omega)).mpr g), ck_p zk_0]
          exact wp_some (Or.inr ⟨by rw [mB]; simp [g], rfl, rfl⟩)
        · obtain ⟨c1, c2, c3, d29, d30, d31, d32, d33, d34, d35, d36, d37, d57⟩ := ms
          rw [if_neg (fun q => g ((eq0_n (by omega)).mp q)), lose_eq (by omega) (by omega) b1 (c3 p hpn).2.2.1 d31, bnd_eq, ck_p zk_1]
          refine wp_some (Or.inl ⟨by rw [mB]; simp; omega, rfl, c1, c2, fun q hq => ⟨(c3 q hq).1, (c3 q hq).2.1, ?_, (c3 q hq).2.2.2⟩, d29, d30, rfl, d32, d33, d34, d35, d36, d37, fun t ht ht2 => ?_⟩)
          · rw [wr_other (by decide), wa_g, nI_clamp (by omega), show 0 % cnt 63 = 0 from rfl]
            show _ = nI (if q = p then x.1 p - 1 else x.1 q)
            by_cases hqp : q = p
            · rw [if_pos ⟨rfl, rfl, hqp⟩, if_pos hqp]
            · rw [if_neg (by omega), if_neg hqp]; exact (c3 q hq).2.2.1
          · refine (d57 t ht ht2).trans (congrArg nI ?_)
            show _ = (if 100 + t = 9 then _ else if 100 + t = 2 then _ else _)
            rw [if_neg (by omega), if_neg (by omega)]
      · rw [if_neg (show ¬ nI 4 = 1 by decide), if_neg (show ¬ nI 4 = 2 by decide), if_neg (show ¬ nI 4 = 3 by decide), ck_p hib, r54]
        have mB : mayB n sp pl x 4 p = decide (x.2.1 p < 6) := by
          unfold mayB
          rw [if_neg (by decide), if_neg (by decide), if_neg (by decide), if_neg (by decide), decide_eq_true hpn, Bool.true_and]
        have q6 : (nI (x.2.1 p) = 6) ↔ x.2.1 p = 6 := eq_n (b := 6) (by omega) (by decide)
        by_cases g : x.2.1 p = 6
        · rw [if_pos (q6.mpr g), ck_p zk_0]
          exact wp_some (Or.inr ⟨by rw [mB]; simp; omega, rfl, rfl⟩)
        · obtain ⟨c1, c2, c3, d29, d30, d31, d32, d33, d34, d35, d36, d37, d57⟩ := ms
          rw [if_neg (fun q => g (q6.mp q)), ck_p hib, ck_p hib, lt_eq, nI_1, ck_p zk_1]
          refine wp_some (Or.inl ⟨by rw [mB]; simp; omega, rfl, c1, c2, fun q hq => ⟨(c3 q hq).1, ?_, (c3 q hq).2.2.1, (c3 q hq).2.2.2⟩, d29, d30, d31, d32, d33, d34, d35, d36, d37, d57⟩)
          rw [wa_g, nI_clamp (by omega), show 0 % cnt 54 = 0 from rfl]
          show _ = nI (if q = p then x.2.1 p + 1 else x.2.1 q)
          by_cases hqp : q = p
          · rw [if_pos ⟨rfl, rfl, hqp⟩, if_pos hqp]
          · rw [if_neg (by omega), if_neg hqp]; exact (c3 q hq).2.1
    · rw [if_pos (Or.inr (nI_le (by omega) (by omega))), if_pos rfl, ck_p zk_0]
      refine wp_some (Or.inr ⟨?_, rfl, rfl⟩)
      unfold mayB
      rw [if_neg h0, decide_eq_false hpn, Bool.false_and]
/-! how a show begins -/
def iniP (n st : Nat) (li le : Nat → Nat) : PW := (le, li, fun _ => 0, fun j => if j = 0 then st else if j = 100 then sbN le n else 0)
theorem iniP_VX {sp st n : Nat} {pl li le : Nat → Nat} (hv : SV sp st n pl li le) : VX n (iniP n st li le) := by
  obtain ⟨v1, v2, v3, v4, v5⟩ := hv
  refine ⟨fun p hp => ?_, v3, Nat.zero_le 200, Nat.zero_le 0, Nat.zero_le 0, Nat.zero_le 5, Nat.zero_le 0, Nat.zero_le 100⟩
  obtain ⟨a1, a2, a3, a4, a5⟩ := v5 p hp
  exact ⟨by show le p ≤ 6; omega, a2, a3, Nat.zero_le _⟩
theorem SV.vp {sp st n : Nat} {pl li le : Nat → Nat} (hv : SV sp st n pl li le) : VP n sp pl := ⟨hv.2.2.2.1, hv.1, hv.2.1, fun p hp => (hv.2.2.2.2 p hp).1⟩
theorem begin_wp {h : Hp} {j sp st n : Nat} {pl li le : Nat → Nat} (hj : j < 9) (hv : SV sp st n pl li le) (hc : CSt h j sp st n pl li le) : WP (fX4_begin j h) (fun _ h' => CS h' n sp pl (iniP n st li le) ∧ h'.1 2 0 8 = -1) := by
  have hn := hv.2.2.2.1
  obtain ⟨c1, c2, c3, c4⟩ := hc
  obtain ⟨h1, e1, q1⟩ := cp8 h (show 9 < cnt 6 by decide) (show j < cnt 6 from Nat.lt_trans hj (by decide)) (by omega)
  unfold fX4_begin
  rw [e1, bnd_eq]
  have r1 : rd h1 6 j 1 = nI st := by
    show h1.1 6 (j % 12) 1 = _
    rw [Nat.mod_eq_of_lt (by omega), q1, if_neg (by omega)]; exact c2
  have g6 : ∀ i, i < 3 → h1.1 6 9 i = h.1 6 j i := fun i hi => by rw [q1, if_pos ⟨rfl, Or.inl ⟨rfl, hi⟩⟩]
  have ga : ∀ k i, (k = 33 ∨ k = 34 ∨ k = 35) → i < 5 → h1.1 k 9 i = h.1 k j i := fun k i hk hi => by rw [q1, if_pos ⟨rfl, Or.inr ⟨hk, hi⟩⟩]
  rw [r1]
  refine wp_lt (wp_lt (wp_lt (wp_lt (wp_lt (wp_lt (wp_lt (wp_lt (wp_lt (wp_lt ?_)))))))))
  generalize hH : wr (wr (wr (wr (wr (wr (wr (wr (wr (wr h1 2 0 2 (nI st)) 2 0 3 0) 2 0 4 0) 2 0 5 0) 2 0 6 0) 2 0 8 (-1)) 2 0 9 0) 2 0 10 0) 2 0 11 0) 2 0 12 0 = H
  have hHk : ∀ k s i, k ≠ 2 → H.1 k s i = h1.1 k s i := fun k s i hk => by rw [← hH, wr_other hk, wr_other hk, wr_other hk, wr_other hk, wr_other hk, wr_other hk, wr_other hk, wr_other hk, wr_other hk, wr_other hk]
  refine wp_for1 5 (fun i h' => (∀ p, p < i → h'.1 24 0 p = 0) ∧ ∀ k s p, k ≠ 24 → h'.1 k s p = H.1 k s p) ?_ ?_ FU H (i0 := 0) (by omega) (FUb (by decide)) ⟨fun p hp => absurd hp (Nat.not_lt_zero _), fun _ _ _ _ => rfl⟩
  · rintro i h2 rec hi ⟨a1, a2⟩ hrec
    unfold fX4_begin_l63
    rw [if_neg (show ¬ (5 : Int32) ≤ nI i from fun q => nI_ge hi (by decide) q), ck_p (ib_nI hi (by decide)), lt_eq, lt_eq, nI_1]
    refine hrec _ ⟨fun p hp => ?_, fun k s p hk => ?_⟩
    · rw [wa_g, nI_clamp (by omega), show 0 % cnt 24 = 0 from rfl]
      by_cases hpi : p = i
      · rw [if_pos ⟨rfl, rfl, hpi⟩]
      · rw [if_neg (by omega)]; exact a1 p (by omega)
    · rw [wa_g, if_neg (by omega)]; exact a2 k s p hk
  · rintro h2 rec ⟨a1, a2⟩
    unfold fX4_begin_l63
    rw [if_pos (show (5 : Int32) ≤ nI 5 by decide)]
    refine wp_some ⟨⟨?_, ?_, fun p hp => ⟨?_, ?_, ?_, a1 p (by omega)⟩, ?_, ?_, ?_, ?_, ?_, ?_, ?_, ?_, ?_⟩, ?_⟩
    · rw [a2 _ _ _ (by decide), hHk _ _ _ (by decide), g6 0 (by omega)]; exact c1
    · rw [a2 _ _ _ (by decide), hHk _ _ _ (by decide), g6 2 (by omega)]; exact c3
    · rw [a2 _ _ _ (by decide), hHk _ _ _ (by decide), ga 33 p (by omega) (by omega)]; exact (c4 p hp).1
    · rw [a2 _ _ _ (by decide), hHk _ _ _ (by decide), ga 34 p (by omega) (by omega)]; exact (c4 p hp).2.1
    · rw [a2 _ _ _ (by decide), hHk _ _ _ (by decide), ga 35 p (by omega) (by omega)]; exact (c4 p hp).2.2
    all_goals (rw [a2 _ _ _ (by decide), ← hH]; rfl)
theorem beginShow_wp {h : Hp} {j sp st n : Nat} {pl li le : Nat → Nat} (hj : h.1 10 0 21 = nI j) (hj8 : j < 8) (hv : SV sp st n pl li le) (hm : MSt h j sp st n pl li le) : WP (fX12_beginShow h) (fun _ h' => MS h' n sp pl (iniP n st li le) ∧ Fr wX12_beginShow h h') := by
  refine wp_fr ?_ (frX12_beginShow h)
  have hn := hv.2.2.2.1
  unfold fX12_beginShow
  refine wp_bnd (wp_mono (asTold_wp hj hj8 hn hm) (fun _ h1 q => ?_))
  obtain ⟨m22, m23, m24, m25, m5⟩ := q
  have r24 : rd h1 10 0 24 = nI st := m24
  rw [r24]
  refine wp_lt (wp_lt (wp_lt (wp_lt (wp_lt (wp_lt (wp_lt (wp_lt (wp_lt ?_))))))))
  generalize hH : wr (wr (wr (wr (wr (wr (wr (wr (wr h1 10 0 29 (nI st)) 10 0 30 0) 10 0 31 0) 10 0 32 0) 10 0 33 0) 10 0 34 0) 10 0 35 0) 10 0 36 0) 10 0 37 0 = H
  have hHk : ∀ k s i, k ≠ 10 → H.1 k s i = h1.1 k s i := fun k s i hk => by rw [← hH, wr_other hk, wr_other hk, wr_other hk, wr_other hk, wr_other hk, wr_other hk, wr_other hk, wr_other hk, wr_other hk]
  have h22 : H.1 10 0 22 = nI n := by rw [← hH]; exact m22
  have h23 : H.1 10 0 23 = nI sp := by rw [← hH]; exact m23
  refine wp_for1 5 (fun i h' => (∀ p, p < i → h'.1 56 0 p = 0 ∧ h'.1 63 0 p = H.1 55 0 p) ∧ ∀ k s p, k ≠ 56 → k ≠ 63 → h'.1 k s p = H.1 k s p) ?_ ?_ FU H (i0 := 0) (by omega) (FUb (by decide)) ⟨fun p hp => absurd hp (Nat.not_lt_zero _), fun _ _ _ _ _ => rfl⟩
  · rintro i h2 rec hi ⟨a1, a2⟩ hrec
    unfold fX12_beginShow_l54
    have hib : ib (nI i) 5 = true := ib_nI hi (by decide)
    have r55 : ra h2 55 0 (nI i) = H.1 55 0 i := by rw [ra_n (by omega)]; exact a2 55 0 i (by decide) (by decide)
    rw [if_neg (show ¬ (5 : Int32) ≤ nI i from fun q => nI_ge hi (by decide) q), ck_p hib, ck_p hib, lt_eq, ck_p hib, lt_eq, lt_eq, nI_1, r55]
    refine hrec _ ⟨fun p hp => ?_, fun k s p hk hk2 => ?_⟩
    · refine ⟨?_, ?_⟩
      · rw [wa_g, nI_clamp (by omega), show 0 % cnt 56 = 0 from rfl]
        by_cases hpi : p = i
        · rw [if_pos ⟨rfl, rfl, hpi⟩]
        · rw [if_neg (by omega), wa_g, if_neg (by omega)]; exact (a1 p (by omega)).1
      · rw [wa_g, if_neg (by omega), wa_g, nI_clamp (by omega), show 0 % cnt 63 = 0 from rfl]
        by_cases hpi : p = i
        · rw [if_pos ⟨rfl, rfl, hpi⟩, hpi]
        · rw [if_neg (by omega)]; exact (a1 p (by omega)).2
    · rw [wa_g, if_neg (by omega), wa_g, if_neg (by omega)]; exact a2 k s p hk hk2
  · rintro h2 rec ⟨a1, a2⟩
    unfold fX12_beginShow_l54
    rw [if_pos (show (5 : Int32) ≤ nI 5 by decide)]
    dsimp only
    have L : ∀ p, p < n → h2.1 63 0 p = nI (le p) := fun p hp => by rw [(a1 p (by omega)).2, hHk 55 0 p (by decide)]; exact (m5 p hp).2.2
    rw [standNow_eq (L := le) hn (by rw [a2 _ _ _ (by decide) (by decide)]; exact h22) (fun p hp => ⟨by have := hv.2.2.2.2 p hp; omega, L p hp⟩), bnd_eq, ck_p (show ib 0 64 = true from rfl), lt_eq]
    have w57 : ∀ k s i, k ≠ 57 → (wa h2 57 0 0 (nI (sbN le n))).1 k s i = h2.1 k s i := fun k s i hk => by rw [wa_g, if_neg (by omega)]
    have h57 : ∀ t, t ≤ (iniP n st li le).2.2.2 1 → t < 64 → (wa h2 57 0 0 (nI (sbN le n))).1 57 0 t = nI ((iniP n st li le).2.2.2 (100 + t)) := by
      intro t ht ht2
      have : t = 0 := by have : t ≤ 0 := ht; omega
      subst this
      rfl
    refine wp_some ⟨?_, ?_, fun p hp => ⟨?_, ?_, ?_, ?_⟩, ?_, ?_, ?_, ?_, ?_, ?_, ?_, ?_, ?_, h57⟩
    · rw [w57 _ _ _ (by decide), a2 _ _ _ (by decide) (by decide)]; exact h23
    · rw [w57 _ _ _ (by decide), a2 _ _ _ (by decide) (by decide)]; exact h22
    · rw [w57 _ _ _ (by decide), a2 _ _ _ (by decide) (by decide), hHk _ _ _ (by decide)]; exact (m5 p hp).1
    · rw [w57 _ _ _ (by decide), a2 _ _ _ (by decide) (by decide), hHk _ _ _ (by decide)]; exact (m5 p hp).2.1
    · rw [w57 _ _ _ (by decide)]; exact L p hp
    · rw [w57 _ _ _ (by decide)]; exact (a1 p (by omega)).1
    all_goals (rw [w57 _ _ _ (by decide), a2 _ _ _ (by decide) (by decide), ← hH]; rfl)
