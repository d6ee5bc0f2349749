/-! the stands are gone through to the end -/
theorem Ev.cons {G : KG} {c p : Nat} (hp : p < 5) (hk : kpN G c p = true) (h : Ev G (nxN G c p)) : Ev G c := fun m => by
  cases m with
  | zero => trivial
  | succ m => exact ⟨p, hp, hk, h m⟩
/-- a way back to the stack: all on it go on for ever -/
theorem DK.round {h : Hp} {G : KG} {f : Nat} {s : Nat → Nat} {D : Nat} {o mk : Nat → Nat} (d : DK h G f s D o mk) {k p : Nat} (hk : k < D) (hp : p < 5) (hkp : kpN G (s (o (D - 1))) p = true) (e : s (o k) = nxN G (s (o (D - 1))) p) : ∀ k', k' < D → Ev G (s (o k')) := by
  intro k' hk'
  refine ev_of (fun c => ∃ k, k < D ∧ c = s (o k)) ?_ _ ⟨k', hk', rfl⟩
  rintro c ⟨k1, hk1, rfl⟩
  by_cases q : k1 + 1 < D
  · obtain ⟨p1, a1, a2, a3⟩ := d.2.2.2.2 k1 q
    exact ⟨p1, a1, a2, k1 + 1, q, a3.symm⟩
  · rw [show k1 = D - 1 by omega]
    exact ⟨p, hp, hkp, k, hk, e.symm⟩
theorem DI.fin {h h' : Hp} {n : Nat} {G : KG} {f : Nat} {s : Nat → Nat} {D : Nat} {o mk us : Nat → Nat} {T T' : Nat → Option Nat} (d : DI h n G f s D o mk us T) {i x : Nat} (hD : 0 < D) (hi : o (D - 1) = i) (hu : us i = n) (hx : x = 2 ∨ x = 3) (e14 : h'.1 14 0 i = nI x) (e3 : h'.1 0 0 3 = nI (D - 1)) (ho : ∀ k s j, ¬ (k = 14 ∧ j = i) → ¬ (k = 16 ∧ j = i) → ¬ (k = 0 ∧ j = 3) → h'.1 k s j = h.1 k s j) (dt : DT h' G f s (exU mk i x) T') : DI h' n G f s (D - 1) o (exU mk i x) (exU us i (us i + 1)) T' := by
  obtain ⟨t, hf, h0, hs0, ⟨k0, k1, k2, k3, k4⟩, ⟨m1, m0, m2, m3, m4, m5⟩, -⟩ := d
  obtain ⟨i17, hif, hmi⟩ := k1 (D - 1) (by omega)
  rw [hi] at hif hmi
  have hne : ∀ k, k < D - 1 → o k ≠ i := fun k hk w => by
    have := k2 k (D - 1) (by omega) (by omega) (by rw [hi]; exact w)
    omega
  have hnz : ∀ q, mk q ≠ 0 → exU mk i x q ≠ 0 := fun q hq => by
    by_cases w : q = i
    · rw [exU_p w]; omega
    · rw [exU_n w]; exact hq
  refine ⟨t.cp (fun k q hk => ho k 0 q (by omega) (by omega) (by omega)), hf, h0, hs0, ⟨e3, fun k hk => ?_, fun k k' hk hk' => k2 k k' (by omega) (by omega), fun _ => k3 hD, fun k hk => k4 k (by omega)⟩, ⟨fun q hq => ?_, hnz 0 m0, fun q hq e => ?_, fun q hq e => ?_, fun q hq => ?_, fun q hq e => ?_⟩, dt⟩
  · rw [ho 17 0 k (by omega) (by omega) (by omega), exU_n (hne k hk)]
    exact k1 k (by omega)
  · by_cases w : q = i
    · rw [exU_p w, w]; exact ⟨e14, by omega⟩
    · rw [exU_n w, ho 14 0 q (by omega) (by omega) (by omega)]; exact m1 q hq
  · have w : q ≠ i := fun w => by rw [exU_p w] at e; omega
    rw [exU_n w] at e
    obtain ⟨⟨k, a1, a2⟩, a3⟩ := m2 q hq e
    rw [exU_n w, ho 15 0 q (by omega) (by omega) (by omega)]
    have : k ≠ D - 1 := fun z => w (by rw [← a2, z, hi])
    exact ⟨⟨k, by omega, a2⟩, a3⟩
  · by_cases w : q = i
    · rw [exU_p w, hu]
    · rw [exU_n w] at e ⊢; exact m3 q hq e
  · have w : q ≠ i := fun w => by
      rw [exU_p w] at hq
      omega
    rw [exU_n w] at hq ⊢; exact m4 q hq
  · have e0 : mk q ≠ 0 := by
      by_cases w : q = i
      · rw [w, hmi]; omega
      · rw [exU_n w] at e; exact e
    refine ⟨(m5 q hq e0).1.cp (fun p _ => ho 18 0 _ (by omega) (by omega) (by omega)), fun p j a1 a2 a3 a4 a5 => hnz j ?_⟩
    by_cases w : q = i
    · exact (m5 q hq e0).2 p j (by rw [w, hu]; exact a2) a2 a3 a4 a5
    · rw [exU_n w] at a1
      exact (m5 q hq e0).2 p j a1 a2 a3 a4 a5
def KX (h h' : Hp) : Prop := ∀ k s i, ¬ (11 ≤ k ∧ k ≤ 18) → ¬ (k = 0 ∧ (i = 2 ∨ i = 3)) → h'.1 k s i = h.1 k s i
theorem isForeverC_eq {h : Hp} {n : Nat} {G : KG} {f : Nat} {s : Nat → Nat} {D : Nat} {o mk us : Nat → Nat} {T : Nat → Option Nat} (d : DI h n G f s D o mk us T) {i : Nat} (hi : i < f) (h1 : mk i = 2 ∨ mk i = 3) : ∃ r, fX2_isForever (nI i) h = some (r, h) ∧ ((r = 1 ∧ Ev G (s i)) ∨ (r = 0 ∧ ¬ Ev G (s i))) := by
  obtain ⟨t, hf, h0, hs0, -, ⟨m1, -⟩, ⟨t1, t2, t3, t4⟩⟩ := d
  unfold fX2_isForever
  have r2 : rd h 0 0 2 = nI f := t.1
  have r14 : ra h 14 0 (nI i) = nI (mk i) := by rw [ra_n (by omega)]; exact (m1 i hi).1
  rw [jn_eq, if_neg (fun q => in_no (show i < 2200 by omega) (by decide) (Or.inl q)), r2, if_neg (fun q => nI_ge hi (by omega) q), ck_p (ib_nI (by omega) (by decide)), r14]
  rcases h1 with e | e
  · obtain ⟨w, hw⟩ := t2 i hi e
    rw [e, if_neg (by decide)]
    exact ⟨0, rfl, Or.inr ⟨rfl, (t3 i w hi hw).2.2.1.not_ev⟩⟩
  · rw [e, if_pos (by decide)]
    exact ⟨1, rfl, Or.inl ⟨rfl, (t4 i hi e).2⟩⟩
theorem exploreL_wp {h : Hp} {n sp st : Nat} {pl li le : Nat → Nat} {l2 : Int32} (hv : SV sp st n pl li le) (h1n : 1 ≤ n) (hc : CSt h 10 sp st n pl li le) {f D : Nat} {s o mk us : Nat → Nat} {T : Nat → Option Nat} (d : DI h n (GC n sp st pl li le) f s D o mk us T) (hs : exS us 2200 = 0) : WP (itr1 (fX2_explore_l40 l2 (fun h23 => bnd (fX2_isForever 0 h23) fun x25 h24 => ck (zk x25) (some (x25, h24)))) FU 0 h) (fun r h' => ((r = 1 ∧ Ev (GC n sp st pl li le) (c0N (GC n sp st pl li le))) ∨ (r = 0 ∧ ¬ Ev (GC n sp st pl li le) (c0N (GC n sp st pl li le)))) ∧ KX h h' ∧ ∃ f s D o mk us T, DI h' n (GC n sp st pl li le) f s D o mk us T ∧ (l2 ≠ 0 → D = 0)) := by
  have hG := GC_VG hv
  have hn := hv.2.2.2.1
  refine wp_itr1 (fun m x h' => ∃ l, x = nI l ∧ m + l = 13200 ∧ KX h h' ∧ ∃ f s D o mk us T, DI h' n (GC n sp st pl li le) f s D o mk us T ∧ exS us 2200 = l) ?_ FU 13200 0 h (FUb (by decide)) ⟨0, rfl, rfl, fun _ _ _ _ _ => rfl, f, s, D, o, mk, us, T, d, hs⟩
  clear d hs
  rintro m x h1 rec ⟨l, rfl, hml, kx, f, s, D, o, mk, us, T, d, hl⟩ hrec
  have hDf := d.deep
  obtain ⟨t, hf, h0, hs0, dk, dm, dt⟩ := id d
  have hc1 : CSt h1 10 sp st n pl li le := hc.cp (fun k j hk => kx k 10 j (by omega) (by omega))
  have r3 : rd h1 0 0 3 = nI D := dk.1
  have r62 : rd h1 6 10 2 = nI n := hc1.2.2.1
  unfold fX2_explore_l40
  rw [if_neg (show ¬ (1000000 : Int32) ≤ nI l from fun q => nI_ge (show l < 1000000 by omega) (by decide) q), r3]
  by_cases hD : D = 0
  · rw [hD, if_pos (show nI 0 ≤ (0 : Int32) by decide)]
    dsimp only
    have hm0 : mk 0 = 2 ∨ mk 0 = 3 := by
      have a := (dm.1 0 h0).2
      have b := dm.2.1
      have c : mk 0 ≠ 1 := fun e => by
        obtain ⟨⟨k, hk, -⟩, -⟩ := dm.2.2.1 0 h0 e
        omega
      omega
    obtain ⟨r, e, hr⟩ := isForeverC_eq d h0 hm0
    rw [show (0 : Int32) = nI 0 from rfl, e, bnd_eq, hs0] at *
    have hz : zk r = true := by rcases hr with ⟨rfl, -⟩ | ⟨rfl, -⟩ <;> rfl
    rw [ck_p hz]
    exact wp_some ⟨hr, kx, f, s, D, o, mk, us, T, d, fun _ => hD⟩
  · have hD1 : 0 < D := by omega
    obtain ⟨i17, hif, hmi⟩ := dk.2.1 (D - 1) (by omega)
    generalize hio : o (D - 1) = i at i17 hif hmi
    have hib : ib (nI i) 2200 = true := ib_nI (by omega) (by decide)
    obtain ⟨-, e15, hun⟩ := dm.2.2.1 i hif hmi
    obtain ⟨fw, hseen⟩ := dm.2.2.2.2.2 i hif (by omega)
    have r17 : ra h1 17 0 (nI (D - 1)) = nI i := by rw [ra_n (by omega)]; exact i17
    have r15 : ra h1 15 0 (nI i) = nI (us i) := by rw [ra_n (by omega)]; exact e15
    rw [if_neg (show ¬ nI D ≤ (0 : Int32) from fun q => nI_ge (a := 0) (b := D) hD1 (by omega) q), show nI D - (1 : Int32) = nI (D - 1) from nI_sub (b := 1) (by omega), ck_p (ib_nI (by omega) (by decide)), r17, lt_eq, ck_p hib, r15, lt_eq, jn_eq, r62]
    have hle := exS_le (d.us6 hn) 2200
    by_cases hu : us i < n
    · rw [if_pos (nI_lt hu (by omega)), ck_p hib, ck_p hib, nI_1, nar_b (by omega), lt_eq]
      generalize hH : wa h1 15 0 (nI i) (nI (us i + 1)) = H
      have v15 : H.1 15 0 i = nI (us i + 1) := by rw [← hH, wa_g, nI_clamp (by omega), if_pos ⟨rfl, rfl, rfl⟩]
      have vo : ∀ k s q, ¬ (k = 15 ∧ q = i) → H.1 k s q = h1.1 k s q := fun k s q u => by rw [← hH, wa_g, nI_clamp (by omega), if_neg (by omega)]
      have hcH : CSt H 10 sp st n pl li le := hc1.cp (fun k j hk => vo k 10 j (by omega))
      have kxH : KX h H := fun k s q u1 u2 => (vo k s q (by omega)).trans (kx k s q u1 u2)
      have hsum := exS_up (u := us) (i := i) (x := us i + 1) rfl 2200
      rw [if_pos (show i < 2200 by omega)] at hsum
      rw [followerOf_eq hn hcH.2.2.1 (by omega) hu, bnd_eq, jn_eq, vo 18 0 _ (by omega)]
      have go : ∀ h2, (KX h h2 ∧ ∃ f s D o mk us' T, DI h2 n (GC n sp st pl li le) f s D o mk us' T ∧ exS us' 2200 = l + 1) → WP (lt (nI l + 1) fun x14 => rec x14 h2) (fun r h' => ((r = 1 ∧ Ev (GC n sp st pl li le) (c0N (GC n sp st pl li le))) ∨ (r = 0 ∧ ¬ Ev (GC n sp st pl li le) (c0N (GC n sp st pl li le)))) ∧ KX h h' ∧ ∃ f s D o mk us T, DI h' n (GC n sp st pl li le) f s D o mk us T ∧ (l2 ≠ 0 → D = 0)) := by
        rintro h2 ⟨kx2, f2, s2, D2, o2, mk2, us2, T2, d2, hl2⟩
        have := exS_le (d2.us6 hn) 2200
        rw [lt_eq, nI_1]
        exact hrec (m - 1) _ _ (by omega) ⟨l + 1, rfl, by omega, kx2, f2, s2, D2, o2, mk2, us2, T2, d2, hl2⟩
      by_cases g : kpN (GC n sp st pl li le) (s i) (us i) = true
      · obtain ⟨j, hj, ej, e18⟩ := (fw (us i) hu).1 g
        have hjb : ib (nI j) 2200 = true := ib_nI (by omega) (by decide)
        have r14 : ra H 14 0 (nI j) = nI (mk j) := by rw [ra_n (by omega)]; exact (vo 14 0 j (by omega)).trans (dm.1 j hj).1
        have hm3 := (dm.1 j hj).2
        rw [e18, if_neg (nI_nm1 (show j < 2 ^ 31 by omega)), ck_p hjb, r14]
        by_cases hmj : mk j = 0
        · rw [hmj, if_pos (show nI 0 = (0 : Int32) from rfl)]
          have tH : KT H n (GC n sp st pl li le) f s := t.cp (fun k q hk => vo k 0 q (by omega))
          obtain ⟨h2, f2, s2, e2, t2, a1, a2, a3, a4, a5, a6, a7, a8, a9, b1, b2, b3, b4, b5⟩ := enter_wp hv hcH tH hf hj (show D < 2200 by omega) ((vo 0 0 3 (by omega)).trans dk.1)
          rw [e2, bnd_eq]
          dsimp only
          have hij : i ≠ j := fun w => by rw [w, hmj] at hmi; omega
          refine go h2 ⟨fun k s q u1 u2 => (b5 k s q (by omega) (by omega) (by omega) u2).trans (kxH k s q u1 u2), f2, s2, D + 1, _, _, _, T, DI.entered hG hn d hD1 hio hu g hj ej hmj t2 a1 a2 a3 a4 a5 (fun k hk => (a6 k hk).trans (vo 17 0 k (by omega))) a7 (fun q hq hne => (a8 q hq hne).trans (vo 14 0 q (by omega))) a9 b1 ((b2 i hij).trans v15) (fun q w1 w2 => (b2 q w2).trans (vo 15 0 q (by omega))) b3 (fun q p w1 w2 => (b4 q p w1 w2).trans (vo 18 0 _ (by omega))) (fun q => (b5 16 0 q (by omega) (by omega) (by omega) (by omega)).trans (vo 16 0 q (by omega))), by omega⟩
        · rw [if_neg (fun q => hmj ((eq0_n (by omega)).mp q))]
          have dT : DI H n (GC n sp st pl li le) f s D o mk (exU us i (us i + 1)) T := d.tried hif hmi hu (fun j' _ hj' ej' => by
            rw [t.inj (by omega) j' j hj' hj (by rw [ej', ej])]; exact hmj) v15 vo
          dsimp only
          rw [if_neg (nI_nm1 (show j < 2 ^ 31 by omega)), ck_p hjb, r14]
          by_cases hm1 : mk j = 1
          · rw [hm1, if_pos (show nI 1 = (1 : Int32) from rfl)]
            by_cases hl2 : l2 = 0
            · rw [if_pos hl2, ck_p zk_1]
              obtain ⟨⟨k, hk, eo⟩, -⟩ := dm.2.2.1 j hj hm1
              have hev := dk.round hk (show us i < 5 by omega) (by rw [hio]; exact g) (by rw [hio, eo]; exact ej) 0 hD1
              rw [dk.2.2.2.1 hD1, hs0] at hev
              exact wp_some ⟨Or.inl ⟨rfl, hev⟩, kxH, f, s, D, o, mk, _, T, dT, fun w => absurd hl2 w⟩
            · rw [if_neg hl2]
              exact go H ⟨kxH, f, s, D, o, mk, _, T, dT, by omega⟩
          · rw [if_neg (show ¬ nI (mk j) = (1 : Int32) from fun q => hm1 ((eq_n (b := 1) (by omega) (by decide)).mp q))]
            exact go H ⟨kxH, f, s, D, o, mk, _, T, dT, by omega⟩
      · have hk : kpN (GC n sp st pl li le) (s i) (us i) = false := Bool.not_eq_true _ |>.mp g
        have dT : DI H n (GC n sp st pl li le) f s D o mk (exU us i (us i + 1)) T := d.tried hif hmi hu (fun j' w => absurd w g) v15 vo
        rw [(fw (us i) hu).2 hk, if_pos rfl]
        dsimp only
        rw [if_pos rfl]
        exact go H ⟨kxH, f, s, D, o, mk, _, T, dT, by omega⟩
    · have hun' : us i = n := by omega
      rw [if_neg (show ¬ nI (us i) < nI n from fun q => hu ((lt_n (by omega) (by omega)).mp q))]
      have hTn : T i = none := by
        cases hx : T i with
        | none => rfl
        | some w => have := (dt.2.2.1 i w hif hx).1; omega
      obtain ⟨h2, e2, ho2, hor⟩ := finish_wp (B := csN T 2200) hv hc1 t hf h1n hif fw (fun j hj e => dt.2.1 j hj ((eq_n (b := 2) (by have := (dm.1 j hj).2; omega) (by decide)).mp ((dm.1 j hj).1.symm.trans e))) (fun j w hj e => by
        obtain ⟨c1, c2⟩ := dt.2.2.1 j w hj e
        exact ⟨by rw [(dm.1 j hj).1, c1]; rfl, c2⟩) (csN_le T 2200)
      have r23 : rd h2 0 0 3 = nI D := (ho2 0 0 3 (by omega) (by omega)).trans dk.1
      rw [e2, bnd_eq, r23, show nI D - (1 : Int32) = nI (D - 1) from nI_sub (b := 1) (by omega), lt_eq]
      dsimp only
      generalize hH : wr h2 0 0 3 (nI (D - 1)) = H
      have vo2 : ∀ k s q, ¬ (k = 0 ∧ q = 3) → H.1 k s q = h2.1 k s q := fun k s q u => by rw [← hH, wr_g, if_neg (by omega)]
      have vo : ∀ k s j, ¬ (k = 14 ∧ j = i) → ¬ (k = 16 ∧ j = i) → ¬ (k = 0 ∧ j = 3) → H.1 k s j = h1.1 k s j := fun k s j u1 u2 u3 => (vo2 k s j u3).trans (ho2 k s j u1 u2)
      have e3 : H.1 0 0 3 = nI (D - 1) := by rw [← hH]; rfl
      have kxH : KX h H := fun k s q u1 u2 => (vo k s q (by omega) (by omega) (by omega)).trans (kx k s q u1 u2)
      have hsum := exS_up (u := us) (i := i) (x := us i + 1) rfl 2200
      rw [if_pos (show i < 2200 by omega)] at hsum
      have hd2 : ∃ f s D o mk us' T, DI H n (GC n sp st pl li le) f s D o mk us' T ∧ exS us' 2200 = l + 1 := by
        rcases hor with ⟨c1, w, c2, c3, c4⟩ | ⟨c1, c2, p, j, c3, c4, c5, c6, c7⟩
        · have hcs := csN_up (T := T) (i := i) (w := w) hTn 2200
          rw [if_pos (show i < 2200 by omega)] at hcs
          refine ⟨f, s, D - 1, o, _, _, updO T i (some w), d.fin hD1 hio hun' (Or.inl rfl) ((vo2 14 0 i (by omega)).trans c1) e3 vo ⟨fun q hq => ?_, fun q hq e => ?_, fun q w' hq e => ?_, fun q hq e => ?_⟩, by omega⟩
          · by_cases z : q = i
            · omega
            · unfold updO at hq
              rw [if_neg z] at hq
              exact dt.1 q hq
          · unfold updO
            by_cases z : q = i
            · rw [if_pos z]; exact ⟨w, rfl⟩
            · rw [if_neg z]
              rw [exU_n z] at e
              exact dt.2.1 q hq e
          · by_cases z : q = i
            · unfold updO at e
              rw [if_pos z] at e
              have ew : w = w' := Option.some.inj e
              rw [exU_p z, z, ← ew]
              exact ⟨rfl, (vo2 16 0 i (by omega)).trans c2, c3, by omega⟩
            · unfold updO at e
              rw [if_neg z] at e
              obtain ⟨x1, x2, x3, x4⟩ := dt.2.2.1 q w' hq e
              rw [exU_n z]
              exact ⟨x1, (vo 16 0 q (by omega) (by omega) (by omega)).trans x2, x3, by omega⟩
          · have z : q ≠ i := fun z => by rw [exU_p z] at e; omega
            rw [exU_n z] at e
            obtain ⟨x1, x2⟩ := dt.2.2.2 q hq e
            exact ⟨(vo 16 0 q (by omega) (by omega) (by omega)).trans x1, x2⟩
        · have hmj0 := hseen p j (by omega) c3 c4 c5 c6
          have hmj2 : mk j ≠ 2 := fun e => by
            obtain ⟨w, hw⟩ := dt.2.1 j c5 e
            rw [c7] at hw; cases hw
          have hmj3 := (dm.1 j c5).2
          have hev : Ev (GC n sp st pl li le) (s i) := by
            by_cases z : mk j = 1
            · obtain ⟨⟨k, hk, eo⟩, -⟩ := dm.2.2.1 j c5 z
              have := dk.round hk (show p < 5 by omega) (by rw [hio]; exact c4) (by rw [hio, eo]; exact c6) (D - 1) (by omega)
              rw [hio] at this
              exact this
            · have := (dt.2.2.2 j c5 (by omega)).2
              rw [c6] at this
              exact Ev.cons (by omega) c4 this
          refine ⟨f, s, D - 1, o, _, _, T, d.fin hD1 hio hun' (Or.inr rfl) ((vo2 14 0 i (by omega)).trans c1) e3 vo ⟨dt.1, fun q hq e => ?_, fun q w' hq e => ?_, fun q hq e => ?_⟩, by omega⟩
          · have z : q ≠ i := fun z => by rw [exU_p z] at e; omega
            rw [exU_n z] at e
            exact dt.2.1 q hq e
          · have z : q ≠ i := fun z => by rw [z, hTn] at e; cases e
            obtain ⟨x1, x2, x3, x4⟩ := dt.2.2.1 q w' hq e
            rw [exU_n z]
            exact ⟨x1, (vo 16 0 q (by omega) (by omega) (by omega)).trans x2, x3, x4⟩
          · by_cases z : q = i
            · rw [z]
              exact ⟨(vo2 16 0 i (by omega)).trans c2, hev⟩
            · rw [exU_n z] at e
              obtain ⟨x1, x2⟩ := dt.2.2.2 q hq e
              exact ⟨(vo 16 0 q (by omega) (by omega) (by omega)).trans x1, x2⟩
      obtain ⟨f2, s2, D2, o2, mk2, us2, T2, d2, hl2⟩ := hd2
      have := exS_le (d2.us6 hn) 2200
      rw [lt_eq, nI_1]
      exact hrec (m - 1) _ _ (by omega) ⟨l + 1, rfl, by omega, kxH, f2, s2, D2, o2, mk2, us2, T2, d2, hl2⟩
