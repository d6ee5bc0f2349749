/-! the reference strikes out -/
theorem mnN_le {G : KG} {c : Nat} : ∀ n, mnN G c n ≤ 1000000 ∧ ∀ p, p < n → G.1 p = true → mnN G c n ≤ lfN c p := by
  intro n
  induction n with
  | zero => exact ⟨Nat.le_refl _, fun p hp => absurd hp (Nat.not_lt_zero _)⟩
  | succ n ih =>
    have e : mnN G c (n + 1) = (if G.1 n = true then min (mnN G c n) (lfN c n) else mnN G c n) := rfl
    rw [e]
    by_cases g : G.1 n = true
    · rw [if_pos g]
      refine ⟨by omega, fun p hp hs => ?_⟩
      by_cases q : p = n
      · rw [q]; omega
      · have := ih.2 p (by omega) hs; omega
    · rw [if_neg g]
      refine ⟨ih.1, fun p hp hs => ?_⟩
      by_cases q : p = n
      · rw [q] at hs; exact absurd hs g
      · exact ih.2 p (by omega) hs
theorem leastLeft_eq {h : Hp} {G : KG} {v c : Nat} (m : MG h G v) (o : OS h G c) : fX12_leastLeft h = some (nI (mnN G c 5), h) := by
  apply wp_same
  unfold fX12_leastLeft
  have r25 : rd h 10 0 25 = nI v := m.2.2.2.1
  refine wp_for2 5 (fun i a h' => a = nI (mnN G c i) ∧ h' = h) ?_ ?_ FU _ h (i0 := 0) (by omega) (FUb (by decide)) ⟨rfl, rfl⟩
  · rintro i a h1 rec hi ⟨rfl, rfl⟩ hrec
    unfold fX12_leastLeft_l6
    have hb := (mnN_le (G := G) (c := c) i).1
    have hl := lfN_b c i
    rw [if_neg (show ¬ (5 : Int32) ≤ nI i from fun q => nI_ge hi (by decide) q), r25, hasM_eq v m.1 i (by omega), bnd_eq, jn_eq, ← m.2.2.2.2.1 i hi]
    by_cases g : G.1 i = true
    · have r63 : ra h1 63 0 (nI i) = nI (lfN c i) := by rw [ra_n (by omega)]; exact o.2 i hi g
      rw [if_pos g, if_neg ne10, ck_p (ib_nI hi (by decide)), r63, lesser_eqN (by omega) (by omega), bnd_eq]
      dsimp only
      rw [lt_eq, nI_1]
      exact hrec _ _ ⟨by show _ = nI (if G.1 i = true then _ else _); rw [if_pos g], rfl⟩
    · rw [if_neg g, if_pos rfl]
      dsimp only
      rw [lt_eq, nI_1]
      exact hrec _ _ ⟨by show _ = nI (if G.1 i = true then _ else _); rw [if_neg g], rfl⟩
  · rintro a h1 rec ⟨rfl, rfl⟩
    unfold fX12_leastLeft_l6
    rw [if_pos (show (5 : Int32) ≤ nI 5 by decide)]
    exact wp_some ⟨rfl, rfl⟩
def tI : Option Nat → Int32
  | none => -1
  | some v => nI v
def csN (T : Nat → Option Nat) : Nat → Nat
  | 0 => 0
  | k + 1 => csN T k + (if (T k).isSome = true then 1 else 0)
theorem csN_le (T : Nat → Option Nat) : ∀ k, csN T k ≤ k := by
  intro k
  induction k with
  | zero => exact Nat.le_refl _
  | succ k ih => show csN T k + _ ≤ k + 1; split <;> omega
def updO (T : Nat → Option Nat) (i : Nat) (x : Option Nat) : Nat → Option Nat := fun j => if j = i then x else T j
theorem csN_up {T : Nat → Option Nat} {i w : Nat} (h0 : T i = none) : ∀ k, csN (updO T i (some w)) k = csN T k + if i < k then 1 else 0 := by
  intro k
  induction k with
  | zero => rfl
  | succ k ih =>
    show csN (updO T i (some w)) k + (if (updO T i (some w) k).isSome = true then 1 else 0) = csN T k + (if (T k).isSome = true then 1 else 0) + _
    rw [ih]
    by_cases q : k = i
    · subst q
      have e1 : updO T k (some w) k = some w := by unfold updO; rw [if_pos rfl]
      rw [e1, h0, if_neg (Nat.lt_irrefl _), if_pos (show (some w).isSome = true from rfl), if_neg (show ¬ (none : Option Nat).isSome = true by decide), if_pos (show k < k + 1 by omega)]
    · have e1 : updO T i (some w) k = T k := by unfold updO; rw [if_neg q]
      rw [e1]
      by_cases q2 : i < k
      · rw [if_pos q2, if_pos (show i < k + 1 by omega)]; omega
      · rw [if_neg q2, if_neg (show ¬ i < k + 1 by omega)]; omega
/-- the table of what lasts, as far as it is known -/
def TB (h : Hp) (G : KG) (f : Nat) (s : Nat → Nat) (T : Nat → Option Nat) : Prop := (∀ j, j < f → h.1 60 0 j = tI (T j)) ∧ ∀ j w, j < f → T j = some w → Lst G (s j) w ∧ w ≤ 10 * csN T f
theorem nxV_b {G : KG} {c B : Nat} {F : Nat → Nat} (hG : VG G) (hc : VN G c) (hm : mnN G c 5 ≤ 6) (hF : ∀ p, p < 5 → kpN G c p = true → F p ≤ 10 * B) : ∀ n, n ≤ 5 → nxV G c F n ≤ 10 * (B + 1) := by
  intro n
  induction n with
  | zero => intro _; show mnN G c 5 ≤ _; omega
  | succ n ih =>
    intro hn
    have i1 := ih (by omega)
    show (if kpN G c n = true then max (nxV G c F n) (tmN G c n + F n) else nxV G c F n) ≤ _
    by_cases g : kpN G c n = true
    · rw [if_pos g]
      have := hF n (by omega) g
      have := tmN_b hG hc (show n < 5 by omega) (kp_le g).1
      omega
    · rw [if_neg g]; exact i1
theorem lastsOf_wp {h : Hp} {G : KG} {v f i : Nat} {s : Nat → Nat} {T : Nat → Option Nat} (hG : VG G) (hne : ∃ p, p < 5 ∧ G.1 p = true) (m : MG h G v) (lo : LO h G f s) (tb : TB h G f s T) (hi : i < f) : ∃ h' x, fX12_lastsOf (nI i) h = some (tI x, h') ∧ KS h h' ∧ ((x = none ∧ ∃ p j, p < 5 ∧ kpN G (s i) p = true ∧ j < f ∧ s j = nxN G (s i) p ∧ T j = none) ∨ (∃ w, x = some w ∧ Lst G (s i) w ∧ w ≤ 10 * (csN T f + 1))) := by
  obtain ⟨sl, hf, hf0, hs0, clo⟩ := lo
  have hrc := (sl.2.1 i hi).1
  have hvn := hrc.vn hG
  have hm6 : mnN G (s i) 5 ≤ 6 := by
    obtain ⟨p, hp, hs⟩ := hne
    have := (mnN_le (G := G) (c := s i) 5).2 p hp hs
    have := lfN_b (s i) p
    omega
  have hcs := csN_le T f
  have hJ : ∀ p, ∃ j, p < 5 → kpN G (s i) p = true → j < f ∧ s j = nxN G (s i) p := fun p => by
    by_cases g : p < 5 ∧ kpN G (s i) p = true
    · obtain ⟨j, h1, h2⟩ := clo i hi p g.1 g.2
      exact ⟨j, fun _ _ => ⟨h1, h2⟩⟩
    · exact ⟨0, fun h1 h2 => absurd ⟨h1, h2⟩ g⟩
  obtain ⟨J, hJ⟩ := Classical.axiomOfChoice hJ
  suffices hw : WP (fX12_lastsOf (nI i) h) (fun r h' => ∃ x, r = tI x ∧ KS h h' ∧ ((x = none ∧ ∃ p j, p < 5 ∧ kpN G (s i) p = true ∧ j < f ∧ s j = nxN G (s i) p ∧ T j = none) ∨ (∃ w, x = some w ∧ Lst G (s i) w ∧ w ≤ 10 * (csN T f + 1)))) by
    obtain ⟨r, h', e, x, rfl, q⟩ := hw
    exact ⟨h', x, e, q⟩
  unfold fX12_lastsOf
  have hib : ib (nI i) 46656 = true := ib_nI (by omega) (by decide)
  have r58 : ∀ h' : Hp, KS h h' → ra h' 58 0 (nI i) = nI (s i) := fun h' k => by rw [ra_n (by omega)]; exact (k 58 0 i (by decide) (by omega)).trans (sl.2.1 i hi).2.1
  obtain ⟨h1, e1, o1, ks1⟩ := open_wp (h := h) G hvn.1
  have m1 := m.ks ks1
  rw [ck_p hib, r58 h (fun _ _ _ _ _ => rfl), e1, bnd_eq, leastLeft_eq m1 o1, bnd_eq]
  let F : Nat → Nat := fun p => (T (J p)).getD 0
  have hFb : ∀ p, p < 5 → kpN G (s i) p = true → F p ≤ 10 * csN T f := fun p hp hk => by
    show (T (J p)).getD 0 ≤ _
    cases hT : T (J p) with
    | none => exact Nat.zero_le _
    | some w => exact (tb.2 _ w (hJ p hp hk).1 hT).2
  have hV := nxV_b hG hvn hm6 hFb
  refine wp_for2 5 (fun p a h' => a = nI (nxV G (s i) F p) ∧ KS h h' ∧ ∀ p', p' < p → kpN G (s i) p' = true → T (J p') ≠ none) ?_ ?_ FU _ h1 (i0 := 0) (by omega) (FUb (by decide)) ⟨rfl, ks1, fun p' hp' => absurd hp' (Nat.not_lt_zero _)⟩
  · rintro p a h2 rec hp ⟨rfl, ks2, hall⟩ hrec
    unfold fX12_lastsOf_l17
    obtain ⟨h3, e3, o3, ks3⟩ := open_wp (h := h2) G hvn.1
    have m3 := (m.ks ks2).ks ks3
    rw [if_neg (show ¬ (5 : Int32) ≤ nI p from fun q => nI_ge hp (by decide) q), ck_p hib, r58 h2 ks2, e3, bnd_eq, isKeptM_eq hG m3 hvn o3 hp, bnd_eq, jn_eq]
    by_cases g : kpN G (s i) p = true
    · obtain ⟨hj, ej⟩ := hJ p hp g
      obtain ⟨t, et, ht⟩ := beatsTo_eq hG m3 hvn o3 hp
      have htm := ht (kp_le g).1
      subst htm
      have htb := tmN_b hG hvn hp (kp_le g).1
      obtain ⟨h4, e4, o4, ks4⟩ := behindRunM_wp hG m3 hvn o3 hp g
      have ksA := (ks2.trans ks3).trans ks4
      have hnx := (hrc.next hp g).vn hG
      have r59 : ra h4 59 0 (nI (nxN G (s i) p)) - (1 : Int32) = nI (J p) := by
        rw [ra_n (by have := hnx.1; omega), show h4.1 59 (0 % cnt 59) (nxN G (s i) p) = h.1 59 0 (nxN G (s i) p) from ksA _ _ _ (by decide) (by omega), ← ej, (sl.2.1 _ hj).2.2]
        exact nI_sub (b := 1) (by omega)
      have r60 : ra h4 60 0 (nI (J p)) = tI (T (J p)) := by rw [ra_n (by omega)]; exact (ksA _ _ _ (by decide) (by omega)).trans (tb.1 _ hj)
      rw [if_pos g, if_neg ne10, et, bnd_eq, e4, bnd_eq, ck_p (ib_nI hnx.1 (by decide)), r59, ck_p (ib_nI (by omega) (by decide)), r60, lt_eq]
      have hVp := hV p (by omega)
      cases hT : T (J p) with
      | none =>
        rw [if_pos (show tI none = -1 from rfl)]
        exact wp_some ⟨none, rfl, ksA, Or.inl ⟨rfl, p, J p, hp, g, hj, ej, hT⟩⟩
      | some w =>
        have hw := (tb.2 _ w hj hT).2
        rw [if_neg (show ¬ tI (some w) = -1 from fun q => neg_ne (show w < 2 ^ 31 by omega) q.symm)]
        show WP (bnd (fX12_greater (nI (nxV G (s i) F p)) (nI (tmN G (s i) p) + nI w) h4) _) _
        rw [nI_add, maxI' (by omega) (by omega), bnd_eq]
        dsimp only
        rw [lt_eq, nI_1]
        refine hrec _ _ ⟨?_, ksA, fun p' hp' hk' => ?_⟩
        · show _ = nI (if kpN G (s i) p = true then max (nxV G (s i) F p) (tmN G (s i) p + (T (J p)).getD 0) else _)
          rw [if_pos g, hT]; rfl
        · by_cases q : p' = p
          · rw [q, hT]; exact fun w => by cases w
          · exact hall p' (by omega) hk'
    · rw [if_neg g, if_pos rfl]
      dsimp only
      rw [lt_eq, nI_1]
      refine hrec _ _ ⟨?_, ks2.trans ks3, fun p' hp' hk' => ?_⟩
      · show _ = nI (if kpN G (s i) p = true then _ else nxV G (s i) F p)
        rw [if_neg g]
      · by_cases q : p' = p
        · rw [q] at hk'; exact absurd hk' g
        · exact hall p' (by omega) hk'
  · rintro a h2 rec ⟨rfl, ks2, hall⟩
    unfold fX12_lastsOf_l17
    rw [if_pos (show (5 : Int32) ≤ nI 5 by decide)]
    refine wp_some ⟨some (nxV G (s i) F 5), rfl, ks2, Or.inr ⟨_, rfl, Lst.step (fun p hp hk => ?_), hV 5 (Nat.le_refl _)⟩⟩
    show Lst G (nxN G (s i) p) ((T (J p)).getD 0)
    cases hT : T (J p) with
    | none => exact absurd hT (hall p hp hk)
    | some w =>
      have := (tb.2 _ w (hJ p hp hk).1 hT).1
      rw [(hJ p hp hk).2] at this
      exact this
