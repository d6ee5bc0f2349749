/-! a stand is entered -/
theorem kp_of {G : KG} {c p : Nat} (h1 : G.1 p = true) (h2 : tmN G c p ≤ lfN c p) (h3 : ∀ e, e < 5 → e ≠ p → G.1 e = true → tmN G c p < lfN c e) : kpN G c p = true := by
  have key : ∀ n, n ≤ 5 → kqN G c (tmN G c p) p n = true := by
    intro n
    induction n with
    | zero => intro _; rfl
    | succ n ih =>
      intro hn
      show (kqN G c (tmN G c p) p n && (decide (n = p) || (!G.1 n || decide (tmN G c p < lfN c n)))) = true
      rw [ih (by omega), Bool.true_and]
      by_cases q : n = p
      · rw [decide_eq_true q]; rfl
      · cases hs : G.1 n with
        | false => rw [Bool.not_false, Bool.true_or, Bool.or_true]
        | true => rw [decide_eq_true (h3 n (by omega) q hs), Bool.or_true, Bool.or_true]
  unfold kpN
  rw [h1, decide_eq_true h2, key 5 (Nat.le_refl _)]; rfl
theorem kpC_eq {n sp st c p : Nat} {pl li le : Nat → Nat} (hn : n ≤ 5) (hp : p < n) : kpB (wayN sp (plN (GC n sp st pl li le) c) (pl p)) p (lpC n c) n = kpN (GC n sp st pl li le) c p := by
  have ht : tmN (GC n sp st pl li le) c p = wayN sp (plN (GC n sp st pl li le) c) (pl p) + 1 := rfl
  have hS : ∀ e, (GC n sp st pl li le).1 e = true ↔ e < n := fun e => decide_eq_true_iff
  cases hk : kpN (GC n sp st pl li le) c p with
  | true =>
    obtain ⟨a1, a2, a3⟩ := kp_le hk
    refine (kpB_iff n).mpr (fun k hkn => ?_)
    unfold lpC
    rw [if_pos hkn]
    by_cases q : k = p
    · rw [if_pos q, q]; omega
    · rw [if_neg q]
      have := a3 k (by omega) q ((hS k).mpr hkn)
      omega
  | false =>
    cases hb : kpB (wayN sp (plN (GC n sp st pl li le) c) (pl p)) p (lpC n c) n with
    | false => rfl
    | true =>
      have h := (kpB_iff n).mp hb
      have : kpN (GC n sp st pl li le) c p = true := by
        refine kp_of ((hS p).mpr hp) ?_ (fun e he hne hse => ?_)
        · have := h p hp
          unfold lpC at this
          rw [if_pos rfl, if_pos hp] at this
          omega
        · have hen := (hS e).mp hse
          have := h e hen
          unfold lpC at this
          rw [if_neg hne, if_pos hen] at this
          omega
      rw [hk] at this
      cases this
theorem pkN_congr {L L' : Nat → Nat} (h : ∀ k, k < 5 → L k = L' k) : pkN L = pkN L' := by
  unfold pkN
  rw [h 0 (by decide), h 1 (by decide), h 2 (by decide), h 3 (by decide), h 4 (by decide)]
theorem rnC_eq {n sp st c p : Nat} {pl li le : Nat → Nat} (hv : SV sp st n pl li le) (hp : p < n) (hk : kpN (GC n sp st pl li le) c p = true) : pkN (rnL (wayN sp (plN (GC n sp st pl li le) c) (pl p)) p (li p) (lpC n c)) = pkN (lpC n (nxN (GC n sp st pl li le) c p)) := by
  have hG := GC_VG hv
  have hn := hv.2.2.2.1
  obtain ⟨a1, a2, a3⟩ := kp_le hk
  have ht : tmN (GC n sp st pl li le) c p = wayN sp (plN (GC n sp st pl li le) c) (pl p) + 1 := rfl
  refine pkN_congr (fun q hq => ?_)
  unfold rnL lpC
  by_cases hqn : q < n
  · have hs : (GC n sp st pl li le).1 q = true := decide_eq_true hqn
    rw [if_pos hqn, if_pos hp, if_pos hqn]
    have e : lfN (nxN (GC n sp st pl li le) c p) q = (if q = p then li q - 1 else lfN c q - tmN (GC n sp st pl li le) c p - 1) + 1 := by
      unfold nxN
      rw [cdN_dig (nx_dig hG c p) hq]
      show (if (GC n sp st pl li le).1 q = true then _ else 0) + 1 = _
      rw [if_pos hs]; rfl
    rw [e]
    by_cases qp : q = p
    · have := (hv.2.2.2.2 q hqn).2.1
      rw [if_pos ⟨qp, by omega⟩, if_pos qp, ← qp]; omega
    · have := a3 q hq qp hs
      rw [if_neg (fun w => qp w.1), if_neg qp]; omega
  · have w1 : q ≠ p := fun w => hqn (by omega)
    simp only [if_neg hqn, w1, false_and, if_false, Nat.zero_sub]
theorem placeOf_eq {h : Hp} {n sp st f i : Nat} {pl li le s : Nat → Nat} (hv : SV sp st n pl li le) (hc : CSt h 10 sp st n pl li le) (t : KT h n (GC n sp st pl li le) f s) (hf : f ≤ 2191) (hi : i < f) : fX2_placeOf (nI i) h = some (nI (plN (GC n sp st pl li le) (s i)), h) := by
  have hn := hv.2.2.2.1
  have hvn := ((t.2.1 i hi).1).vn (GC_VG hv)
  have hr := hvn.2
  unfold fX2_placeOf
  have r12 : ra h 12 0 (nI i) = nI (s i / 7776) := by rw [ra_n (by omega)]; exact (t.2.1 i hi).2.1
  rw [ck_p (ib_nI (by omega) (by decide)), lt_eq, r12, has8_eq (by decide) hc.2.2.1, bnd_eq]
  unfold plN
  by_cases g : s i / 7776 = 5
  · rw [if_pos (Or.inr (nI_le (by omega) (by omega))), if_pos rfl, if_pos g]
    exact congrArg (fun z => some (z, h)) hc.2.1
  · have hb := hr.resolve_left g
    have hbn : s i / 7776 < n := of_decide_eq_true hb.2
    rw [if_neg (in_no hbn (by omega)), if_neg ne10, ck_p (ib_nI hb.1 (by decide)), if_neg g, ra_n (by omega)]
    exact congrArg (fun z => some (z, h)) (hc.2.2.2 _ hbn).1
/-- the followers of a stand, as far as they are noted -/
def FW (h : Hp) (G : KG) (f : Nat) (s : Nat → Nat) (i P : Nat) : Prop := ∀ p, p < P → (kpN G (s i) p = true → ∃ j, j < f ∧ s j = nxN G (s i) p ∧ h.1 18 0 (5 * i + p) = nI j) ∧ (kpN G (s i) p = false → h.1 18 0 (5 * i + p) = -1)
theorem enter_wp {h : Hp} {n sp st f i D : Nat} {pl li le s : Nat → Nat} (hv : SV sp st n pl li le) (hc : CSt h 10 sp st n pl li le) (t : KT h n (GC n sp st pl li le) f s) (hf : f ≤ 2191) (hi : i < f) (hD : D < 2200) (e3 : h.1 0 0 3 = nI D) : ∃ h' f' s', fX2_enter (nI i) h = some ((), h') ∧ KT h' n (GC n sp st pl li le) f' s' ∧ f ≤ f' ∧ f' ≤ 2191 ∧ (∀ q, q < f → s' q = s q) ∧ h'.1 0 0 3 = nI (D + 1) ∧ h'.1 17 0 D = nI i ∧ (∀ k, k ≠ D → h'.1 17 0 k = h.1 17 0 k) ∧ h'.1 14 0 i = 1 ∧ (∀ q, q < f → q ≠ i → h'.1 14 0 q = h.1 14 0 q) ∧ (∀ q, f ≤ q → q < f' → h'.1 14 0 q = 0) ∧ h'.1 15 0 i = 0 ∧ (∀ q, q ≠ i → h'.1 15 0 q = h.1 15 0 q) ∧ FW h' (GC n sp st pl li le) f' s' i n ∧ (∀ q p, q ≠ i → p < 5 → h'.1 18 0 (5 * q + p) = h.1 18 0 (5 * q + p)) ∧ ∀ k s i, ¬ (11 ≤ k ∧ k ≤ 15) → k ≠ 17 → k ≠ 18 → ¬ (k = 0 ∧ (i = 2 ∨ i = 3)) → h'.1 k s i = h.1 k s i := by
  have hG := GC_VG hv
  have hn := hv.2.2.2.1
  suffices hw : WP (fX2_enter (nI i) h) (fun _ h' => ∃ f' s', KT h' n (GC n sp st pl li le) f' s' ∧ f ≤ f' ∧ f' ≤ 2191 ∧ (∀ q, q < f → s' q = s q) ∧ h'.1 0 0 3 = nI (D + 1) ∧ h'.1 17 0 D = nI i ∧ (∀ k, k ≠ D → h'.1 17 0 k = h.1 17 0 k) ∧ h'.1 14 0 i = 1 ∧ (∀ q, q < f → q ≠ i → h'.1 14 0 q = h.1 14 0 q) ∧ (∀ q, f ≤ q → q < f' → h'.1 14 0 q = 0) ∧ h'.1 15 0 i = 0 ∧ (∀ q, q ≠ i → h'.1 15 0 q = h.1 15 0 q) ∧ FW h' (GC n sp st pl li le) f' s' i n ∧ (∀ q p, q ≠ i → p < 5 → h'.1 18 0 (5 * q + p) = h.1 18 0 (5 * q + p)) ∧ ∀ k s i, ¬ (11 ≤ k ∧ k ≤ 15) → k ≠ 17 → k ≠ 18 → ¬ (k = 0 ∧ (i = 2 ∨ i = 3)) → h'.1 k s i = h.1 k s i) by
    obtain ⟨u, h', e, f', s', q⟩ := hw
    exact ⟨h', f', s', e, q⟩
  unfold fX2_enter
  have r3 : rd h 0 0 3 = nI D := e3
  have hib : ib (nI i) 2200 = true := ib_nI (by omega) (by decide)
  rw [if_neg (fun q => in_no (show i < 2200 by omega) (by decide) (Or.inl q)), if_neg (show ¬ (2200 : Int32) ≤ nI i from fun q => nI_ge (show i < 2200 by omega) (by decide) q), r3, if_pos (show nI D < (2200 : Int32) from nI_lt (b := 2200) hD (by decide)), ck_p (ib_nI hD (by decide)), nar_s (by omega), lt_eq]
  rw [show rd (wa h 17 0 (nI D) (nI i)) 0 0 3 = nI D from e3, nI_1, lt_eq, ck_p hib, lt_eq, ck_p hib, lt_eq]
  generalize hH : wa (wa (wr (wa h 17 0 (nI D) (nI i)) 0 0 3 (nI (D + 1))) 14 0 (nI i) (vp_nar .byte 1)) 15 0 (nI i) (vp_nar .byte 0) = H
  have v17 : ∀ k, H.1 17 0 k = if k = D then nI i else h.1 17 0 k := fun k => by
    rw [← hH, wa_g, if_neg (by omega), wa_g, if_neg (by omega), wr_other (by decide), wa_g, nI_clamp (by omega), show 0 % cnt 17 = 0 from rfl]
    by_cases q : k = D
    · rw [if_pos ⟨rfl, rfl, q⟩, if_pos q]
    · rw [if_neg (fun w => q w.2.2), if_neg q]
  have v14 : ∀ q, H.1 14 0 q = if q = i then 1 else h.1 14 0 q := fun q => by
    rw [← hH, wa_g, if_neg (by omega), wa_g, nI_clamp (by omega), show 0 % cnt 14 = 0 from rfl]
    by_cases w : q = i
    · rw [if_pos ⟨rfl, rfl, w⟩, if_pos w]; rfl
    · rw [if_neg (fun z => w z.2.2), if_neg w, wr_other (by decide), wa_g, if_neg (by omega)]
  have v15 : ∀ q, H.1 15 0 q = if q = i then 0 else h.1 15 0 q := fun q => by
    rw [← hH, wa_g, nI_clamp (by omega), show 0 % cnt 15 = 0 from rfl]
    by_cases w : q = i
    · rw [if_pos ⟨rfl, rfl, w⟩, if_pos w]; rfl
    · rw [if_neg (fun z => w z.2.2), if_neg w, wa_g, if_neg (by omega), wr_other (by decide), wa_g, if_neg (by omega)]
  have v03 : H.1 0 0 3 = nI (D + 1) := by rw [← hH]; rfl
  have vo : ∀ k s j, k ≠ 14 → k ≠ 15 → k ≠ 17 → ¬ (k = 0 ∧ j = 3) → H.1 k s j = h.1 k s j := fun k s j u1 u2 u3 u4 => by
    rw [← hH, wa_g, if_neg (by omega), wa_g, if_neg (by omega), wr_g, if_neg (by omega), wa_g, if_neg (by omega)]
  have hcH : CSt H 10 sp st n pl li le := hc.cp (fun k j hk => vo k 10 j (by omega) (by omega) (by omega) (by omega))
  have tH : KT H n (GC n sp st pl li le) f s := t.cp (fun k i hk => vo k 0 i (by omega) (by omega) (by omega) (by omega))
  rw [placeOf_eq hv hcH tH hf hi, bnd_eq]
  have hrc := (t.2.1 i hi).1
  have hvn := hrc.vn hG
  have hpl := plN_le hG hvn
  generalize hci : s i = ci at hrc hvn hpl
  refine wp_for1 n (fun p h' => ∃ f' s', KT h' n (GC n sp st pl li le) f' s' ∧ f ≤ f' ∧ f' ≤ 2191 ∧ (∀ q, q < f → s' q = s q) ∧ (∀ q, q < f → h'.1 14 0 q = H.1 14 0 q) ∧ (∀ q, f ≤ q → q < f' → h'.1 14 0 q = 0) ∧ FW h' (GC n sp st pl li le) f' s' i p ∧ (∀ q p, q ≠ i → p < 5 → h'.1 18 0 (5 * q + p) = h.1 18 0 (5 * q + p)) ∧ ∀ k s j, k ≠ 11 → k ≠ 12 → k ≠ 13 → k ≠ 14 → k ≠ 18 → ¬ (k = 0 ∧ j = 2) → h'.1 k s j = H.1 k s j) ?_ ?_ FU H (i0 := 0) (by omega) (FUb (by omega)) ⟨f, s, tH, Nat.le_refl _, hf, fun _ _ => rfl, fun _ _ => rfl, fun q h1 h2 => absurd h2 (by omega), fun p hp => absurd hp (Nat.not_lt_zero _), fun q p _ _ => vo 18 0 _ (by decide) (by decide) (by decide) (by omega), fun _ _ _ _ _ _ _ _ _ => rfl⟩
  · rintro p h1 rec hp ⟨f1, s1, t1, hf1, hf1', hs1, m14, n14, fw, o18, ot⟩ hrec
    unfold fX2_enter_l65
    have hc1 : CSt h1 10 sp st n pl li le := hcH.cp (fun k j hk => ot k 10 j (by omega) (by omega) (by omega) (by omega) (by omega) (by omega))
    have r2 : rd h1 6 10 2 = nI n := hc1.2.2.1
    have hs1i : s1 i = ci := (hs1 i hi).trans hci
    have r13 : ra h1 13 0 (nI i) = nI (pkN (lpC n ci)) := by rw [ra_n (by omega), ← hs1i]; exact (t1.2.1 i (by omega)).2.2.1
    have eix : nI i * (5 : Int32) + nI p = nI (5 * i + p) := by rw [show (5 : Int32) = nI 5 from rfl, nI_mul, nI_add, Nat.mul_comm]
    rw [r2, if_neg (fun q => nI_ge hp (by omega) q), ck_p hib, r13, isKeptC_eq (lpC_D7 n ci) (by decide) hv hc1 hpl hp, bnd_eq, jn_eq, kpC_eq hn hp, eix]
    have fin : ∀ (y : Int32) (h2 : Hp) (f2 : Nat) (s2 : Nat → Nat), KT h2 n (GC n sp st pl li le) f2 s2 → f1 ≤ f2 → f2 ≤ 2191 → (∀ q, q < f1 → s2 q = s1 q) → (∀ q, q < f1 → h2.1 14 0 q = h1.1 14 0 q) → (∀ q, f1 ≤ q → q < f2 → h2.1 14 0 q = 0) → (∀ k s j, k ≠ 11 → k ≠ 12 → k ≠ 13 → k ≠ 14 → ¬ (k = 0 ∧ j = 2) → h2.1 k s j = h1.1 k s j) → vp_nar .short (y.toInt16.toInt32) = y → ((kpN (GC n sp st pl li le) ci p = true → ∃ j, j < f2 ∧ s2 j = nxN (GC n sp st pl li le) ci p ∧ y = nI j) ∧ (kpN (GC n sp st pl li le) ci p = false → y = -1)) → WP (ck (ib (nI (5 * i + p)) 11000) (lt (wa h2 18 0 (nI (5 * i + p)) (vp_nar .short (y.toInt16.toInt32))) fun h11 => lt (nI p + 1) fun x12 => rec x12 h11)) (fun _ h' => ∃ f' s', KT h' n (GC n sp st pl li le) f' s' ∧ f ≤ f' ∧ f' ≤ 2191 ∧ (∀ q, q < f → s' q = s q) ∧ h'.1 0 0 3 = nI (D + 1) ∧ h'.1 17 0 D = nI i ∧ (∀ k, k ≠ D → h'.1 17 0 k = h.1 17 0 k) ∧ h'.1 14 0 i = 1 ∧ (∀ q, q < f → q ≠ i → h'.1 14 0 q = h.1 14 0 q) ∧ (∀ q, f ≤ q → q < f' → h'.1 14 0 q = 0) ∧ h'.1 15 0 i = 0 ∧ (∀ q, q ≠ i → h'.1 15 0 q = h.1 15 0 q) ∧ FW h' (GC n sp st pl li le) f' s' i n ∧ (∀ q p, q ≠ i → p < 5 → h'.1 18 0 (5 * q + p) = h.1 18 0 (5 * q + p)) ∧ ∀ k s i, ¬ (11 ≤ k ∧ k ≤ 15) → k ≠ 17 → k ≠ 18 → ¬ (k = 0 ∧ (i = 2 ∨ i = 3)) → h'.1 k s i = h.1 k s i) := by
      intro y h2 f2 s2 t2 a1 a2 a3 a4 a5 a6 a7 a8
      rw [ck_p (ib_nI (by omega) (by decide)), a7, lt_eq, lt_eq, nI_1]
      have w18 : ∀ k s j, k ≠ 18 → (wa h2 18 0 (nI (5 * i + p)) y).1 k s j = h2.1 k s j := fun k s j hk => by rw [wa_g, if_neg (by omega)]
      have w18' : ∀ j, (wa h2 18 0 (nI (5 * i + p)) y).1 18 0 j = if j = 5 * i + p then y else h1.1 18 0 j := fun j => by
        rw [wa_g, nI_clamp (by omega), show 0 % cnt 18 = 0 from rfl]
        by_cases q : j = 5 * i + p
        · rw [if_pos ⟨rfl, rfl, q⟩, if_pos q]
        · rw [if_neg (fun w => q w.2.2), if_neg q]; exact a6 18 0 j (by decide) (by decide) (by decide) (by decide) (by omega)
      refine hrec _ ⟨f2, s2, t2.cp (fun k i hk => w18 k 0 i (by omega)), by omega, a2, fun q hq => (a3 q (by omega)).trans (hs1 q hq), fun q hq => (w18 _ _ _ (by decide)).trans ((a4 q (by omega)).trans (m14 q hq)), fun q h1' h2' => ?_, fun p' hp' => ?_, fun q p' hq hp' => ?_, fun k s j u1 u2 u3 u4 u5 u6 => (w18 k s j u5).trans ((a6 k s j u1 u2 u3 u4 u6).trans (ot k s j u1 u2 u3 u4 u5 u6))⟩
      · rw [w18 _ _ _ (by decide)]
        by_cases q1 : q < f1
        · exact (a4 q q1).trans (n14 q h1' q1)
        · exact a5 q (by omega) h2'
      · have hs2i : s2 i = ci := (a3 i (by omega)).trans hs1i
        rw [hs2i]
        by_cases q : p' = p
        · rw [q, w18', if_pos rfl]; exact a8
        · rw [w18', if_neg (by omega)]
          have := fw p' (by omega)
          rw [hs1i] at this
          refine ⟨fun hk' => ?_, this.2⟩
          obtain ⟨j, hj, ej, e18⟩ := this.1 hk'
          exact ⟨j, by omega, (a3 j hj).trans ej, e18⟩
      · rw [w18', if_neg (by omega)]; exact o18 q p' hq hp'
    by_cases g : kpN (GC n sp st pl li le) ci p = true
    · rw [if_pos g, if_neg ne10, ck_p hib, r13, behindRunC_eq (lpC_D7 n ci) (by decide) hv hc1 hpl hp, bnd_eq, rnC_eq hv hp g]
      have hnrc := hrc.next (show p < 5 by omega) g
      have hrun : nxN (GC n sp st pl li le) ci p / 7776 = p := by unfold nxN; exact cdN_run (nx_dig hG ci p)
      obtain ⟨h2, f2, s2, j, e2, t2, b1, b2, b3, b4, b5, b6, b7⟩ := numberFor_wp hv t1 hf1' hnrc
      rw [hrun] at e2
      rw [e2, bnd_eq]
      refine fin (nI j) h2 f2 s2 t2 b1 b2 b3 (fun q hq => ?_) (fun q h1' h2' => ?_) (fun k s j' u1 u2 u3 u4 u5 => b6 k s j' u1 u2 u3 u5 (by omega)) (nar_s (by omega)) ⟨fun _ => ⟨j, b4, b5, rfl⟩, fun w => by rw [g] at w; cases w⟩
      · exact b6 14 0 q (by decide) (by decide) (by decide) (by omega) (by omega)
      · rcases b7 with ⟨c1, -⟩ | ⟨c1, c2, c3⟩
        · omega
        · rw [show q = f1 by omega]; exact c3
    · rw [if_neg g, if_pos rfl]
      exact fin (-1) h1 f1 s1 t1 (Nat.le_refl _) hf1' (fun _ _ => rfl) (fun _ _ => rfl) (fun q h1' h2' => absurd h2' (by omega)) (fun _ _ _ _ _ _ _ _ => rfl) (by rw [vp_nar_short]; decide) ⟨fun w => absurd w g, fun _ => rfl⟩
  · rintro h1 rec ⟨f1, s1, t1, hf1, hf1', hs1, m14, n14, fw, o18, ot⟩
    unfold fX2_enter_l65
    have hc1 : CSt h1 10 sp st n pl li le := hcH.cp (fun k j hk => ot k 10 j (by omega) (by omega) (by omega) (by omega) (by omega) (by omega))
    have r2 : rd h1 6 10 2 = nI n := hc1.2.2.1
    rw [r2, if_pos (nI_le (Nat.le_refl _) (by omega))]
    refine wp_some ⟨f1, s1, t1, hf1, hf1', hs1, (ot 0 0 3 (by decide) (by decide) (by decide) (by decide) (by decide) (by decide)).trans v03, ?_, fun k hk => ?_, ?_, fun q hq hne => ?_, n14, ?_, fun q hne => ?_, fw, o18, fun k s j u1 u2 u3 u4 => ?_⟩
    · rw [ot 17 0 D (by decide) (by decide) (by decide) (by decide) (by decide) (by omega), v17, if_pos rfl]
    · rw [ot 17 0 k (by decide) (by decide) (by decide) (by decide) (by decide) (by omega), v17, if_neg hk]
    · rw [m14 i hi, v14, if_pos rfl]
    · rw [m14 q hq, v14, if_neg hne]
    · rw [ot 15 0 i (by decide) (by decide) (by decide) (by decide) (by decide) (by omega), v15, if_pos rfl]
    · rw [ot 15 0 q (by decide) (by decide) (by decide) (by decide) (by decide) (by omega), v15, if_neg hne]
    · rw [ot k s j (by omega) (by omega) (by omega) (by omega) u3 (by omega)]
      exact vo k s j (by omega) (by omega) u2 (by omega)
