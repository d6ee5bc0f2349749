/-! a stand is finished -/
theorem nxV_stop {G : KG} {c n : Nat} {F : Nat → Nat} (h : ∀ p, n ≤ p → kpN G c p = false) : ∀ m, n ≤ m → nxV G c F m = nxV G c F n := by
  intro m
  induction m with
  | zero => intro hm; rw [show n = 0 by omega]
  | succ m ih =>
    intro hm
    by_cases q : n = m + 1
    · rw [q]
    · show (if kpN G c m = true then _ else nxV G c F m) = _
      rw [if_neg (by rw [h m (by omega)]; decide)]
      exact ih (by omega)
theorem sn_mn {n sp st c : Nat} {pl li le : Nat → Nat} : ∀ k, k ≤ 5 → (min 6 (mnN (GC n sp st pl li le) c k) = snN (lpC n c) (min k n)) := by
  intro k
  induction k with
  | zero => intro _; rw [Nat.zero_min]; rfl
  | succ k ih =>
    intro hk
    have i1 := ih (by omega)
    have e : mnN (GC n sp st pl li le) c (k + 1) = (if (GC n sp st pl li le).1 k = true then min (mnN (GC n sp st pl li le) c k) (lfN c k) else mnN (GC n sp st pl li le) c k) := rfl
    rw [e]
    by_cases g : k < n
    · rw [if_pos (show (GC n sp st pl li le).1 k = true from decide_eq_true g), show min (k + 1) n = k + 1 by omega]
      rw [show min k n = k by omega] at i1
      show _ = min (snN (lpC n c) k) (lpC n c k)
      rw [← i1, show lpC n c k = lfN c k by unfold lpC; rw [if_pos g]]
      omega
    · rw [if_neg (show ¬ (GC n sp st pl li le).1 k = true from fun w => g (of_decide_eq_true w)), show min (k + 1) n = n by omega]
      rw [show min k n = n by omega] at i1
      exact i1
theorem sn_mn5 {n sp st c : Nat} {pl li le : Nat → Nat} (hn : n ≤ 5) (h1 : 1 ≤ n) : snN (lpC n c) n = mnN (GC n sp st pl li le) c 5 ∧ mnN (GC n sp st pl li le) c 5 ≤ 6 := by
  have a := sn_mn (n := n) (sp := sp) (st := st) (c := c) (pl := pl) (li := li) (le := le) 5 (Nat.le_refl _)
  have b := (mnN_le (G := GC n sp st pl li le) (c := c) 5).2 0 (by decide) (decide_eq_true (by omega))
  have := lfN_b c 0
  rw [show min 5 n = n by omega] at a
  exact ⟨by omega, by omega⟩
theorem followerOf_eq {h : Hp} {n i p : Nat} (hn : n ≤ 5) (e2 : h.1 6 10 2 = nI n) (hi : i < 2200) (hp : p < n) : fX2_followerOf (nI i) (nI p) h = some (h.1 18 0 (5 * i + p), h) := by
  unfold fX2_followerOf
  have eix : nI i * (5 : Int32) + nI p = nI (5 * i + p) := by rw [show (5 : Int32) = nI 5 from rfl, nI_mul, nI_add, Nat.mul_comm]
  rw [eix, lt_eq, has8_eq (by decide) e2, bnd_eq, jn_eq, if_neg (in_no hp (by omega)), if_neg ne10, if_neg (fun q => in_no (show 5 * i + p < 11000 by omega) (by decide) (Or.inl q)), if_neg (show ¬ (11000 : Int32) ≤ nI (5 * i + p) from fun q => nI_ge (show 5 * i + p < 11000 by omega) (by decide) q), ck_p (ib_nI (by omega) (by decide)), ra_n (by omega)]
  rfl
theorem beatsToC_eq {h : Hp} {n sp st f i p : Nat} {pl li le s : Nat → Nat} (hv : SV sp st n pl li le) (hc : CSt h 10 sp st n pl li le) (t : KT h n (GC n sp st pl li le) f s) (hf : f ≤ 2191) (hi : i < f) (hp : p < n) : fX2_beatsTo (nI i) (nI p) h = some (nI (tmN (GC n sp st pl li le) (s i) p), h) := by
  have hn := hv.2.2.2.1
  have hvn := ((t.2.1 i hi).1).vn (GC_VG hv)
  unfold fX2_beatsTo
  rw [placeOf_eq hv hc t hf hi, bnd_eq, ck_p (ib_nI (by omega) (by decide)), show ra h 33 10 (nI p) = nI (pl p) by rw [ra_n (by omega)]; exact (hc.2.2.2 p hp).1, way8_eq (by decide) hv.1 hv.2.1 hc.1 (plN_le (GC_VG hv) hvn) (hv.2.2.2.2 p hp).1, bnd_eq, nI_1]
  rfl
theorem nI_nm1 {x : Nat} (hx : x < 2 ^ 31) : ¬ nI x = -1 := fun q => by
  have h1 := congrArg Int32.toInt q
  rw [nI_toInt hx] at h1
  have e1 : (-1 : Int32).toInt = -1 := by decide
  omega
theorem finish_wp {h : Hp} {n sp st f i B : Nat} {pl li le s : Nat → Nat} {T : Nat → Option Nat} (hv : SV sp st n pl li le) (hc : CSt h 10 sp st n pl li le) (t : KT h n (GC n sp st pl li le) f s) (hf : f ≤ 2191) (h1n : 1 ≤ n) (hi : i < f) (fw : FW h (GC n sp st pl li le) f s i n) (hm : ∀ j, j < f → h.1 14 0 j = 2 → ∃ w, T j = some w) (hT : ∀ j w, j < f → T j = some w → h.1 14 0 j = 2 ∧ h.1 16 0 j = nI w ∧ Lst (GC n sp st pl li le) (s j) w ∧ w ≤ 10 * B) (hB : B ≤ 2200) : ∃ h', fX2_finish (nI i) h = some ((), h') ∧ (∀ k s j, ¬ (k = 14 ∧ j = i) → ¬ (k = 16 ∧ j = i) → h'.1 k s j = h.1 k s j) ∧ ((h'.1 14 0 i = 2 ∧ ∃ w, h'.1 16 0 i = nI w ∧ Lst (GC n sp st pl li le) (s i) w ∧ w ≤ 10 * (B + 1)) ∨ (h'.1 14 0 i = 3 ∧ h'.1 16 0 i = 0 ∧ ∃ p j, p < n ∧ kpN (GC n sp st pl li le) (s i) p = true ∧ j < f ∧ s j = nxN (GC n sp st pl li le) (s i) p ∧ T j = none)) := by
  have hG := GC_VG hv
  have hn := hv.2.2.2.1
  have hrc := (t.2.1 i hi).1
  have hvn := hrc.vn hG
  have hsn := sn_mn5 (n := n) (sp := sp) (st := st) (c := s i) (pl := pl) (li := li) (le := le) hn h1n
  have hib : ib (nI i) 2200 = true := ib_nI (by omega) (by decide)
  have hJ : ∀ p, ∃ j, p < n → kpN (GC n sp st pl li le) (s i) p = true → j < f ∧ s j = nxN (GC n sp st pl li le) (s i) p ∧ h.1 18 0 (5 * i + p) = nI j := fun p => by
    by_cases g : p < n ∧ kpN (GC n sp st pl li le) (s i) p = true
    · obtain ⟨j, a⟩ := (fw p g.1).1 g.2
      exact ⟨j, fun _ _ => a⟩
    · exact ⟨0, fun a b => absurd ⟨a, b⟩ g⟩
  obtain ⟨J, hJ⟩ := Classical.axiomOfChoice hJ
  have hkn : ∀ p, n ≤ p → kpN (GC n sp st pl li le) (s i) p = false := fun p hp => by
    cases hk : kpN (GC n sp st pl li le) (s i) p with
    | false => rfl
    | true => exact absurd (of_decide_eq_true (kp_le hk).1) (by omega)
  generalize hF : (fun p => (T (J p)).getD 0) = F
  have hFb : ∀ p, p < n → kpN (GC n sp st pl li le) (s i) p = true → F p ≤ 10 * B := fun p hp hk => by
    rw [← hF]
    show (T (J p)).getD 0 ≤ _
    cases hx : T (J p) with
    | none => show 0 ≤ _; omega
    | some w => exact (hT _ w (hJ p hp hk).1 hx).2.2.2
  have hnx : ∀ m, m ≤ 5 → nxV (GC n sp st pl li le) (s i) F m ≤ 10 * (B + 1) := nxV_b hG hvn hsn.2 (fun p hp hk => hFb p (of_decide_eq_true (kp_le hk).1) hk)
  suffices hw : WP (fX2_finish (nI i) h) (fun _ h' => (∀ k s j, ¬ (k = 14 ∧ j = i) → ¬ (k = 16 ∧ j = i) → h'.1 k s j = h.1 k s j) ∧ ((h'.1 14 0 i = 2 ∧ ∃ w, h'.1 16 0 i = nI w ∧ Lst (GC n sp st pl li le) (s i) w ∧ w ≤ 10 * (B + 1)) ∨ (h'.1 14 0 i = 3 ∧ h'.1 16 0 i = 0 ∧ ∃ p j, p < n ∧ kpN (GC n sp st pl li le) (s i) p = true ∧ j < f ∧ s j = nxN (GC n sp st pl li le) (s i) p ∧ T j = none))) by
    obtain ⟨u, h', e, q⟩ := hw
    exact ⟨h', e, q⟩
  unfold fX2_finish
  have r2 : rd h 6 10 2 = nI n := hc.2.2.1
  rw [jn_eq, r2, if_neg (fun q => by have := (eq0_n (by omega)).mp q; omega)]
  dsimp only
  rw [ck_p hib, show ra h 13 0 (nI i) = nI (pkN (lpC n (s i))) by rw [ra_n (by omega)]; exact (t.2.1 i hi).2.2.1, soonest_eq (lpC_D7 n (s i)) (by decide) hn hc.2.2.1, bnd_eq]
  refine wp_for3 n (fun p a b h' => h' = h ∧ ((a = 0 ∧ b = nI (nxV (GC n sp st pl li le) (s i) F p) ∧ ∀ p', p' < p → kpN (GC n sp st pl li le) (s i) p' = true → T (J p') = some (F p')) ∨ (a = 1 ∧ ∃ p', p' < p ∧ kpN (GC n sp st pl li le) (s i) p' = true ∧ T (J p') = none))) ?_ ?_ FU _ _ h (i0 := 0) (by omega) (FUb (by omega)) ⟨rfl, Or.inl ⟨rfl, by rw [hsn.1]; rfl, fun p' hp' => absurd hp' (Nat.not_lt_zero _)⟩⟩
  · rintro p a b h1 rec hp ⟨rfl, hab⟩ hrec
    unfold fX2_finish_l33
    rw [r2, if_neg (fun q => nI_ge hp (by omega) q), followerOf_eq hn hc.2.2.1 (by omega) hp, bnd_eq, jn_eq]
    have esucc : nxV (GC n sp st pl li le) (s i) F (p + 1) = if kpN (GC n sp st pl li le) (s i) p = true then max (nxV (GC n sp st pl li le) (s i) F p) (tmN (GC n sp st pl li le) (s i) p + F p) else nxV (GC n sp st pl li le) (s i) F p := rfl
    by_cases g : kpN (GC n sp st pl li le) (s i) p = true
    · obtain ⟨j1, j2, j3⟩ := hJ p hp g
      have hjb : ib (nI (J p)) 2200 = true := ib_nI (by omega) (by decide)
      rw [j3, if_neg (nI_nm1 (show J p < 2 ^ 31 by omega)), ck_p hjb, jn_eq, show ra h1 14 0 (nI (J p)) = h1.1 14 0 (J p) from ra_n (by omega)]
      have hr16 : ra h1 16 0 (nI (J p)) = h1.1 16 0 (J p) := ra_n (by omega)
      cases hx : T (J p) with
      | some w =>
        obtain ⟨w1, w2, w3, w4⟩ := hT _ w j1 hx
        have hFp : F p = w := by rw [← hF]; show (T (J p)).getD 0 = w; rw [hx]; rfl
        rw [if_pos w1]
        dsimp only
        rw [lt_eq, beatsToC_eq hv hc t hf hi hp, bnd_eq, ck_p hjb, hr16, w2, nI_add, lt_eq, lt_eq, nI_1]
        refine hrec _ _ _ ⟨rfl, ?_⟩
        rcases hab with ⟨rfl, rfl, hall⟩ | ⟨rfl, p', hp', hk', hn'⟩
        · left
          have htb := tmN_b hG hvn (show p < 5 by omega) (kp_le g).1
          have := hnx p (by omega)
          refine ⟨by decide, ?_, fun p' hp' hk' => ?_⟩
          · rw [maxI (by omega) (by omega), esucc, if_pos g, hFp]
          · by_cases q : p' = p
            · rw [q, hx, hFp]
            · exact hall p' (by omega) hk'
        · right
          exact ⟨by decide, p', by omega, hk', hn'⟩
      | none =>
        have hne : ¬ h1.1 14 0 (J p) = 2 := fun q => by
          obtain ⟨w, e⟩ := hm _ j1 q
          rw [hx] at e; cases e
        rw [if_neg hne]
        dsimp only
        rw [lt_eq, beatsToC_eq hv hc t hf hi hp, bnd_eq, ck_p hjb, lt_eq, lt_eq, nI_1]
        refine hrec _ _ _ ⟨rfl, Or.inr ⟨?_, p, by omega, g, hx⟩⟩
        rcases hab with ⟨rfl, -, -⟩ | ⟨rfl, -⟩ <;> decide
    · have hk : kpN (GC n sp st pl li le) (s i) p = false := Bool.not_eq_true _ |>.mp g
      rw [(fw p hp).2 hk, if_pos rfl]
      dsimp only
      rw [lt_eq, nI_1]
      refine hrec _ _ _ ⟨rfl, ?_⟩
      rcases hab with ⟨rfl, rfl, hall⟩ | ⟨rfl, p', hp', hk', hn'⟩
      · left
        refine ⟨rfl, by rw [esucc, if_neg g], fun p' hp' hk' => ?_⟩
        by_cases q : p' = p
        · rw [q] at hk'; exact absurd hk' g
        · exact hall p' (by omega) hk'
      · right
        exact ⟨rfl, p', by omega, hk', hn'⟩
  · rintro a b h1 rec ⟨rfl, hab⟩
    unfold fX2_finish_l33
    rw [r2, if_pos (nI_le (Nat.le_refl _) (by omega))]
    dsimp only
    rw [jn_eq]
    have fin : ∀ (x y : Int32), (∀ k s j, ¬ (k = 14 ∧ j = i) → ¬ (k = 16 ∧ j = i) → (wa (wa h1 14 0 (nI i) x) 16 0 (nI i) y).1 k s j = h1.1 k s j) ∧ (wa (wa h1 14 0 (nI i) x) 16 0 (nI i) y).1 14 0 i = x ∧ (wa (wa h1 14 0 (nI i) x) 16 0 (nI i) y).1 16 0 i = y := fun x y => by
      refine ⟨fun k s j u1 u2 => ?_, ?_, ?_⟩
      · rw [wa_g, nI_clamp (by omega), if_neg (by omega), wa_g, nI_clamp (by omega), if_neg (by omega)]
      · rw [wa_g, if_neg (by omega), wa_g, nI_clamp (by omega), if_pos ⟨rfl, rfl, rfl⟩]
      · rw [wa_g, nI_clamp (by omega), if_pos ⟨rfl, rfl, rfl⟩]
    rcases hab with ⟨rfl, rfl, hall⟩ | ⟨rfl, p', hp', hk', hn'⟩
    · have hb := hnx n hn
      rw [if_pos rfl]
      dsimp only
      rw [ck_p hib, lt_eq, if_pos rfl, ck_p hib, nar_s (by omega), lt_eq]
      obtain ⟨f1, f2, f3⟩ := fin (vp_nar .byte ((2 : Int32).toInt8.toInt32)) (nI (nxV (GC n sp st pl li le) (s i) F n))
      refine wp_some ⟨f1, Or.inl ⟨f2.trans (nar_b (x := 2) (by decide)), _, f3, ?_, hb⟩⟩
      have : Lst (GC n sp st pl li le) (s i) (nxV (GC n sp st pl li le) (s i) F 5) := Lst.step (fun p hp hk => by
        have hpn : p < n := of_decide_eq_true (kp_le hk).1
        obtain ⟨j1, j2, j3⟩ := hJ p hpn hk
        rw [← j2]
        exact (hT _ _ j1 (hall p hpn hk)).2.2.1)
      rw [nxV_stop hkn 5 hn] at this
      exact this
    · rw [if_neg ne10]
      dsimp only
      rw [ck_p hib, lt_eq, if_neg ne10, ck_p hib, lt_eq]
      obtain ⟨f1, f2, f3⟩ := fin (vp_nar .byte ((3 : Int32).toInt8.toInt32)) (vp_nar .short ((0 : Int32).toInt16.toInt32))
      obtain ⟨j1, j2, j3⟩ := hJ p' hp' hk'
      exact wp_some ⟨f1, Or.inr ⟨f2.trans (nar_b (x := 3) (by decide)), f3.trans (nar_s (x := 0) (by decide)), p', J p', hp', hk', j1, j2, hn'⟩⟩
