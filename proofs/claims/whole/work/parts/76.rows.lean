/-! rows: the class takes a row in -/
theorem minI {a b : Nat} (ha : a < 2 ^ 31) (hb : b < 2 ^ 31) : (if nI b < nI a then nI b else nI a) = nI (min a b) := by
  by_cases h : b < a
  · rw [if_pos (nI_lt h ha), Nat.min_eq_right (by omega)]
  · rw [if_neg (fun q => h ((lt_n hb ha).mp q)), Nat.min_eq_left (by omega)]
theorem maxM {b : Nat} (hb : b < 2 ^ 31) : (if (-1 : Int32) < nI b then nI b else -1) = nI b := by
  rw [if_pos]
  rw [Int32.lt_iff_toInt_lt, nI_toInt hb]
  show (-1 : Int) < b
  omega
theorem takeIn_wp {h : Hp} {j sp st n r b at' : Nat} {pl li le w F : Nat → Nat} {a : Int32} {A : AR} (hj : j < 8) (hr : r ≤ 4) (hv : SV sp st n pl li le) (hc : CSt h j sp st n pl li le) (hA : VA n r A) (hAl : A.length ≤ 1000) (hF : ∀ p, p < n → F p ≤ 46) (hb : b ≤ 40) (e9 : h.1 4 0 9 = nI r) (e27 : ∀ i, i < r → w i < 5 ∧ h.1 27 0 i = nI (w i)) (cf : CF h n (F, b, at')) (cr : CR h r n a A) : WP (fX6_takeIn j h) (fun _ h' => CR h' r n a ((w, F, b) :: A)) := by
  have hn := hv.2.2.2.1
  obtain ⟨c1, c2, c3, c4⟩ := hc
  obtain ⟨f1, f2⟩ := cf
  obtain ⟨d0, d1, d2, d3, d4, d5, d6⟩ := cr
  have mj : ∀ k, cnt k = 12 → j % cnt k = j := fun k hk => by rw [hk]; exact Nat.mod_eq_of_lt (by omega)
  obtain ⟨al1, al2, al3⟩ := AR_le A hA
  unfold fX6_takeIn
  refine wp_for2 n (fun i x h' => x = nI (cnS F b i) ∧ (∀ q, q < 105 → h'.1 30 0 q = nI (stN n q A + if q % 5 < i ∧ q / 5 < F (q % 5) then 1 else 0)) ∧ ∀ k s p, k ≠ 30 → h'.1 k s p = h.1 k s p) ?_ ?_ FU 0 h (i0 := 0) (by omega) (FUb (by omega)) ⟨rfl, fun q hq => by rw [if_neg (by omega)]; exact d5 q hq, fun _ _ _ _ => rfl⟩
  · rintro i x h1 rec hi ⟨rfl, a1, a2⟩ hrec
    unfold fX6_takeIn_l4
    have q2 : rd h1 6 j 2 = nI n := by show h1.1 6 (j % cnt 6) 2 = _; rw [mj 6 rfl, a2 _ _ _ (by decide)]; exact c3
    have q29 : ∀ h2 : Hp, (∀ k s p, k ≠ 30 → h2.1 k s p = h.1 k s p) → ra h2 29 0 (nI i) = nI (F i) := fun h2 k2 => by rw [ra_n (by omega), k2 _ _ _ (by decide)]; exact f1 i hi
    have q10 : rd h1 4 0 10 = nI b := (a2 4 0 10 (by decide)).trans f2
    have hFi := hF i hi
    rw [q2, if_neg (fun q => nI_ge hi (by omega) q), ck_p (ib_nI (by omega) (by decide)), jn_eq, q29 h1 a2, q10]
    have inner : ∀ x', x' = nI (cnS F b (i + 1)) → WP (itr1 (fX6_takeIn_l31 (nI i) (fun h5 => lt (nI i + 1) fun x6 => rec x' x6 h5)) FU 0 h1) (fun _ h' => CR h' r n a ((w, F, b) :: A)) := by
      intro x' hx'
      refine wp_for1 (min 21 (F i)) (fun t h2 => (∀ q, q < 105 → h2.1 30 0 q = nI (stN n q A + (if q % 5 < i ∧ q / 5 < F (q % 5) then 1 else 0) + if q % 5 = i ∧ q / 5 < t then 1 else 0)) ∧ ∀ k s p, k ≠ 30 → h2.1 k s p = h.1 k s p) ?_ ?_ FU h1 (i0 := 0) (by omega) (FUb (by omega)) ⟨fun q hq => by rw [if_neg (show ¬ (q % 5 = i ∧ q / 5 < 0) by omega)]; exact a1 q hq, a2⟩
      · rintro t h2 rec2 ht ⟨b1, b2⟩ hrec2
        unfold fX6_takeIn_l31
        have eix : nI t * (5 : Int32) + nI i = nI (t * 5 + i) := by rw [show (5 : Int32) = nI 5 from rfl, nI_mul, nI_add]
        have q30 : ra h2 30 0 (nI (t * 5 + i)) = nI (stN n (t * 5 + i) A) := by
          rw [ra_n (by omega)]
          refine (b1 (t * 5 + i) (by omega)).trans ?_
          rw [if_neg (by omega), if_neg (by omega)]; rfl
        rw [if_neg (show ¬ (21 : Int32) ≤ nI t from fun q => nI_ge (show t < 21 by omega) (by decide) q), ck_p (ib_nI (by omega) (by decide)), q29 h2 b2, if_neg (fun q => nI_ge (show t < F i by omega) (by omega) q), eix, ck_p (ib_nI (by omega) (by decide)), ck_p (ib_nI (by omega) (by decide)), lt_eq, lt_eq, q30, nI_1, nI_1]
        refine hrec2 _ ⟨fun q hq => ?_, fun k s p hk => by rw [wa_g, if_neg (by omega)]; exact b2 k s p hk⟩
        rw [wa_g, nI_clamp (by omega), show 0 % cnt 30 = 0 from rfl]
        by_cases hqe : q = t * 5 + i
        · rw [if_pos ⟨rfl, rfl, hqe⟩, hqe, if_neg (show ¬ ((t * 5 + i) % 5 < i ∧ (t * 5 + i) / 5 < F ((t * 5 + i) % 5)) by omega), if_pos (show (t * 5 + i) % 5 = i ∧ (t * 5 + i) / 5 < t + 1 by omega)]
        · rw [if_neg (by omega)]
          refine (b1 q hq).trans ?_
          have : (q % 5 = i ∧ q / 5 < t) ↔ (q % 5 = i ∧ q / 5 < t + 1) := by
            constructor <;> rintro ⟨u1, u2⟩ <;> exact ⟨u1, by omega⟩
          simp only [this]
      · rintro h2 rec2 ⟨b1, b2⟩
        have out : ∀ o : Option (Unit × Hp), (if (21 : Int32) ≤ nI (min 21 (F i)) then (lt (nI i + 1) fun x6 => rec x' x6 h2) else ck (ib (nI i) 5) (if ra h2 29 0 (nI i) ≤ nI (min 21 (F i)) then (lt (nI i + 1) fun x6 => rec x' x6 h2) else o)) = rec x' (nI (i + 1)) h2 := by
          intro o
          by_cases g : 21 ≤ F i
          · rw [if_pos (show (21 : Int32) ≤ nI (min 21 (F i)) from nI_le (a := 21) (by omega) (by omega)), lt_eq, nI_1]
          · rw [if_neg (show ¬ (21 : Int32) ≤ nI (min 21 (F i)) from fun q => nI_ge (show min 21 (F i) < 21 by omega) (by decide) q), ck_p (ib_nI (by omega) (by decide)), q29 h2 b2, if_pos (nI_le (by omega) (by omega)), lt_eq, nI_1]
        unfold fX6_takeIn_l31
        rw [out]
        refine hrec _ _ ⟨hx', fun q hq => (b1 q hq).trans ?_, b2⟩
        by_cases u1 : q % 5 < i
        · by_cases u2 : q / 5 < F (q % 5)
          · rw [if_pos ⟨u1, u2⟩, if_neg (by omega), if_pos (by omega)]
          · rw [if_neg (by omega), if_neg (by omega), if_neg (by omega)]
        · by_cases u3 : q % 5 = i
          · by_cases u2 : q / 5 < F (q % 5)
            · rw [if_neg (by omega), if_pos ⟨u3, by rw [u3] at u2; omega⟩, if_pos (by omega)]
            · rw [if_neg (by omega), if_neg (fun z => u2 (by rw [u3]; omega)), if_neg (by omega)]
          · rw [if_neg (by omega), if_neg (by omega), if_neg (by omega)]
    by_cases g : b < F i
    · rw [if_neg (fun q => nI_ge g (by omega) q), lt_eq]
      exact inner _ (by rw [nI_1]; show _ = nI (cnS F b i + _); rw [if_pos g])
    · rw [if_pos (nI_le (by omega) (by omega))]
      exact inner _ (by show _ = nI (cnS F b i + _); rw [if_neg g]; rfl)
  · rintro x h1 rec ⟨rfl, a1, a2⟩
    unfold fX6_takeIn_l4
    have q2 : rd h1 6 j 2 = nI n := by show h1.1 6 (j % cnt 6) 2 = _; rw [mj 6 rfl, a2 _ _ _ (by decide)]; exact c3
    rw [q2, if_pos (nI_le (Nat.le_refl _) (by omega))]
    refine wp_for1 r (fun i h2 => (∀ q, q < i → h2.1 28 0 q = srI (vvN q ((w, F, b) :: A))) ∧ (∀ q, i ≤ q → h2.1 28 0 q = h.1 28 0 q) ∧ ∀ k s p, k ≠ 28 → h2.1 k s p = h1.1 k s p) ?_ ?_ FU h1 (i0 := 0) (by omega) (FUb (by omega)) ⟨fun q hq => absurd hq (Nat.not_lt_zero _), fun q _ => a2 28 0 q (by decide), fun _ _ _ _ => rfl⟩
    · rintro i h2 rec2 hi ⟨b1, b2, b3⟩ hrec2
      unfold fX6_takeIn_l78
      have s0 : ∀ k s p, k ≠ 28 → k ≠ 30 → h2.1 k s p = h.1 k s p := fun k s p u1 u2 => (b3 k s p u1).trans (a2 k s p u2)
      have q9 : rd h2 4 0 9 = nI r := (s0 4 0 9 (by decide) (by decide)).trans e9
      have q0 : rd h2 4 0 0 = nI A.length := (s0 4 0 0 (by decide) (by decide)).trans d0
      have q27 : ra h2 27 0 (nI i) = nI (w i) := by rw [ra_n (by omega)]; exact (s0 27 0 i (by decide) (by decide)).trans (e27 i hi).2
      have hib : ib (nI i) 4 = true := ib_nI (by omega) (by decide)
      rw [q9, if_neg (fun q => nI_ge hi (by omega) q), jn_eq, jn_eq, q0]
      have fin : ∀ z, z = srI (vvN i ((w, F, b) :: A)) → WP (ck (ib (nI i) 4) (lt (wa h2 28 0 (nI i) z) fun h12 => lt (nI i + 1) fun x13 => rec2 x13 h12)) (fun _ h' => CR h' r n a ((w, F, b) :: A)) := by
        rintro z rfl
        rw [ck_p hib, lt_eq, lt_eq, nI_1]
        refine hrec2 _ ⟨fun q hq => ?_, fun q hq => ?_, fun k s p hk => by rw [wa_g, if_neg (by omega)]; exact b3 k s p hk⟩
        · rw [wa_g, nI_clamp (by omega), show 0 % cnt 28 = 0 from rfl]
          by_cases hqi : q = i
          · rw [if_pos ⟨rfl, rfl, hqi⟩, hqi]
          · rw [if_neg (by omega)]; exact b1 q (by omega)
        · rw [wa_g, nI_clamp (by omega), if_neg (by omega)]; exact b2 q (by omega)
      have hvv := vvN_lt A hA i hi
      by_cases h0 : A.length = 0
      · rw [if_pos ((eq0_n (by omega)).mpr h0)]
        dsimp only
        rw [ck_p hib, q27]
        refine fin _ ?_
        have : A = [] := List.eq_nil_of_length_eq_zero h0
        subst this
        exact (srI_1 _ (e27 i hi).1).symm
      · have q28 : ra h2 28 0 (nI i) = srI (vvN i A) := by rw [ra_n (by omega)]; exact (b2 i (Nat.le_refl _)).trans (d6 h0 i hi)
        have key := srI_or _ hvv.1 (hvv.2 h0) _ (e27 i hi).1
        rw [if_neg (fun q => h0 ((eq0_n (by omega)).mp q)), ck_p hib, ck_p hib, q28, q27]
        by_cases g : srI (vvN i A) = nI (w i)
        · rw [if_pos g] at key
          rw [if_pos g]
          dsimp only
          rw [ck_p hib, q27]
          exact fin _ key
        · rw [if_neg g] at key
          rw [if_neg g]
          exact fin _ key
    · rintro h2 rec2 ⟨b1, b2, b3⟩
      unfold fX6_takeIn_l78
      have s0 : ∀ k s p, k ≠ 28 → k ≠ 30 → h2.1 k s p = h.1 k s p := fun k s p u1 u2 => (b3 k s p u1).trans (a2 k s p u2)
      have q9 : rd h2 4 0 9 = nI r := (s0 4 0 9 (by decide) (by decide)).trans e9
      have q0 : rd h2 4 0 0 = nI A.length := (s0 4 0 0 (by decide) (by decide)).trans d0
      have q10 : rd h2 4 0 10 = nI b := (s0 4 0 10 (by decide) (by decide)).trans f2
      have q12 : rd h2 4 0 2 = (if A.length = 0 then -1 else nI (fewN A)) := (s0 4 0 2 (by decide) (by decide)).trans d2
      have q13 : h2.1 4 0 3 = (if A.length = 0 then -1 else nI (mosN A)) := (s0 4 0 3 (by decide) (by decide)).trans d3
      have q14 : h2.1 4 0 4 = (if A.length = 0 then -1 else nI (upsN n A)) := (s0 4 0 4 (by decide) (by decide)).trans d4
      have hcn := cnS_le F b n
      rw [q9, if_pos (nI_le (Nat.le_refl _) (by omega))]
      dsimp only
      rw [jn_eq, q0, q10]
      have fin : ∀ z, z = nI (fewN ((w, F, b) :: A)) → WP (lt (wr h2 4 0 2 z) fun h19 => lt (if (rd h19 4 0 3) < (rd h19 4 0 10) then (rd h19 4 0 10) else (rd h19 4 0 3)) fun x20 => lt (wr h19 4 0 3 x20) fun h21 => lt (if (rd h21 4 0 4) < nI (cnS F b n) then nI (cnS F b n) else (rd h21 4 0 4)) fun x22 => lt (wr h21 4 0 4 x22) fun h23 => lt (wr h23 4 0 0 ((rd h23 4 0 0) + (1 : Int32))) fun h24 => some ((), h24)) (fun _ h' => CR h' r n a ((w, F, b) :: A)) := by
        rintro z rfl
        rw [lt_eq]
        have t3 : rd (wr h2 4 0 2 (nI (fewN ((w, F, b) :: A)))) 4 0 3 = (if A.length = 0 then -1 else nI (mosN A)) := q13
        have t10 : rd (wr h2 4 0 2 (nI (fewN ((w, F, b) :: A)))) 4 0 10 = nI b := q10
        have m3 : (if (if A.length = 0 then (-1 : Int32) else nI (mosN A)) < nI b then nI b else (if A.length = 0 then (-1 : Int32) else nI (mosN A))) = nI (mosN ((w, F, b) :: A)) := by
          show _ = nI (max (mosN A) b)
          by_cases h0 : A.length = 0
          · have : A = [] := List.eq_nil_of_length_eq_zero h0
            subst this
            rw [if_pos h0, maxM (by omega)]
            exact congrArg nI (by show b = max 0 b; omega)
          · rw [if_neg h0, maxI (by omega) (by omega)]
        rw [t3, t10, m3, lt_eq, lt_eq]
        have t4 : rd (wr (wr h2 4 0 2 (nI (fewN ((w, F, b) :: A)))) 4 0 3 (nI (mosN ((w, F, b) :: A)))) 4 0 4 = (if A.length = 0 then -1 else nI (upsN n A)) := q14
        have m4 : (if (if A.length = 0 then (-1 : Int32) else nI (upsN n A)) < nI (cnS F b n) then nI (cnS F b n) else (if A.length = 0 then (-1 : Int32) else nI (upsN n A))) = nI (upsN n ((w, F, b) :: A)) := by
          show _ = nI (max (upsN n A) (cnS F b n))
          by_cases h0 : A.length = 0
          · have : A = [] := List.eq_nil_of_length_eq_zero h0
            subst this
            rw [if_pos h0, maxM (by omega)]
            exact congrArg nI (by show cnS F b n = max 0 (cnS F b n); omega)
          · rw [if_neg h0, maxI (by omega) (by omega)]
        rw [t4, m4, lt_eq, lt_eq, lt_eq]
        have t0 : rd (wr (wr (wr h2 4 0 2 (nI (fewN ((w, F, b) :: A)))) 4 0 3 (nI (mosN ((w, F, b) :: A)))) 4 0 4 (nI (upsN n ((w, F, b) :: A)))) 4 0 0 = nI A.length := q0
        rw [t0, nI_1]
        refine wp_some ⟨rfl, (s0 4 0 1 (by decide) (by decide)).trans d1, rfl, rfl, rfl, fun q hq => ?_, fun _ i hi => b1 i hi⟩
        rw [wr_other (by decide), wr_other (by decide), wr_other (by decide), wr_other (by decide), b3 30 0 q (by decide)]
        exact a1 q hq
      by_cases h0 : A.length = 0
      · rw [if_pos ((eq0_n (by omega)).mpr h0)]
        exact fin _ (by show _ = nI (if A.length = 0 then b else _); rw [if_pos h0])
      · rw [if_neg (fun q => h0 ((eq0_n (by omega)).mp q)), q12, if_neg h0, lt_eq, minI (by omega) (by omega)]
        exact fin _ (by show _ = nI (if A.length = 0 then b else min (fewN A) b); rw [if_neg h0])
