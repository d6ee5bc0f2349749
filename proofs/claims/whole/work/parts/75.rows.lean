/-! rows: the class -/
def srI (v : Nat) : Int32 := if v = 1 then nI 0 else if v = 2 then nI 1 else if v = 4 then nI 2 else if v = 8 then nI 3 else if v = 16 then nI 4 else -1
theorem srI_or : ∀ v, v < 32 → v ≠ 0 → ∀ q, q < 5 → (if srI v = nI q then nI q else -1) = srI (v ||| 2 ^ q) := by decide +kernel
theorem srI_1 : ∀ q, q < 5 → srI (0 ||| 2 ^ q) = nI q := by decide +kernel
def VA (n r : Nat) (A : AR) : Prop := ∀ x ∈ A, x.2.2 ≤ 40 ∧ (∀ p, p < n → x.2.1 p ≤ 46) ∧ ∀ i, i < r → x.1 i < 5
theorem vvN_lt {n r : Nat} : ∀ A : AR, VA n r A → ∀ i, i < r → vvN i A < 32 ∧ (A.length ≠ 0 → vvN i A ≠ 0) := by
  have key : ∀ v, v < 32 → ∀ q, q < 5 → v ||| 2 ^ q < 32 ∧ v ||| 2 ^ q ≠ 0 := by decide +kernel
  intro A
  induction A with
  | nil => intro _ i _; exact ⟨(show 0 < 32 by decide), fun h => absurd rfl h⟩
  | cons x l ih =>
    intro hA i hi
    have h1 := (ih (fun y hy => hA y (List.mem_cons_of_mem _ hy)) i hi).1
    have h2 := (hA x List.mem_cons_self).2.2 i hi
    exact ⟨(key _ h1 _ h2).1, fun _ => (key _ h1 _ h2).2⟩
theorem cnS_le (F : Nat → Nat) (b : Nat) : ∀ k, cnS F b k ≤ k := by
  intro k
  induction k with
  | zero => exact Nat.le_refl _
  | succ k ih => show cnS F b k + (if b < F k then 1 else 0) ≤ k + 1; split <;> omega
theorem AR_le {n r : Nat} : ∀ A : AR, VA n r A → fewN A ≤ 40 ∧ mosN A ≤ 40 ∧ upsN n A ≤ n := by
  intro A
  induction A with
  | nil => intro _; exact ⟨by decide, by decide, Nat.zero_le _⟩
  | cons x l ih =>
    intro hA
    obtain ⟨h1, h2, h3⟩ := ih (fun y hy => hA y (List.mem_cons_of_mem _ hy))
    have h4 := (hA x List.mem_cons_self).1
    have h5 := cnS_le x.2.1 x.2.2 n
    refine ⟨?_, ?_, ?_⟩
    · show (if l.length = 0 then x.2.2 else min (fewN l) x.2.2) ≤ 40
      split <;> omega
    · show max (mosN l) x.2.2 ≤ 40
      omega
    · show max (upsN n l) (cnS x.2.1 x.2.2 n) ≤ n
      omega
theorem stN_le {n j : Nat} : ∀ A : AR, stN n j A ≤ A.length := by
  intro A
  induction A with
  | nil => exact Nat.le_refl _
  | cons x l ih => show stN n j l + _ ≤ l.length + 1; split <;> omega
def CR (h : Hp) (r n : Nat) (a : Int32) (A : AR) : Prop := h.1 4 0 0 = nI A.length ∧ h.1 4 0 1 = a ∧ h.1 4 0 2 = (if A.length = 0 then -1 else nI (fewN A)) ∧ h.1 4 0 3 = (if A.length = 0 then -1 else nI (mosN A)) ∧ h.1 4 0 4 = (if A.length = 0 then -1 else nI (upsN n A)) ∧ (∀ j, j < 105 → h.1 30 0 j = nI (stN n j A)) ∧ (A.length ≠ 0 → ∀ i, i < r → h.1 28 0 i = srI (vvN i A))
theorem clear6_wp {h : Hp} {r n : Nat} : WP (fX6_clear h) (fun _ h' => CR h' r n (-2) []) := by
  unfold fX6_clear
  refine wp_lt (wp_lt (wp_lt (wp_lt (wp_lt ?_))))
  generalize hH : wr (wr (wr (wr (wr h 4 0 0 0) 4 0 1 (-2)) 4 0 2 (-1)) 4 0 3 (-1)) 4 0 4 (-1) = H
  refine wp_for1 105 (fun i h' => (∀ j, j < i → h'.1 30 0 j = 0) ∧ ∀ k s p, k ≠ 30 → h'.1 k s p = H.1 k s p) ?_ ?_ FU H (i0 := 0) (by omega) (FUb (by decide)) ⟨fun p hp => absurd hp (Nat.not_lt_zero _), fun _ _ _ _ => rfl⟩
  · rintro i h2 rec hi ⟨a1, a2⟩ hrec
    unfold fX6_clear_l28
    rw [if_neg (show ¬ (105 : Int32) ≤ nI i from fun q => nI_ge hi (by decide) q), ck_p (ib_nI hi (by decide)), lt_eq, lt_eq, nI_1]
    refine hrec _ ⟨fun p hp => ?_, fun k s p hk => ?_⟩
    · rw [wa_g, nI_clamp (by omega), show 0 % cnt 30 = 0 from rfl]
      by_cases hpi : p = i
      · rw [if_pos ⟨rfl, rfl, hpi⟩]
      · rw [if_neg (by omega)]; exact a1 p (by omega)
    · rw [wa_g, if_neg (by omega)]; exact a2 k s p hk
  · rintro h2 rec ⟨a1, a2⟩
    unfold fX6_clear_l28
    rw [if_pos (show (105 : Int32) ≤ nI 105 by decide)]
    refine wp_some ⟨?_, ?_, ?_, ?_, ?_, fun j hj => a1 j hj, fun w => absurd rfl w⟩
    all_goals (rw [a2 _ _ _ (by decide), ← hH]; rfl)
theorem spell_wp {h : Hp} {r n c : Nat} (hr : r ≤ 4) (hn : n ≤ 5) (hnr : 1 ≤ n ∨ r = 0) (hc : c < 2 ^ 31) (e9 : h.1 4 0 9 = nI r) : WP (fX6_spell (nI c) (nI n) h) (fun _ h' => (∀ i, i < r → h'.1 27 0 i = nI (rwN n r c i)) ∧ ∀ k s j, k ≠ 27 → h'.1 k s j = h.1 k s j) := by
  unfold fX6_spell
  have r9 : rd h 4 0 9 = nI r := e9
  have hb : ∃ b, 1 ≤ b ∧ b ≤ 5 ∧ (if (1 : Int32) < nI n then nI n else 1) = nI b ∧ (r ≠ 0 → b = n) := by
    by_cases q : 1 < n
    · exact ⟨n, by omega, hn, by rw [if_pos (show (1 : Int32) < nI n from nI_lt (a := 1) q (by omega))], fun _ => rfl⟩
    · refine ⟨1, by omega, by omega, by rw [if_neg (show ¬ (1 : Int32) < nI n from fun w => q ((lt_n (a := 1) (by decide) (by omega)).mp w))]; rfl, fun _ => by omega⟩
  obtain ⟨b, hb1, hb5, eb, hbn⟩ := hb
  have hne : (!decide (nI b = 0)) = true := by
    rw [Bool.not_eq_true', decide_eq_false_iff_not]
    exact fun q => by have := (eq0_n (by omega)).mp q; omega
  rw [lt_eq, eb, lt_eq, r9]
  refine wp_itr2 (fun m x0 x1 h' => ∃ k, k ≤ r ∧ m = r - k ∧ x0 = nI (c / b ^ k) ∧ x1 = nI (r - k) - 1 ∧ (∀ i, r - k ≤ i → i < r → h'.1 27 0 i = nI (rwN n r c i)) ∧ ∀ k s j, k ≠ 27 → h'.1 k s j = h.1 k s j) ?_ FU r _ _ _ (FUb (by omega)) ⟨0, by omega, rfl, by rw [Nat.pow_zero, Nat.div_one], rfl, fun i h1 h2 => absurd h2 (by omega), fun _ _ _ _ => rfl⟩
  rintro m x0 x1 h1 rec ⟨k, hk, rfl, rfl, rfl, a1, a2⟩ hrec
  unfold fX6_spell_l17
  by_cases hkr : k = r
  · subst hkr
    rw [Nat.sub_self, if_pos (show nI 0 - (1 : Int32) < 0 by decide)]
    exact wp_some ⟨fun i hi => a1 i (by omega) hi, a2⟩
  · have hbn' := hbn (by omega)
    have e1 : nI (r - k) - (1 : Int32) = nI (r - k - 1) := nI_sub (b := 1) (by omega)
    have e2 : nI (r - k - 1) + (-1 : Int32) = nI (r - (k + 1)) - 1 := by
      rw [show r - (k + 1) = r - k - 1 by omega, Int32.sub_eq_add_neg]
    have hcd : c / b ^ k ≤ c := Nat.div_le_self _ _
    rw [e1, if_neg (fun q => in_no (show r - k - 1 < 4 by omega) (by decide) (Or.inl q)), ck_p hne, ck_p (ib_nI (by omega) (by decide)), lt_eq, ck_p hne, nI_rem (by omega) (by omega), nI_div (by omega) (by omega), lt_eq, lt_eq, e2]
    refine hrec (r - (k + 1)) _ _ _ (by omega) ⟨k + 1, by omega, rfl, ?_, rfl, fun i h1' h2 => ?_, fun k s j hk => ?_⟩
    · rw [Nat.pow_succ, Nat.div_div_eq_div_mul]
    · rw [wa_g, nI_clamp (by omega), show 0 % cnt 27 = 0 from rfl]
      by_cases hi : i = r - k - 1
      · rw [if_pos ⟨rfl, rfl, hi⟩]
        unfold rwN
        rw [if_pos h2, show r - 1 - i = k by omega, hbn']
      · rw [if_neg (by omega)]; exact a1 i (by omega) h2
    · rw [wa_g, if_neg (by omega)]; exact a2 k s j hk
def CF (h : Hp) (n : Nat) (s : FB) : Prop := (∀ p, p < n → h.1 29 0 p = nI (s.1 p)) ∧ h.1 4 0 10 = nI s.2.1
theorem makeRuns_wp {h : Hp} {j sp st n r : Nat} {pl li le w : Nat → Nat} (hj : j < 8) (hr : r ≤ 4) (hv : SV sp st n pl li le) (hc : CSt h j sp st n pl li le) (e9 : h.1 4 0 9 = nI r) (e27 : ∀ i, i < r → w i < 5 ∧ h.1 27 0 i = nI (w i)) : WP (fX6_makeRuns j h) (fun q h' => (match smS n sp st pl li le w r with | none => q = 0 | some s => q = 1 ∧ CF h' n s) ∧ ∀ k s i, k ≠ 29 → ¬ (k = 4 ∧ i = 10) → h'.1 k s i = h.1 k s i) := by
  have hn := hv.2.2.2.1
  have hp := hv.vp
  obtain ⟨c1, c2, c3, c4⟩ := hc
  have mj : ∀ k, cnt k = 12 → j % cnt k = j := fun k hk => by rw [hk]; exact Nat.mod_eq_of_lt (by omega)
  unfold fX6_makeRuns
  refine wp_for1 n (fun i h' => (∀ p, p < i → h'.1 29 0 p = nI (le p)) ∧ ∀ k s p, k ≠ 29 → h'.1 k s p = h.1 k s p) ?_ ?_ FU h (i0 := 0) (by omega) (FUb (by omega)) ⟨fun p hp => absurd hp (Nat.not_lt_zero _), fun _ _ _ _ => rfl⟩
  · rintro i h2 rec hi ⟨a1, a2⟩ hrec
    unfold fX6_makeRuns_l2
    have r2 : rd h2 6 j 2 = nI n := by show h2.1 6 (j % cnt 6) 2 = _; rw [mj 6 rfl, a2 _ _ _ (by decide)]; exact c3
    have r35 : ra h2 35 j (nI i) = nI (le i) := by rw [ra_n (by omega), mj 35 rfl, a2 _ _ _ (by decide)]; exact (c4 i hi).2.2
    rw [r2, if_neg (fun q => nI_ge hi (by omega) q), ck_p (ib_nI (by omega) (by decide)), ck_p (ib_nI (by omega) (by decide)), lt_eq, lt_eq, nI_1, r35]
    refine hrec _ ⟨fun p hp => ?_, fun k s p hk => ?_⟩
    · rw [wa_g, nI_clamp (by omega), show 0 % cnt 29 = 0 from rfl]
      by_cases hpi : p = i
      · rw [if_pos ⟨rfl, rfl, hpi⟩, hpi]
      · rw [if_neg (by omega)]; exact a1 p (by omega)
    · rw [wa_g, if_neg (by omega)]; exact a2 k s p hk
  · rintro h2 rec ⟨a1, a2⟩
    unfold fX6_makeRuns_l2
    have r2 : rd h2 6 j 2 = nI n := by show h2.1 6 (j % cnt 6) 2 = _; rw [mj 6 rfl, a2 _ _ _ (by decide)]; exact c3
    rw [r2, if_pos (nI_le (Nat.le_refl _) (by omega))]
    dsimp only
    rw [lt_eq]
    have r1 : rd (wr h2 4 0 10 0) 6 j 1 = nI st := by show h2.1 6 (j % cnt 6) 1 = _; rw [mj 6 rfl, a2 _ _ _ (by decide)]; exact c2
    rw [lt_eq, r1]
    have a3 : ∀ k s i, k ≠ 29 → ¬ (k = 4 ∧ i = 10) → (wr h2 4 0 10 0).1 k s i = h.1 k s i := fun k s i h1 h2' => by rw [wr_g, if_neg (by omega)]; exact a2 k s i h1
    refine wp_for2 r (fun i a h' => ∃ s, smS n sp st pl li le w i = some s ∧ a = nI s.2.2 ∧ CF h' n s ∧ ∀ k s i, k ≠ 29 → ¬ (k = 4 ∧ i = 10) → h'.1 k s i = h.1 k s i) ?_ ?_ FU (nI st) (wr h2 4 0 10 0) (i0 := 0) (by omega) (FUb (by omega)) ⟨_, rfl, rfl, ⟨fun p hp => a1 p hp, rfl⟩, a3⟩
    · rintro i a h3 rec hi ⟨s, es, rfl, cf, k3⟩ hrec
      have vb := smS_VB hv i s es
      have hes : smS n sp st pl li le w (i + 1) = mkS n sp pl li s (w i) := by show (smS n sp st pl li le w i).bind _ = _; rw [es]; rfl
      unfold fX6_makeRuns_l40
      have q9 : rd h3 4 0 9 = nI r := (k3 4 0 9 (by decide) (by decide)).trans e9
      have q27 : ra h3 27 0 (nI i) = nI (w i) := by rw [ra_n (by omega)]; exact (k3 27 0 i (by decide) (by omega)).trans (e27 i hi).2
      have hw5 := (e27 i hi).1
      have q62 : h3.1 6 j 2 = nI n := (k3 6 j 2 (by decide) (by decide)).trans c3
      rw [q9, if_neg (fun q => nI_ge hi (by omega) q), ck_p (ib_nI (by omega) (by decide)), lt_eq, q27, has8_eq (by omega) q62, bnd_eq]
      by_cases hwn : w i < n
      · have hib : ib (nI (w i)) 5 = true := ib_nI hw5 (by decide)
        have q29 : ra h3 29 0 (nI (w i)) = nI (s.1 (w i)) := by rw [ra_n (by omega)]; exact cf.1 _ hwn
        have q10 : rd h3 4 0 10 = nI s.2.1 := cf.2
        have q33 : ra h3 33 j (nI (w i)) = nI (pl (w i)) := by rw [ra_n (by omega), mj 33 rfl]; exact (k3 33 j _ (by decide) (by omega)).trans (c4 _ hwn).1
        have q34 : ra h3 34 j (nI (w i)) = nI (li (w i)) := by rw [ra_n (by omega), mj 34 rfl]; exact (k3 34 j _ (by decide) (by omega)).trans (c4 _ hwn).2.1
        have hF := vb.2.2 _ hwn
        have hB := vb.1
        rw [if_neg (in_no hwn (by omega)), if_neg ne10, ck_p hib, q10, q29]
        by_cases g : s.2.1 < s.1 (w i)
        · have hw := wayN_le hp.2.1 vb.2.1 (hp.2.2.2 _ hwn)
          rw [if_pos (nI_lt g (by omega)), ck_p hib, q33, way8_eq (by omega) hp.2.1 hp.2.2.1 ((k3 6 j 0 (by decide) (by decide)).trans c1) vb.2.1 (hp.2.2.2 _ hwn), bnd_eq, ck_p hib, jn_eq, q10, q29, nI_add]
          unfold mkS at hes
          rw [if_pos ⟨hwn, g⟩] at hes
          have fin : ∀ h4 : Hp, (∀ p, p < n → h4.1 29 0 p = nI ((if s.2.1 + wayN sp s.2.2 (pl (w i)) < s.1 (w i) then updN s.1 (w i) (s.2.1 + wayN sp s.2.2 (pl (w i)) + 1 + li (w i)) else s.1) p)) → (∀ k s p, k ≠ 29 → h4.1 k s p = h3.1 k s p) → WP (lt (wr h4 4 0 10 ((rd h4 4 0 10) + (nI (wayN sp s.2.2 (pl (w i))) + (1 : Int32)))) fun h13 => ck (ib (nI (w i)) 5) (lt (ra h13 33 j (nI (w i))) fun x14 => lt (nI i + 1) fun x15 => rec x14 x15 h13)) (fun q h' => (match smS n sp st pl li le w r with | none => q = 0 | some s => q = 1 ∧ CF h' n s) ∧ ∀ k s i, k ≠ 29 → ¬ (k = 4 ∧ i = 10) → h'.1 k s i = h.1 k s i) := by
            intro h4 b1 b2
            have t10 : rd h4 4 0 10 = nI s.2.1 := (b2 4 0 10 (by decide)).trans q10
            rw [lt_eq, ck_p hib, t10, nI_1, nI_add]
            have t33 : ra (wr h4 4 0 10 (nI (s.2.1 + (wayN sp s.2.2 (pl (w i)) + 1)))) 33 j (nI (w i)) = nI (pl (w i)) := by
              rw [ra_n (by omega), wr_other (by decide), b2 _ _ _ (by decide), ← ra_n (h := h3) (k := 33) (s := j) (by omega)]; exact q33
            rw [t33, lt_eq, lt_eq, nI_1]
            refine hrec _ _ ⟨_, hes, rfl, ⟨fun p hp' => ?_, rfl⟩, fun k s' p hk1 hk2 => ?_⟩
            · rw [wr_other (by decide)]; exact b1 p hp'
            · rw [wr_g, if_neg (by omega), b2 k s' p hk1]; exact k3 k s' p hk1 hk2
          by_cases g2 : s.2.1 + wayN sp s.2.2 (pl (w i)) < s.1 (w i)
          · rw [if_neg (fun q => by have := (le_n (by omega) (by omega)).mp q; omega), ck_p hib, ck_p hib, lt_eq, q34, show nI (s.2.1 + wayN sp s.2.2 (pl (w i))) + (1 : Int32) + nI (li (w i)) = nI (s.2.1 + wayN sp s.2.2 (pl (w i)) + 1 + li (w i)) by rw [nI_1, nI_add]]
            refine fin _ (fun p hp' => ?_) (fun k s' p hk => by rw [wa_g, if_neg (by omega)])
            rw [wa_g, nI_clamp (by omega), show 0 % cnt 29 = 0 from rfl, if_pos g2]
            unfold updN
            by_cases hpw : p = w i
            · rw [if_pos ⟨rfl, rfl, hpw⟩, if_pos hpw]
            · rw [if_neg (by omega), if_neg hpw]; exact cf.1 p hp'
          · rw [if_pos (nI_le (by omega) (by omega))]
            exact fin h3 (fun p hp' => by rw [if_neg g2]; exact cf.1 p hp') (fun _ _ _ _ => rfl)
        · rw [if_neg (fun q => by have := (lt_n (by omega) (by omega)).mp q; omega), ck_p zk_0]
          have hN : smS n sp st pl li le w (i + 1) = none := by rw [hes]; unfold mkS; rw [if_neg (fun q => g q.2)]
          refine wp_some ⟨?_, k3⟩
          rw [smS_none hN r (by omega)]
      · have hN : smS n sp st pl li le w (i + 1) = none := by rw [hes]; unfold mkS; rw [if_neg (fun q => hwn q.1)]
        rw [if_pos (Or.inr (nI_le (by omega) (by omega))), if_pos rfl, ck_p zk_0]
        refine wp_some ⟨?_, k3⟩
        rw [smS_none hN r (by omega)]
    · rintro a h3 rec ⟨s, es, rfl, cf, k3⟩
      unfold fX6_makeRuns_l40
      have q9 : rd h3 4 0 9 = nI r := (k3 4 0 9 (by decide) (by decide)).trans e9
      rw [q9, if_pos (nI_le (Nat.le_refl _) (by omega))]
      dsimp only
      rw [ck_p zk_1]
      refine wp_some ⟨?_, k3⟩
      rw [es]
      exact ⟨rfl, cf⟩
theorem isTrue_eq {h : Hp} {j jj sp st n r m b at' : Nat} {pl li le sd pt bt F : Nat → Nat} (hj : j < 8) (hjj : jj < 8) (hv : SV sp st n pl li le) (hc : CSt h j sp st n pl li le) (hg : GV r m sd pt bt) (hl : CLg h jj r m sd pt bt) (hF : ∀ p, p < n → F p ≤ 46) (cf : CF h n (F, b, at')) : fX6_isTrue j jj h = some (if okS n sd pt bt F m = true then 1 else 0, h) := by
  apply wp_same
  have hn := hv.2.2.2.1
  obtain ⟨g1, g2, g3⟩ := hg
  obtain ⟨l1, l2, l3⟩ := hl
  have mj : ∀ k, cnt k = 9 → jj % cnt k = jj := fun k hk => by rw [hk]; exact Nat.mod_eq_of_lt (by omega)
  unfold fX6_isTrue
  refine wp_for1 m (fun i h' => h' = h ∧ okS n sd pt bt F i = true) ?_ ?_ FU h (i0 := 0) (by omega) (FUb (by omega)) ⟨rfl, rfl⟩
  · rintro i h1 rec hi ⟨rfl, ok⟩ hrec
    unfold fX6_isTrue_l2
    obtain ⟨s1, s2, s3⟩ := l3 i hi
    obtain ⟨b1, b2, b3⟩ := g3 i hi
    have q1 : rd h1 1 jj 1 = nI m := by show h1.1 1 (jj % cnt 1) 1 = _; rw [mj 1 rfl]; exact l2
    have q21 : ra h1 21 jj (nI i) = nI (sd i) := by rw [ra_n (by omega), mj 21 rfl]; exact s1
    have q22 : ra h1 22 jj (nI i) = nI (pt i) := by rw [ra_n (by omega), mj 22 rfl]; exact s2
    have q23 : ra h1 23 jj (nI i) = nI (bt i) := by rw [ra_n (by omega), mj 23 rfl]; exact s3
    have hib : ib (nI i) 8 = true := ib_nI (by omega) (by decide)
    have hib5 : ib (nI (pt i)) 5 = true := ib_nI (by omega) (by decide)
    have bad : okS n sd pt bt F (i + 1) = false → (if okS n sd pt bt F m = true then (1 : Int32) else 0) = 0 := fun q => by rw [if_neg (by rw [okS_mono q m (by omega)]; decide)]
    have ok1 : okS n sd pt bt F (i + 1) = (decide (pt i < n) && (decide (bt i < F (pt i)) == decide (sd i = 1))) := by show (okS n sd pt bt F i && _) = _; rw [ok, Bool.true_and]
    rw [q1, if_neg (fun q => nI_ge hi (by omega) q), ck_p hib, lt_eq, q22, has8_eq (by omega) hc.2.2.1, bnd_eq]
    by_cases hpn : pt i < n
    · have q29 : ra h1 29 0 (nI (pt i)) = nI (F (pt i)) := by rw [ra_n (by omega)]; exact cf.1 _ hpn
      have hFp := hF _ hpn
      rw [if_neg (in_no hpn (by omega)), if_neg ne10, ck_p hib5, ck_p hib, jn_eq, q29, q23]
      have fin : ∀ z : Int32, z = (if bt i < F (pt i) then 1 else 0) → WP (ck (ib (nI i) 8) (jn (κ := Int32 → Hp → Option (Int32 × Hp)) (fun z0_5 h7 => if z = z0_5 then (lt (nI i + 1) fun x8 => rec x8 h7) else (ck (zk 0) (some (0, h7)))) fun k69_5 => if (ra h1 21 jj (nI i)) = 1 then (k69_5 1 h1) else (k69_5 0 h1))) (fun r h' => r = (if okS n sd pt bt F m = true then 1 else 0) ∧ h' = h1) := by
        rintro z rfl
        rw [ck_p hib, jn_eq, q21]
        have e1 : (nI (sd i) = 1) ↔ sd i = 1 := eq_n (b := 1) (by omega) (by decide)
        rw [decide_eq_true hpn, Bool.true_and] at ok1
        by_cases a1 : sd i = 1
        · rw [if_pos (e1.mpr a1)]
          dsimp only
          by_cases a2 : bt i < F (pt i)
          · rw [if_pos a2, if_pos rfl, lt_eq, nI_1]
            exact hrec _ ⟨rfl, by rw [ok1, decide_eq_true a1, decide_eq_true a2]; rfl⟩
          · rw [if_neg a2, if_neg (by decide), ck_p zk_0]
            exact wp_some ⟨(bad (by rw [ok1, decide_eq_true a1, decide_eq_false a2]; rfl)).symm, rfl⟩
        · rw [if_neg (fun q => a1 (e1.mp q))]
          dsimp only
          by_cases a2 : bt i < F (pt i)
          · rw [if_pos a2, if_neg ne10, ck_p zk_0]
            exact wp_some ⟨(bad (by rw [ok1, decide_eq_false a1, decide_eq_true a2]; rfl)).symm, rfl⟩
          · rw [if_neg a2, if_pos rfl, lt_eq, nI_1]
            exact hrec _ ⟨rfl, by rw [ok1, decide_eq_false a1, decide_eq_false a2]; rfl⟩
      by_cases g : bt i < F (pt i)
      · rw [if_neg (fun q => by have := (le_n (by omega) (by omega)).mp q; omega)]
        exact fin 1 (by rw [if_pos g])
      · rw [if_pos (nI_le (by omega) (by omega))]
        exact fin 0 (by rw [if_neg g])
    · rw [if_pos (Or.inr (nI_le (by omega) (by omega))), if_pos rfl, ck_p zk_0]
      exact wp_some ⟨(bad (by rw [ok1, decide_eq_false hpn, Bool.false_and])).symm, rfl⟩
  · rintro h1 rec ⟨rfl, ok⟩
    unfold fX6_isTrue_l2
    have q1 : rd h1 1 jj 1 = nI m := by show h1.1 1 (jj % cnt 1) 1 = _; rw [mj 1 rfl]; exact l2
    rw [q1, if_pos (nI_le (Nat.le_refl _) (by omega))]
    dsimp only
    rw [ck_p zk_1, ok]
    exact wp_some ⟨rfl, rfl⟩
theorem numberOfRow_eq {h : Hp} {r : Nat} {w : Nat → Nat} (hr : r ≤ 4) (e9 : h.1 4 0 9 = nI r) (e27 : ∀ i, i < r → h.1 27 0 i = nI (w i)) : fX6_numberOfRow h = some (nI (codeN w r), h) := by
  apply wp_same
  unfold fX6_numberOfRow
  refine wp_for2 r (fun i a h' => a = nI (codeN w i) ∧ h' = h) ?_ ?_ FU 1 h (i0 := 0) (by omega) (FUb (by omega)) ⟨rfl, rfl⟩
  · rintro i a h1 rec hi ⟨rfl, rfl⟩ hrec
    unfold fX6_numberOfRow_l4
    have q9 : rd h1 4 0 9 = nI r := e9
    have q27 : ra h1 27 0 (nI i) = nI (w i) := by rw [ra_n (by omega)]; exact e27 i hi
    rw [q9, if_neg (fun q => nI_ge hi (by omega) q), ck_p (ib_nI (by omega) (by decide)), lt_eq, lt_eq, nI_1, q27, show (10 : Int32) = nI 10 from rfl, nI_mul, nI_add]
    exact hrec _ _ ⟨rfl, rfl⟩
  · rintro a h1 rec ⟨rfl, rfl⟩
    unfold fX6_numberOfRow_l4
    have q9 : rd h1 4 0 9 = nI r := e9
    rw [q9, if_pos (nI_le (Nat.le_refl _) (by omega))]
    exact wp_some ⟨rfl, rfl⟩
