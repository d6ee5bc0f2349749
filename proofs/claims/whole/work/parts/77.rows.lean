/-! rows: the class's tally and what is asked of it -/
theorem CSt.cp {h h' : Hp} {j sp st n : Nat} {pl li le : Nat → Nat} (e : ∀ k i, (k = 6 ∨ k = 33 ∨ k = 34 ∨ k = 35) → h'.1 k j i = h.1 k j i) (hc : CSt h j sp st n pl li le) : CSt h' j sp st n pl li le := by
  obtain ⟨c1, c2, c3, c4⟩ := hc
  refine ⟨(e 6 0 (by omega)).trans c1, (e 6 1 (by omega)).trans c2, (e 6 2 (by omega)).trans c3, fun p hp => ?_⟩
  rw [e 33 p (by omega), e 34 p (by omega), e 35 p (by omega)]; exact c4 p hp
theorem CLg.cp {h h' : Hp} {j r n : Nat} {sd pt bt : Nat → Nat} (e : ∀ k i, (k = 1 ∨ k = 21 ∨ k = 22 ∨ k = 23) → h'.1 k j i = h.1 k j i) (hc : CLg h j r n sd pt bt) : CLg h' j r n sd pt bt := by
  obtain ⟨c1, c2, c4⟩ := hc
  refine ⟨(e 1 0 (by omega)).trans c1, (e 1 1 (by omega)).trans c2, fun p hp => ?_⟩
  rw [e 21 p (by omega), e 22 p (by omega), e 23 p (by omega)]; exact c4 p hp
theorem CR.cp {h h' : Hp} {r n : Nat} {a : Int32} {A : AR} (e : ∀ k s i, k ≠ 27 → k ≠ 29 → ¬ (k = 4 ∧ i = 10) → h'.1 k s i = h.1 k s i) (c : CR h r n a A) : CR h' r n a A := by
  obtain ⟨d0, d1, d2, d3, d4, d5, d6⟩ := c
  exact ⟨(e _ _ _ (by decide) (by decide) (by decide)).trans d0, (e _ _ _ (by decide) (by decide) (by decide)).trans d1, (e _ _ _ (by decide) (by decide) (by decide)).trans d2, (e _ _ _ (by decide) (by decide) (by decide)).trans d3, (e _ _ _ (by decide) (by decide) (by decide)).trans d4, fun q hq => (e _ _ _ (by decide) (by decide) (by omega)).trans (d5 q hq), fun w i hi => (e _ _ _ (by decide) (by decide) (by omega)).trans (d6 w i hi)⟩
theorem rwN_lt {b r c i : Nat} (hb : 1 ≤ b) (hi : i < r) : rwN b r c i < b := by
  unfold rwN
  rw [if_pos hi]
  exact Nat.mod_lt _ (by omega)
theorem stepA_VA {n sp st r m : Nat} {pl li le sd pt bt w : Nat → Nat} {A : AR} (hv : SV sp st n pl li le) (hr : r ≤ 4) (hA : VA n r A) (hw : ∀ i, i < r → w i < 5) : VA n r (stepA n sp st r m pl li le sd pt bt A w) := by
  unfold stepA
  split
  · exact hA
  · rename_i s hs
    split
    · intro x hx
      rcases List.mem_cons.mp hx with rfl | hx
      · have := smS_VB hv r s hs
        exact ⟨by show s.2.1 ≤ 40; have := this.1; omega, fun p hp => by show s.1 p ≤ 46; have := this.2.2 p hp; omega, hw⟩
      · exact hA x hx
    · exact hA
theorem foldA_VA {n sp st r m b : Nat} {pl li le sd pt bt : Nat → Nat} (hv : SV sp st n pl li le) (hr : r ≤ 4) (hb : b ≤ 5) (hbr : 1 ≤ b ∨ r = 0) : ∀ c, VA n r (foldA n sp st r m pl li le sd pt bt b c) := by
  intro c
  induction c with
  | zero => intro x hx; cases hx
  | succ c ih =>
    rw [foldA_s]
    exact stepA_VA hv hr ih (fun i hi => Nat.lt_of_lt_of_le (rwN_lt (by omega) hi) hb)
theorem pow_small : ∀ n, n ≤ 5 → ∀ r, r ≤ 4 → n ^ r ≤ 625 := by decide
theorem tally_wp {h : Hp} {j jj sp st n r m : Nat} {pl li le sd pt bt : Nat → Nat} (k : Int32) (hj : j < 8) (hjj : jj < 8) (hv : SV sp st n pl li le) (hc : CSt h j sp st n pl li le) (hg : GV r m sd pt bt) (hl : CLg h jj r m sd pt bt) : WP (fX6_tally j jj k h) (fun _ h' => CR h' r n (askN r k (foldA n sp st r m pl li le sd pt bt n (n ^ r))) (foldA n sp st r m pl li le sd pt bt n (n ^ r)) ∧ h'.1 4 0 9 = nI r ∧ h'.1 6 j 2 = nI n) := by
  have hn := hv.2.2.2.1
  have hr : r ≤ 4 := hg.1
  have hpow := pow_small n hn r hr
  unfold fX6_tally
  refine wp_bnd (wp_mono (wp_fr (clear6_wp (r := r) (n := n)) (frX6_clear h)) (fun _ h1 q => ?_))
  obtain ⟨cr0, fr0⟩ := q
  have r10 : rd h1 1 jj 0 = nI r := by show h1.1 1 (jj % 9) 0 = _; rw [Nat.mod_eq_of_lt (by omega), fr0.cell 1 jj rfl]; exact hl.1
  have x4 : (if (4 : Int32) < nI r then 4 else nI r) = nI r := by rw [if_neg (show ¬ (4 : Int32) < nI r from fun q => by have := (lt_n (a := 4) (by decide) (by omega)).mp q; omega)]
  rw [lt_eq, r10, x4, lt_eq]
  have hc1 : CSt (wr h1 4 0 9 (nI r)) j sp st n pl li le := hc.cp (fun k i hk => by rw [wr_other (by omega)]; rcases hk with rfl | rfl | rfl | rfl <;> exact fr0.cell _ j rfl i)
  have hl1 : CLg (wr h1 4 0 9 (nI r)) jj r m sd pt bt := hl.cp (fun k i hk => by rw [wr_other (by omega)]; rcases hk with rfl | rfl | rfl | rfl <;> exact fr0.cell _ jj rfl i)
  have cr1 : CR (wr h1 4 0 9 (nI r)) r n (-2) [] := cr0
  have q2 : rd (wr h1 4 0 9 (nI r)) 6 j 2 = nI n := by show (wr h1 4 0 9 (nI r)).1 6 (j % 12) 2 = _; rw [Nat.mod_eq_of_lt (by omega)]; exact hc1.2.2.1
  have q9 : rd (wr h1 4 0 9 (nI r)) 4 0 9 = nI r := rfl
  rw [q2, q9, power_eq (by omega), bnd_eq]
  generalize hA : foldA n sp st r m pl li le sd pt bt n = fA
  have f0 : fA 0 = [] := by rw [← hA]; rfl
  refine wp_for1 (n ^ r) (fun c h' => CR h' r n (askN r k (fA c)) (fA c) ∧ CSt h' j sp st n pl li le ∧ CLg h' jj r m sd pt bt ∧ h'.1 4 0 9 = nI r) ?_ ?_ FU _ (i0 := 0) (by omega) (FUb (by omega)) ⟨by rw [f0]; exact cr1, hc1, hl1, rfl⟩
  · rintro c h2 rec hcn ⟨cr, hc2, hl2, e9⟩ hrec
    have hnr : 1 ≤ n ∨ r = 0 := by
      rcases Nat.eq_zero_or_pos n with h0 | h0
      · right
        rcases Nat.eq_zero_or_pos r with h1 | h1
        · exact h1
        · rw [h0, Nat.zero_pow h1] at hcn; omega
      · exact Or.inl h0
    have hVA : VA n r (fA c) := by rw [← hA]; exact foldA_VA hv hr hn hnr c
    have hlen : (fA c).length ≤ 1000 := by rw [← hA]; exact Nat.le_trans (foldA_len c) (by omega)
    have hstep : fA (c + 1) = stepA n sp st r m pl li le sd pt bt (fA c) (rwN n r c) := by rw [← hA]; exact foldA_s
    have hw5 : ∀ i, i < r → rwN n r c i < 5 := fun i hi => Nat.lt_of_lt_of_le (rwN_lt (by omega) hi) hn
    unfold fX6_tally_l32
    have t2 : rd h2 6 j 2 = nI n := by show h2.1 6 (j % 12) 2 = _; rw [Nat.mod_eq_of_lt (by omega)]; exact hc2.2.2.1
    rw [if_neg (fun q => nI_ge hcn (by omega) q), t2]
    refine wp_bnd (wp_mono (spell_wp hr hn hnr (by omega) e9) (fun _ h3 g3 => ?_))
    obtain ⟨g27, g3⟩ := g3
    have hc3 : CSt h3 j sp st n pl li le := hc2.cp (fun k i hk => g3 k j i (by omega))
    have e93 : h3.1 4 0 9 = nI r := (g3 4 0 9 (by decide)).trans e9
    refine wp_bnd (wp_mono (makeRuns_wp (w := rwN n r c) hj hr hv hc3 e93 (fun i hi => ⟨hw5 i hi, g27 i hi⟩)) (fun q h4 g4 => ?_))
    obtain ⟨gm, g4⟩ := g4
    have all4 : ∀ k s i, k ≠ 27 → k ≠ 29 → ¬ (k = 4 ∧ i = 10) → h4.1 k s i = h2.1 k s i := fun k s i u1 u2 u3 => (g4 k s i u2 u3).trans (g3 k s i u1)
    have cr4 := cr.cp all4
    have hc4 : CSt h4 j sp st n pl li le := hc2.cp (fun k i hk => all4 k j i (by omega) (by omega) (by omega))
    have hl4 : CLg h4 jj r m sd pt bt := hl2.cp (fun k i hk => all4 k jj i (by omega) (by omega) (by omega))
    have e94 : h4.1 4 0 9 = nI r := (all4 4 0 9 (by decide) (by decide) (by decide)).trans e9
    rw [jn_eq]
    cases hs : smS n sp st pl li le (rwN n r c) r with
    | none =>
      rw [hs] at gm
      have hA1 : fA (c + 1) = fA c := by rw [hstep]; unfold stepA; rw [hs]
      rw [if_pos (show q = 0 from gm)]
      dsimp only
      rw [lt_eq, nI_1]
      refine hrec _ ?_
      rw [hA1]
      exact ⟨cr4, hc4, hl4, e94⟩
    | some s =>
      rw [hs] at gm
      obtain ⟨rfl, cf⟩ := gm
      have vb := smS_VB hv r s hs
      have hF : ∀ p, p < n → s.1 p ≤ 46 := fun p hp => by have := vb.2.2 p hp; omega
      have hb : s.2.1 ≤ 40 := by have := vb.1; omega
      rw [if_neg ne10, isTrue_eq (F := s.1) (b := s.2.1) (at' := s.2.2) hj hjj hv hc4 hg hl4 hF cf, bnd_eq]
      by_cases ok : okS n sd pt bt s.1 m = true
      · have hA1 : fA (c + 1) = (rwN n r c, s.1, s.2.1) :: fA c := by rw [hstep]; unfold stepA; rw [hs]; dsimp only; rw [if_pos ok]
        have e27 : ∀ i, i < r → rwN n r c i < 5 ∧ h4.1 27 0 i = nI (rwN n r c i) := fun i hi => ⟨hw5 i hi, (g4 27 0 i (by decide) (by omega)).trans (g27 i hi)⟩
        rw [if_pos ok, if_neg ne10, jn_eq]
        have t0 : rd h4 4 0 0 = nI (fA c).length := cr4.1
        rw [t0]
        have fin : ∀ h5 : Hp, (∀ k s i, ¬ (k = 4 ∧ i = 1) → h5.1 k s i = h4.1 k s i) → h5.1 4 0 1 = askN r k (fA (c + 1)) → WP (bnd (fX6_takeIn j h5) fun _ h16 => lt (nI c + 1) fun x11 => rec x11 h16) (fun x h' => CR h' r n (askN r k (fA (n ^ r))) (fA (n ^ r)) ∧ h'.1 4 0 9 = nI r ∧ h'.1 6 j 2 = nI n) := by
          intro h5 k5 e1
          have cr5 : CR h5 r n (askN r k (fA (c + 1))) (fA c) := by
            obtain ⟨d0, d1, d2, d3, d4, d5, d6⟩ := cr4
            exact ⟨(k5 _ _ _ (by decide)).trans d0, e1, (k5 _ _ _ (by decide)).trans d2, (k5 _ _ _ (by decide)).trans d3, (k5 _ _ _ (by decide)).trans d4, fun q hq => (k5 _ _ _ (by omega)).trans (d5 q hq), fun w i hi => (k5 _ _ _ (by omega)).trans (d6 w i hi)⟩
          have hc5 : CSt h5 j sp st n pl li le := hc4.cp (fun k i hk => k5 k j i (by omega))
          have hl5 : CLg h5 jj r m sd pt bt := hl4.cp (fun k i hk => k5 k jj i (by omega))
          refine wp_bnd (wp_mono (wp_fr (takeIn_wp (F := s.1) (b := s.2.1) (at' := s.2.2) hj hr hv hc5 hVA hlen hF hb ((k5 4 0 9 (by decide)).trans e94) (fun i hi => ⟨(e27 i hi).1, (k5 27 0 i (by omega)).trans (e27 i hi).2⟩) ⟨fun p hp => (k5 29 0 p (by omega)).trans (cf.1 p hp), (k5 4 0 10 (by decide)).trans cf.2⟩ cr5) (frX6_takeIn j h5)) (fun _ h6 g6 => ?_))
          obtain ⟨cr6, fr6⟩ := g6
          rw [lt_eq, nI_1]
          refine hrec _ ?_
          rw [hA1] at cr6 ⊢
          exact ⟨cr6, hc5.cp (fun k i hk => by rcases hk with rfl | rfl | rfl | rfl <;> exact fr6.cell _ j rfl i), hl5.cp (fun k i hk => by rcases hk with rfl | rfl | rfl | rfl <;> exact fr6.cell _ jj rfl i), (fr6.at 4 0 9 rfl).trans ((k5 4 0 9 (by decide)).trans e94)⟩
        by_cases hk : nI (fA c).length = k
        · rw [if_pos hk, numberOfRow_eq (w := rwN n r c) hr e94 (fun i hi => (e27 i hi).2), bnd_eq, lt_eq]
          refine fin _ (fun k s i hh => by rw [wr_g, if_neg (by omega)]) ?_
          rw [hA1]
          show nI (codeN (rwN n r c) r) = (if nI (fA c).length = k then _ else _)
          rw [if_pos hk]
        · rw [if_neg hk]
          refine fin h4 (fun _ _ _ _ => rfl) ?_
          rw [hA1]
          show _ = (if nI (fA c).length = k then _ else askN r k (fA c))
          rw [if_neg hk]; exact cr4.2.1
      · have hA1 : fA (c + 1) = fA c := by rw [hstep]; unfold stepA; rw [hs]; dsimp only; rw [if_neg ok]
        rw [if_neg ok, if_pos rfl]
        dsimp only
        rw [lt_eq, nI_1]
        refine hrec _ ?_
        rw [hA1]
        exact ⟨cr4, hc4, hl4, e94⟩
  · rintro h2 rec ⟨cr, hc2, hl2, e9⟩
    unfold fX6_tally_l32
    rw [if_pos (nI_le (Nat.le_refl _) (by omega))]
    exact wp_some ⟨cr, e9, hc2.2.2.1⟩
