/-! rows: the reference finds them all -/
theorem MR.cp {h h' : Hp} {r n : Nat} {a : Int32} {A : AR} (e : ∀ i, 53 ≤ i → i ≤ 57 → h'.1 10 0 i = h.1 10 0 i) (e2 : ∀ k i, k = 65 ∨ k = 66 → h'.1 k 0 i = h.1 k 0 i) (m : MR h r n a A) : MR h' r n a A := by
  obtain ⟨d0, d1, d2, d3, d4, d5, d6, d7⟩ := m
  exact ⟨(e 53 (by omega) (by omega)).trans d0, (e 54 (by omega) (by omega)).trans d1, (e 55 (by omega) (by omega)).trans d2, (e 56 (by omega) (by omega)).trans d3, (e 57 (by omega) (by omega)).trans d4, fun i hi => (e2 65 i (by omega)).trans (d5 i hi), fun i h1 h2 => (e2 65 i (by omega)).trans (d6 i h1 h2), fun i hi => (e2 66 i (by omega)).trans (d7 i hi)⟩
theorem findRows_wp {h : Hp} {j jj sp st n r m : Nat} {pl li le sd pt bt : Nat → Nat} (k : Int32) (hj : j < 8) (hjj : jj < 8) (hv : SV sp st n pl li le) (hg : GV r m sd pt bt) (ml : MLS h j jj sp st n r m pl li le sd pt bt) (e22 : h.1 10 0 22 = nI n) : WP (fX12_findRows k h) (fun _ h' => MR h' r n (askN r k (foldA n sp st r m pl li le sd pt bt 5 (5 ^ r))) (foldA n sp st r m pl li le sd pt bt 5 (5 ^ r)) ∧ h'.1 10 0 22 = nI n) := by
  have hn := hv.2.2.2.1
  have hp := hv.vp
  have hr : r ≤ 4 := hg.1
  have hpow := pow_small 5 (by decide) r hr
  unfold fX12_findRows
  refine wp_lt (wp_lt (wp_lt (wp_lt (wp_lt ?_))))
  generalize hH : wr (wr (wr (wr (wr h 10 0 53 0) 10 0 54 (-2)) 10 0 55 1000000) 10 0 56 (-1)) 10 0 57 (-1) = H
  have kH : ∀ k s i, ¬ (k = 10 ∧ 53 ≤ i ∧ i ≤ 57) → H.1 k s i = h.1 k s i := fun k s i hk => by rw [← hH, wr_g, if_neg (by omega), wr_g, if_neg (by omega), wr_g, if_neg (by omega), wr_g, if_neg (by omega), wr_g, if_neg (by omega)]
  refine wp_for1 4 (fun i h' => (∀ q, q < i → h'.1 65 0 q = 0) ∧ ∀ k s p, k ≠ 65 → h'.1 k s p = H.1 k s p) ?_ ?_ FU H (i0 := 0) (by omega) (FUb (by decide)) ⟨fun p hp => absurd hp (Nat.not_lt_zero _), fun _ _ _ _ => rfl⟩
  · rintro i h2 rec hi ⟨a1, a2⟩ hrec
    unfold fX12_findRows_l30
    rw [if_neg (show ¬ (4 : Int32) ≤ nI i from fun q => nI_ge hi (by decide) q), ck_p (ib_nI hi (by decide)), lt_eq, lt_eq, nI_1]
    refine hrec _ ⟨fun p hp => ?_, fun k s p hk => by rw [wa_g, if_neg (by omega)]; exact a2 k s p hk⟩
    rw [wa_g, nI_clamp (by omega), show 0 % cnt 65 = 0 from rfl]
    by_cases hpi : p = i
    · rw [if_pos ⟨rfl, rfl, hpi⟩]
    · rw [if_neg (by omega)]; exact a1 p (by omega)
  · rintro h2 rec ⟨a1, a2⟩
    unfold fX12_findRows_l30
    rw [if_pos (show (4 : Int32) ≤ nI 4 by decide)]
    refine wp_for1 105 (fun i h' => (∀ q, q < i → h'.1 66 0 q = 0) ∧ ∀ k s p, k ≠ 66 → h'.1 k s p = h2.1 k s p) ?_ ?_ FU h2 (i0 := 0) (by omega) (FUb (by decide)) ⟨fun p hp => absurd hp (Nat.not_lt_zero _), fun _ _ _ _ => rfl⟩
    · rintro i h3 rec2 hi ⟨b1, b2⟩ hrec2
      unfold fX12_findRows_l50
      rw [if_neg (show ¬ (105 : Int32) ≤ nI i from fun q => nI_ge hi (by decide) q), ck_p (ib_nI hi (by decide)), lt_eq, lt_eq, nI_1]
      refine hrec2 _ ⟨fun p hp => ?_, fun k s p hk => by rw [wa_g, if_neg (by omega)]; exact b2 k s p hk⟩
      rw [wa_g, nI_clamp (by omega), show 0 % cnt 66 = 0 from rfl]
      by_cases hpi : p = i
      · rw [if_pos ⟨rfl, rfl, hpi⟩]
      · rw [if_neg (by omega)]; exact b1 p (by omega)
    · rintro h3 rec2 ⟨b1, b2⟩
      unfold fX12_findRows_l50
      rw [if_pos (show (105 : Int32) ≤ nI 105 by decide)]
      have u : ∀ k s p, k ≠ 65 → k ≠ 66 → h3.1 k s p = H.1 k s p := fun k s p u1 u2 => (b2 k s p u2).trans (a2 k s p u1)
      have mr0 : MR h3 r n (-2) [] := by
        refine ⟨?_, ?_, ?_, ?_, ?_, fun i hi => (b2 65 0 i (by decide)).trans (a1 i (by omega)), fun i _ hi => (b2 65 0 i (by decide)).trans (a1 i hi), fun i hi => b1 i hi⟩
        all_goals (rw [u _ _ _ (by decide) (by decide), ← hH]; rfl)
      have ml3 : MLS h3 j jj sp st n r m pl li le sd pt bt := ml.cp (fun k i hk => by rw [u _ _ _ (by omega) (by omega), kH _ _ _ (by omega)]) (by rw [u _ _ _ (by decide) (by decide), kH _ _ _ (by decide)]) (by rw [u _ _ _ (by decide) (by decide), kH _ _ _ (by decide)])
      have e223 : h3.1 10 0 22 = nI n := by rw [u _ _ _ (by decide) (by decide), kH _ _ _ (by decide)]; exact e22
      generalize hA : foldA n sp st r m pl li le sd pt bt 5 = fA
      have f0 : fA 0 = [] := by rw [← hA]; rfl
      refine wp_for1 (5 ^ r) (fun c h' => MR h' r n (askN r k (fA c)) (fA c) ∧ MLS h' j jj sp st n r m pl li le sd pt bt ∧ h'.1 10 0 22 = nI n) ?_ ?_ FU h3 (i0 := 0) (Nat.zero_le _) (FUb (by omega)) ⟨by rw [f0]; exact mr0, ml3, e223⟩
      · rintro c h4 rec4 hc ⟨mr, ml4, e224⟩ hrec4
        have hVA : VA n r (fA c) := by rw [← hA]; exact foldA_VA hv hr (by decide) (Or.inl (by decide)) c
        have hlen : (fA c).length ≤ 1000 := by rw [← hA]; exact Nat.le_trans (foldA_len c) (by omega)
        have hstep : fA (c + 1) = stepA n sp st r m pl li le sd pt bt (fA c) (rwN 5 r c) := by rw [← hA]; exact foldA_s
        have rM : fX12_runs h4 = some (nI r, h4) := by rw [runs_eq ml4.2.2.1 hjj, ml4.2.2.2.1]
        unfold fX12_findRows_l71
        rw [rM, bnd_eq, fives_eq (by omega), bnd_eq, if_neg (fun q => nI_ge hc (by omega) q)]
        refine wp_bnd (wp_mono (runsAll_wp hj hjj hv hg ml4 (by omega)) (fun q h5 g5 => ?_))
        obtain ⟨gm, g22, fr5⟩ := g5
        have ml5 : MLS h5 j jj sp st n r m pl li le sd pt bt := ml4.cp (fun k i hk => by rcases hk with rfl | rfl <;> exact fr5.cell _ 0 rfl i) (fr5.at 10 0 21 rfl) (fr5.at 10 0 52 rfl)
        have mr5 : MR h5 r n (askN r k (fA c)) (fA c) := mr.cp (fun i h1 h2 => by rcases (show i = 53 ∨ i = 54 ∨ i = 55 ∨ i = 56 ∨ i = 57 by omega) with rfl | rfl | rfl | rfl | rfl <;> exact fr5.at 10 0 _ rfl) (fun k i hk => by rcases hk with rfl | rfl <;> exact fr5.cell _ 0 rfl i)
        rw [jn_eq]
        cases hs : smS n sp st pl li le (rwN 5 r c) r with
        | none =>
          rw [hs] at gm
          have hA1 : fA (c + 1) = fA c := by rw [hstep]; unfold stepA; rw [hs]
          rw [if_pos (show q = 0 from gm)]
          dsimp only
          rw [lt_eq, nI_1]
          refine hrec4 _ ?_
          rw [hA1]
          exact ⟨mr5, ml5, g22⟩
        | some s =>
          rw [hs] at gm
          obtain ⟨rfl, x, mx, vx, mf⟩ := gm
          have vb := smS_VB hv r s hs
          have hb : s.2.1 ≤ 40 := by have := vb.1; omega
          have r30 : rd h5 10 0 30 = nI s.2.1 := mx.2.2.2.2.1.trans (congrArg nI mf.1)
          have hsb : sbN x.1 n = sbN (fun p => s.1 p - s.2.1) n := sbN_congr n (fun p hp => by rw [mf.2.2.1 p hp])
          have hlt : sbN x.1 n < 32 := Nat.lt_of_lt_of_le (sbN_lt _ n) (Nat.pow_le_pow_right (by decide) hn)
          rw [if_neg ne10, lt_eq, r30, standNow_eq (L := x.1) hn mx.2.1 (fun p hp => ⟨(vx.1 p hp).1, (mx.2.2.1 p hp).2.2.1⟩), bnd_eq, ones_eq hlt, bnd_eq, hsb, pc_cn hn 10 (Nat.le_refl _), show min 10 n = n by omega]
          refine more_wp hp vx mx mf hb (fun h6 x6 m6 v6 f6 k6 => ?_)
          have ml6 : MLS h6 j jj sp st n r m pl li le sd pt bt := ml5.cp (fun k i hk => k6 k 0 i (by omega) (by omega) (by omega)) (k6 _ _ _ (by decide) (by decide) (by decide)) (k6 _ _ _ (by decide) (by decide) (by decide))
          have mr6 : MR h6 r n (askN r k (fA c)) (fA c) := mr5.cp (fun i h1 h2 => k6 10 0 i (by decide) (by decide) (by omega)) (fun k i hk => k6 k 0 i (by omega) (by omega) (by omega))
          rw [isSo_eq (F := s.1) (b := max s.2.1 31) (at' := s.2.2) hjj hn hg ml6.2.2.1 ml6.2.2.2 m6 f6 (by omega), bnd_eq]
          by_cases ok : okS n sd pt bt s.1 m = true
          · have hA1 : fA (c + 1) = (rwN 5 r c, s.1, s.2.1) :: fA c := by rw [hstep]; unfold stepA; rw [hs]; dsimp only; rw [if_pos ok]
            rw [if_pos ok, if_neg ne10]
            refine wp_bnd (wp_mono (wp_fr (noteFit_wp (F := s.1) (b := s.2.1) (b' := max s.2.1 31) (at' := s.2.2) hjj hn hr (by omega) ml6.2.2.1 ml6.2.2.2 m6 f6 (by omega) hb hVA hlen (fun i hi => rwN_lt (by decide) hi) mr6) (frX12_noteFit _ _ _ _ h6)) (fun _ h7 g7 => ?_))
            obtain ⟨mr7, fr7⟩ := g7
            dsimp only
            rw [lt_eq, nI_1]
            refine hrec4 _ ?_
            rw [hA1]
            exact ⟨mr7, ml6.cp (fun k i hk => by rcases hk with rfl | rfl <;> exact fr7.cell _ 0 rfl i) (fr7.at 10 0 21 rfl) (fr7.at 10 0 52 rfl), (fr7.at 10 0 22 rfl).trans m6.2.1⟩
          · have hA1 : fA (c + 1) = fA c := by rw [hstep]; unfold stepA; rw [hs]; dsimp only; rw [if_neg ok]
            rw [if_neg ok, if_pos rfl]
            dsimp only
            rw [lt_eq, nI_1]
            refine hrec4 _ ?_
            rw [hA1]
            exact ⟨mr6, ml6, m6.2.1⟩
      · rintro h4 rec4 ⟨mr, ml4, e224⟩
        have rM : fX12_runs h4 = some (nI r, h4) := by rw [runs_eq ml4.2.2.1 hjj, ml4.2.2.2.1]
        unfold fX12_findRows_l71
        rw [rM, bnd_eq, fives_eq (by omega), bnd_eq, if_pos (nI_le (Nat.le_refl _) (by omega))]
        exact wp_some ⟨mr, e224⟩
/-! the best question -/
def gtN (n : Nat) (A : AR) (i : Nat) : Nat := max (stN n i A) (A.length - stN n i A)
def bqN (n : Nat) (A : AR) (l0 : Nat) : Nat → Int32 × Nat
  | 0 => (-1, l0)
  | i + 1 => if i % 5 < n ∧ gtN n A i < (bqN n A l0 i).2 then (nI (10 * (i / 5) + i % 5), gtN n A i) else bqN n A l0 i
theorem gtN_le (n : Nat) (A : AR) (i : Nat) : gtN n A i ≤ A.length := by
  have := stN_le (n := n) (j := i) A
  unfold gtN
  omega
theorem bqN_le {n : Nat} {A : AR} {l0 : Nat} : ∀ i, (bqN n A l0 i).2 ≤ max l0 A.length := by
  intro i
  induction i with
  | zero => show l0 ≤ _; omega
  | succ i ih =>
    have := gtN_le n A i
    show (if i % 5 < n ∧ gtN n A i < (bqN n A l0 i).2 then (nI (10 * (i / 5) + i % 5), gtN n A i) else bqN n A l0 i).2 ≤ _
    by_cases h : i % 5 < n ∧ gtN n A i < (bqN n A l0 i).2
    · rw [if_pos h]; show gtN n A i ≤ _; omega
    · rw [if_neg h]; exact ih
theorem bqN_same {n : Nat} {A : AR} {l0 l1 : Nat} (h0 : A.length < l0) (h1 : A.length < l1) : ∀ i, (bqN n A l0 i).1 = (bqN n A l1 i).1 ∧ ((bqN n A l0 i).2 = (bqN n A l1 i).2 ∨ ((bqN n A l0 i).2 = l0 ∧ (bqN n A l1 i).2 = l1)) := by
  intro i
  induction i with
  | zero => exact ⟨rfl, Or.inr ⟨rfl, rfl⟩⟩
  | succ i ih =>
    have hg := gtN_le n A i
    obtain ⟨i1, i2⟩ := ih
    have key : (gtN n A i < (bqN n A l0 i).2) ↔ (gtN n A i < (bqN n A l1 i).2) := by
      rcases i2 with e | ⟨e1, e2⟩
      · rw [e]
      · rw [e1, e2]; omega
    show (if i % 5 < n ∧ gtN n A i < (bqN n A l0 i).2 then (nI (10 * (i / 5) + i % 5), gtN n A i) else bqN n A l0 i).1 = (if i % 5 < n ∧ gtN n A i < (bqN n A l1 i).2 then (nI (10 * (i / 5) + i % 5), gtN n A i) else bqN n A l1 i).1 ∧ ((if i % 5 < n ∧ gtN n A i < (bqN n A l0 i).2 then (nI (10 * (i / 5) + i % 5), gtN n A i) else bqN n A l0 i).2 = (if i % 5 < n ∧ gtN n A i < (bqN n A l1 i).2 then (nI (10 * (i / 5) + i % 5), gtN n A i) else bqN n A l1 i).2 ∨ _)
    by_cases h : i % 5 < n ∧ gtN n A i < (bqN n A l0 i).2
    · rw [if_pos h, if_pos ⟨h.1, key.mp h.2⟩]; exact ⟨rfl, Or.inl rfl⟩
    · rw [if_neg h, if_neg (fun w => h ⟨w.1, key.mpr w.2⟩)]
      refine ⟨i1, i2.imp id (fun w => ?_)⟩
      show (if i % 5 < n ∧ gtN n A i < (bqN n A l0 i).2 then (nI (10 * (i / 5) + i % 5), gtN n A i) else bqN n A l0 i).2 = l0 ∧ (if i % 5 < n ∧ gtN n A i < (bqN n A l1 i).2 then (nI (10 * (i / 5) + i % 5), gtN n A i) else bqN n A l1 i).2 = l1
      rw [if_neg h, if_neg (fun w => h ⟨w.1, key.mpr w.2⟩)]
      exact w
theorem bqN_skip {n : Nat} {A : AR} {l0 t : Nat} (hn : n ≤ 5) : ∀ k, n + k ≤ 5 → bqN n A l0 (5 * t + n + k) = bqN n A l0 (5 * t + n) := by
  intro k
  induction k with
  | zero => intro _; rfl
  | succ k ih =>
    intro hk
    show (if (5 * t + n + k) % 5 < n ∧ _ then _ else bqN n A l0 (5 * t + n + k)) = _
    rw [if_neg (fun w => by omega)]
    exact ih (by omega)
def bqA (n : Nat) (A : AR) : Int32 := if A.length = 0 then -1 else (bqN n A 1000000 105).1
theorem bestQuestion_eq {h : Hp} {r n : Nat} {a : Int32} {A : AR} (hn : n ≤ 5) (hA : A.length ≤ 1000) (cr : CR h r n a A) : fX6_bestQuestion (nI n) h = some (bqA n A, h) := by
  obtain ⟨d0, d1, d2, d3, d4, d5, d6⟩ := cr
  have q0 : rd h 4 0 0 = nI A.length := d0
  apply wp_same
  unfold fX6_bestQuestion bqA
  rw [lt_eq, q0, nI_1]
  by_cases h0 : A.length = 0
  · rw [if_pos h0]
    have := FU_big
    obtain ⟨F, hF⟩ : ∃ f, FU = f + 1 := ⟨FU - 1, by omega⟩
    rw [hF, itr3_s]
    unfold fX6_bestQuestion_l12
    rw [if_neg (show ¬ (21 : Int32) ≤ 0 by decide), q0, if_pos ((le0_n (by omega)).mpr h0)]
    exact wp_some ⟨rfl, rfl⟩
  · rw [if_neg h0, ← (bqN_same (n := n) (A := A) (l0 := A.length + 1) (l1 := 1000000) (by omega) (by omega) 105).1]
    refine wp_for3 21 (fun t x y h' => x = (bqN n A (A.length + 1) (5 * t)).1 ∧ y = nI (bqN n A (A.length + 1) (5 * t)).2 ∧ h' = h) ?_ ?_ FU (-1) _ h (i0 := 0) (by omega) (FUb (by decide)) ⟨rfl, rfl, rfl⟩
    · rintro t x y h1 rec ht ⟨rfl, rfl, rfl⟩ hrec
      unfold fX6_bestQuestion_l12
      rw [if_neg (show ¬ (21 : Int32) ≤ nI t from fun q => nI_ge ht (by decide) q), q0, if_neg (fun q => h0 ((le0_n (by omega)).mp q))]
      refine wp_for3 n (fun p x y h' => x = (bqN n A (A.length + 1) (5 * t + p)).1 ∧ y = nI (bqN n A (A.length + 1) (5 * t + p)).2 ∧ h' = h1) ?_ ?_ FU _ _ h1 (i0 := 0) (by omega) (FUb (by omega)) ⟨rfl, rfl, rfl⟩
      · rintro p x y h2 rec2 hp ⟨rfl, rfl, rfl⟩ hrec2
        unfold fX6_bestQuestion_l29
        have eix : nI t * (5 : Int32) + nI p = nI (5 * t + p) := by rw [show (5 : Int32) = nI 5 from rfl, nI_mul, nI_add, Nat.mul_comm]
        have r30 : ra h2 30 0 (nI (5 * t + p)) = nI (stN n (5 * t + p) A) := by rw [ra_n (by omega)]; exact d5 _ (by omega)
        have hs := stN_le (n := n) (j := 5 * t + p) A
        have hl := bqN_le (n := n) (A := A) (l0 := A.length + 1) (5 * t + p)
        have hgt := gtN_le n A (5 * t + p)
        rw [if_neg (fun q => nI_ge hp (by omega) q), eix, ck_p (ib_nI (by omega) (by decide)), lt_eq, r30, lt_eq, q0, nI_sub hs, maxI (by omega) (by omega), jn_eq]
        have hx7 : ((10 : Int32) * nI t + nI p) = nI (10 * t + p) := by rw [show (10 : Int32) = nI 10 from rfl, nI_mul, nI_add]
        rw [hx7]
        have ebq : bqN n A (A.length + 1) (5 * t + p + 1) = (if gtN n A (5 * t + p) < (bqN n A (A.length + 1) (5 * t + p)).2 then (nI (10 * t + p), gtN n A (5 * t + p)) else bqN n A (A.length + 1) (5 * t + p)) := by
          show (if (5 * t + p) % 5 < n ∧ gtN n A (5 * t + p) < (bqN n A (A.length + 1) (5 * t + p)).2 then (nI (10 * ((5 * t + p) / 5) + (5 * t + p) % 5), gtN n A (5 * t + p)) else bqN n A (A.length + 1) (5 * t + p)) = _
          rw [show (5 * t + p) % 5 = p by omega, show (5 * t + p) / 5 = t by omega]
          by_cases g : gtN n A (5 * t + p) < (bqN n A (A.length + 1) (5 * t + p)).2
          · rw [if_pos ⟨hp, g⟩, if_pos g]
          · rw [if_neg (fun w => g w.2), if_neg g]
        by_cases g : gtN n A (5 * t + p) < (bqN n A (A.length + 1) (5 * t + p)).2
        · rw [if_pos g] at ebq
          rw [if_neg (show ¬ nI (bqN n A (A.length + 1) (5 * t + p)).2 ≤ nI (max (stN n (5 * t + p) A) (A.length - stN n (5 * t + p) A)) from fun q => by
            have := (le_n (by omega) (by omega)).mp q
            unfold gtN at g
            omega), lt_eq]
          dsimp only
          rw [lt_eq, nI_1]
          refine hrec2 _ _ _ ⟨?_, ?_, rfl⟩
          · rw [show 5 * t + (p + 1) = 5 * t + p + 1 by omega, ebq]
          · rw [show 5 * t + (p + 1) = 5 * t + p + 1 by omega, ebq]; rfl
        · rw [if_neg g] at ebq
          rw [if_pos (show nI (bqN n A (A.length + 1) (5 * t + p)).2 ≤ nI (max (stN n (5 * t + p) A) (A.length - stN n (5 * t + p) A)) from nI_le (by unfold gtN at g; omega) (by omega))]
          dsimp only
          rw [lt_eq, nI_1]
          refine hrec2 _ _ _ ⟨?_, ?_, rfl⟩
          · rw [show 5 * t + (p + 1) = 5 * t + p + 1 by omega, ebq]
          · rw [show 5 * t + (p + 1) = 5 * t + p + 1 by omega, ebq]
      · rintro x y h2 rec2 ⟨rfl, rfl, rfl⟩
        unfold fX6_bestQuestion_l29
        rw [if_pos (nI_le (Nat.le_refl _) (by omega))]
        dsimp only
        rw [lt_eq, nI_1]
        have e := bqN_skip (n := n) (A := A) (l0 := A.length + 1) (t := t) hn (5 - n) (by omega)
        rw [show 5 * t + n + (5 - n) = 5 * (t + 1) by omega] at e
        exact hrec _ _ _ ⟨by rw [e], by rw [e], rfl⟩
    · rintro x y h1 rec ⟨rfl, rfl, rfl⟩
      unfold fX6_bestQuestion_l12
      rw [if_pos (show (21 : Int32) ≤ nI 21 by decide)]
      exact wp_some ⟨rfl, rfl⟩
theorem askWhat_eq {h : Hp} {r n : Nat} {a : Int32} {A : AR} (hn : n ≤ 5) (hA : A.length ≤ 1000) (e22 : h.1 10 0 22 = nI n) (mr : MR h r n a A) : fX12_askWhat h = some (bqA n A, h) := by
  obtain ⟨d0, d1, d2, d3, d4, d5, d6, d7⟩ := mr
  have q0 : rd h 10 0 53 = nI A.length := d0
  apply wp_same
  unfold fX12_askWhat bqA
  by_cases h0 : A.length = 0
  · rw [if_pos h0]
    have := FU_big
    obtain ⟨F, hF⟩ : ∃ f, FU = f + 1 := ⟨FU - 1, by omega⟩
    rw [hF, itr3_s]
    unfold fX12_askWhat_l8
    rw [if_neg (show ¬ (105 : Int32) ≤ 0 by decide), q0, if_pos ((le0_n (by omega)).mpr h0)]
    exact wp_some ⟨rfl, rfl⟩
  · rw [if_neg h0]
    refine wp_for3 105 (fun i x y h' => x = (bqN n A 1000000 i).1 ∧ y = nI (bqN n A 1000000 i).2 ∧ h' = h) ?_ ?_ FU (-1) _ h (i0 := 0) (by omega) (FUb (by decide)) ⟨rfl, rfl, rfl⟩
    · rintro i x y h1 rec hi ⟨rfl, rfl, rfl⟩ hrec
      unfold fX12_askWhat_l8
      have r66 : ra h1 66 0 (nI i) = nI (stN n i A) := by rw [ra_n (by omega)]; exact d7 i hi
      have hs := stN_le (n := n) (j := i) A
      have hl := bqN_le (n := n) (A := A) (l0 := 1000000) i
      have hgt := gtN_le n A i
      have r22 : rd h1 10 0 22 = nI n := e22
      have d5i : nI i / (5 : Int32) = nI (i / 5) := nI_div (b := 5) (by omega) (by decide)
      have m5i : irm (nI i) (5 : Int32) = nI (i % 5) := nI_rem (b := 5) (by omega) (by decide)
      have ebq : bqN n A 1000000 (i + 1) = (if i % 5 < n ∧ gtN n A i < (bqN n A 1000000 i).2 then (nI (10 * (i / 5) + i % 5), gtN n A i) else bqN n A 1000000 i) := rfl
      rw [if_neg (show ¬ (105 : Int32) ≤ nI i from fun q => nI_ge hi (by decide) q), q0, if_neg (fun q => h0 ((le0_n (by omega)).mp q)), ck_p (ib_nI hi (by decide)), ck_p (ib_nI hi (by decide)), r66, nI_sub hs, maxI' (by omega) (by omega), bnd_eq, jn_eq, r22, d5i, m5i]
      by_cases g1 : i % 5 < n
      · rw [if_neg (fun q => nI_ge g1 (by omega) q)]
        by_cases g : gtN n A i < (bqN n A 1000000 i).2
        · rw [if_pos ⟨g1, g⟩] at ebq
          rw [if_neg (show ¬ nI (bqN n A 1000000 i).2 ≤ nI (max (stN n i A) (A.length - stN n i A)) from fun q => by
            have := (le_n (by omega) (by omega)).mp q
            unfold gtN at g
            omega), lt_eq, show ((10 : Int32) * nI (i / 5) + nI (i % 5)) = nI (10 * (i / 5) + i % 5) by rw [show (10 : Int32) = nI 10 from rfl, nI_mul, nI_add]]
          dsimp only
          rw [lt_eq, nI_1]
          exact hrec _ _ _ ⟨by rw [ebq], by rw [ebq]; rfl, rfl⟩
        · rw [if_neg (fun w => g w.2)] at ebq
          rw [if_pos (show nI (bqN n A 1000000 i).2 ≤ nI (max (stN n i A) (A.length - stN n i A)) from nI_le (by unfold gtN at g; omega) (by omega))]
          dsimp only
          rw [lt_eq, nI_1]
          exact hrec _ _ _ ⟨by rw [ebq], by rw [ebq], rfl⟩
      · rw [if_neg (fun w => g1 w.1)] at ebq
        rw [if_pos (nI_le (by omega) (by omega))]
        dsimp only
        rw [lt_eq, nI_1]
        exact hrec _ _ _ ⟨by rw [ebq], by rw [ebq], rfl⟩
    · rintro x y h1 rec ⟨rfl, rfl, rfl⟩
      unfold fX12_askWhat_l8
      rw [if_pos (show (105 : Int32) ≤ nI 105 by decide)]
      exact wp_some ⟨rfl, rfl⟩
