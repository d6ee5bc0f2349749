/-! rows: the reference's show against when each plate falls -/
theorem sbN_congr {L L' : Nat → Nat} : ∀ n, (∀ p, p < n → (0 < L p ↔ 0 < L' p)) → sbN L n = sbN L' n := by
  intro n
  induction n with
  | zero => intro _; rfl
  | succ n ih =>
    intro h
    show sbN L n + _ = sbN L' n + _
    rw [ih (fun p hp => h p (by omega))]
    have := h n (by omega)
    by_cases g : 0 < L n
    · rw [if_pos g, if_pos (this.mp g)]
    · rw [if_neg g, if_neg (fun w => g (this.mpr w))]
def MFB (n : Nat) (x : PW) (s : FB) : Prop := x.2.2.2 1 = s.2.1 ∧ x.2.2.2 0 = s.2.2 ∧ (∀ p, p < n → x.1 p = s.1 p - s.2.1) ∧ ∀ t, t ≤ s.2.1 → x.2.2.2 (100 + t) = sbN (fun p => s.1 p - t) n
theorem mfb_bt {n : Nat} {x : PW} {s : FB} (hn : n ≤ 5) (h : MFB n x s) : MFB n (bt1 n 9 x) (s.1, s.2.1 + 1, s.2.2) := by
  obtain ⟨h1, h2, h3, h4⟩ := h
  refine ⟨by show x.2.2.2 1 + 1 = _; rw [h1], h2, fun p hp => ?_, fun t ht => ?_⟩
  · show (if p < n ∧ p ≠ 9 then x.1 p - 1 else x.1 p) = _
    rw [if_pos ⟨hp, by omega⟩, h3 p hp]
    show s.1 p - s.2.1 - 1 = s.1 p - (s.2.1 + 1)
    omega
  · rw [bt1_hi]
    by_cases q : 100 + t = 101 + x.2.2.2 1
    · rw [if_pos q]
      refine sbN_congr n (fun p hp => ?_)
      show 0 < (if p < n ∧ p ≠ 9 then x.1 p - 1 else x.1 p) ↔ 0 < s.1 p - t
      rw [if_pos ⟨hp, by omega⟩, h3 p hp]; omega
    · rw [if_neg q]
      exact h4 t (by have : t ≤ s.2.1 + 1 := ht; omega)
theorem mfb_btk {n : Nat} {x : PW} {s : FB} (hn : n ≤ 5) (h : MFB n x s) : ∀ k, MFB n (btk n k x) (s.1, s.2.1 + k, s.2.2) := by
  intro k
  induction k with
  | zero => exact h
  | succ k ih =>
    rw [← btk_s]
    exact mfb_bt hn ih
theorem mfb_run {n sp p : Nat} {pl li : Nat → Nat} {x : PW} {s s' : FB} (hn : n ≤ 5) (hli : 1 ≤ li p) (he : x.2.1 = li) (h : MFB n x s) (e : mkS n sp pl li s p = some s') : MFB n (runP n sp pl p x) s' ∧ (runP n sp pl p x).2.1 = li := by
  unfold mkS at e
  by_cases g : p < n ∧ s.2.1 < s.1 p
  · rw [if_pos g] at e
    cases e
    obtain ⟨h1, h2, h3, h4⟩ := mfb_btk hn h (wayN sp s.2.2 (pl p))
    have hy : MFB n (pwy n sp pl p x) (s.1, s.2.1 + wayN sp s.2.2 (pl p), pl p) := by
      have hw : wayN sp (x.2.2.2 0) (pl p) = wayN sp s.2.2 (pl p) := by rw [h.2.1]
      refine ⟨?_, rfl, fun q hq => ?_, fun t ht => ?_⟩
      · rw [pwy_beats, hw, h.1]
      · show (btk n (wayN sp (x.2.2.2 0) (pl p)) x).1 q = _
        rw [hw]; exact h3 q hq
      · rw [pwy_hi, hw]; exact h4 t ht
    have hE : (pwy n sp pl p x).2.1 = li := he
    unfold runP
    generalize pwy n sp pl p x = y at hy hE
    have hyp : y.1 p = s.1 p - (s.2.1 + wayN sp s.2.2 (pl p)) := hy.2.2.1 p g.1
    by_cases g2 : s.2.1 + wayN sp s.2.2 (pl p) < s.1 p
    · rw [if_pos (show 0 < y.1 p by omega), if_pos g2]
      obtain ⟨y1, y2, y3, y4⟩ := hy
      have y1 : y.2.2.2 1 = s.2.1 + wayN sp s.2.2 (pl p) := y1
      refine ⟨⟨by show y.2.2.2 1 + 1 = _; rw [y1], y2, fun q hq => ?_, fun t ht => ?_⟩, hE⟩
      · show (if q = p then y.2.1 p else if q < n ∧ q ≠ p then y.1 q - 1 else y.1 q) = (if q = p then s.2.1 + wayN sp s.2.2 (pl p) + 1 + li p else s.1 q) - (s.2.1 + wayN sp s.2.2 (pl p) + 1)
        by_cases hqp : q = p
        · rw [if_pos hqp, if_pos hqp, hE]; omega
        · rw [if_neg hqp, if_neg hqp, if_pos ⟨hq, hqp⟩, y3 q hq]
          show s.1 q - (s.2.1 + wayN sp s.2.2 (pl p)) - 1 = _
          omega
      · have ht' : t ≤ s.2.1 + wayN sp s.2.2 (pl p) + 1 := ht
        show (if 100 + t = 3 then _ else (bt1 n p y).2.2.2 (100 + t)) = _
        rw [if_neg (by omega), bt1_hi]
        by_cases q : 100 + t = 101 + y.2.2.2 1
        · rw [if_pos q]
          refine sbN_congr n (fun q' hq' => ?_)
          show 0 < (if q' < n ∧ q' ≠ p then y.1 q' - 1 else y.1 q') ↔ 0 < (if q' = p then s.2.1 + wayN sp s.2.2 (pl p) + 1 + li p else s.1 q') - t
          by_cases hqp : q' = p
          · rw [if_neg (fun w => w.2 hqp), if_pos hqp, hqp]; omega
          · rw [if_pos ⟨hq', hqp⟩, if_neg hqp, y3 q' hq']
            show 0 < s.1 q' - (s.2.1 + wayN sp s.2.2 (pl p)) - 1 ↔ _
            omega
        · rw [if_neg q, y4 t (by show t ≤ s.2.1 + wayN sp s.2.2 (pl p); omega)]
          refine sbN_congr n (fun q' hq' => ?_)
          show 0 < s.1 q' - t ↔ 0 < (if q' = p then s.2.1 + wayN sp s.2.2 (pl p) + 1 + li p else s.1 q') - t
          by_cases hqp : q' = p
          · rw [if_pos hqp, hqp]; omega
          · rw [if_neg hqp]
    · rw [if_neg (show ¬ 0 < y.1 p by omega), if_neg g2]
      obtain ⟨z1, z2, z3, z4⟩ := mfb_bt hn hy
      refine ⟨⟨z1, z2, z3, fun t ht => ?_⟩, hE⟩
      show (if 100 + t = 4 then _ else (bt1 n 9 y).2.2.2 (100 + t)) = _
      rw [if_neg (by omega)]
      exact z4 t ht
  · rw [if_neg g] at e; cases e
theorem mfb_ini {sp st n : Nat} {pl li le : Nat → Nat} (hv : SV sp st n pl li le) : MFB n (iniP n st li le) (le, 0, st) := by
  refine ⟨rfl, rfl, fun p hp => rfl, fun t ht => ?_⟩
  have : t = 0 := by have : t ≤ 0 := ht; omega
  subst this
  rfl
theorem fives_eq {h : Hp} {k : Nat} (hk : k ≤ 100) : fX12_fives (nI k) h = some (nI (5 ^ k), h) := by
  unfold fX12_fives
  rw [show (5 : Int32) = nI 5 from rfl, times_eq (by omega), bnd_eq]
theorem dig5 {h : Hp} {c r i : Nat} (hr : r ≤ 4) (hi : i < r) (hc : c < 2 ^ 31) : (nI r - (1 : Int32)) - nI i = nI (r - 1 - i) ∧ (!decide (nI (5 ^ (r - 1 - i)) = 0)) = true ∧ irm (nI c / nI (5 ^ (r - 1 - i))) 5 = nI (rwN 5 r c i) := by
  have hp : (5 : Nat) ^ (r - 1 - i) ≤ 5 ^ 4 := Nat.pow_le_pow_right (by decide) (by omega)
  have hp1 : 1 ≤ (5 : Nat) ^ (r - 1 - i) := Nat.one_le_pow _ _ (by decide)
  have hd : c / 5 ^ (r - 1 - i) ≤ c := Nat.div_le_self _ _
  refine ⟨?_, ?_, ?_⟩
  · rw [show nI r - (1 : Int32) = nI (r - 1) from nI_sub (b := 1) (by omega), nI_sub (by omega)]
  · rw [Bool.not_eq_true', decide_eq_false_iff_not]
    exact fun q => by have := (eq0_n (by omega)).mp q; omega
  · rw [nI_div hc (by omega), show (5 : Int32) = nI 5 from rfl, nI_rem (by omega) (by decide)]
    unfold rwN
    rw [if_pos hi]
/-- what the reference has at hand: stage, log, and the row of the told stage -/
def MLS (h : Hp) (j jj sp st n r m : Nat) (pl li le sd pt bt : Nat → Nat) : Prop := h.1 10 0 21 = nI j ∧ MSt h j sp st n pl li le ∧ h.1 10 0 52 = nI jj ∧ MLg h jj r m sd pt bt
theorem MLS.cp {h h' : Hp} {j jj sp st n r m : Nat} {pl li le sd pt bt : Nat → Nat} (e : ∀ k i, k = 48 ∨ k = 50 → h'.1 k 0 i = h.1 k 0 i) (e21 : h'.1 10 0 21 = h.1 10 0 21) (e52 : h'.1 10 0 52 = h.1 10 0 52) (hm : MLS h j jj sp st n r m pl li le sd pt bt) : MLS h' j jj sp st n r m pl li le sd pt bt := by
  obtain ⟨m1, m2, m3, m4⟩ := hm
  refine ⟨e21.trans m1, ⟨(e _ _ (by omega)).trans m2.1, (e _ _ (by omega)).trans m2.2.1, (e _ _ (by omega)).trans m2.2.2.1, fun p hp => ?_⟩, e52.trans m3, (e _ _ (by omega)).trans m4.1, (e _ _ (by omega)).trans m4.2.1, fun k hk => ?_⟩
  · rw [e _ _ (by omega), e _ _ (by omega), e _ _ (by omega)]; exact m2.2.2.2 p hp
  · rw [e _ _ (by omega), e _ _ (by omega), e _ _ (by omega)]; exact m4.2.2 k hk
theorem runsAll_wp {h : Hp} {j jj sp st n r m c : Nat} {pl li le sd pt bt : Nat → Nat} (hj : j < 8) (hjj : jj < 8) (hv : SV sp st n pl li le) (hg : GV r m sd pt bt) (ml : MLS h j jj sp st n r m pl li le sd pt bt) (hc : c < 2 ^ 31) : WP (fX12_runsAll (nI c) h) (fun q h' => (match smS n sp st pl li le (rwN 5 r c) r with | none => q = 0 | some s => q = 1 ∧ ∃ x, MS h' n sp pl x ∧ VX n x ∧ MFB n x s) ∧ h'.1 10 0 22 = nI n ∧ Fr wX12_runsAll h h') := by
  suffices main : WP (fX12_runsAll (nI c) h) (fun q h' => (match smS n sp st pl li le (rwN 5 r c) r with | none => q = 0 | some s => q = 1 ∧ ∃ x, MS h' n sp pl x ∧ VX n x ∧ MFB n x s) ∧ h'.1 10 0 22 = nI n) from wp_mono (wp_fr main (frX12_runsAll (nI c) h)) (fun _ _ z => ⟨z.1.1, z.1.2, z.2⟩)
  have hn := hv.2.2.2.1
  have hp := hv.vp
  have hr : r ≤ 4 := hg.1
  unfold fX12_runsAll
  refine wp_bnd (wp_mono (beginShow_wp ml.1 hj hv ml.2.1) (fun _ h1 q => ?_))
  obtain ⟨ms, fr1⟩ := q
  have ml1 : MLS h1 j jj sp st n r m pl li le sd pt bt := ml.cp (fun k i hk => by rcases hk with rfl | rfl <;> exact fr1.cell _ 0 rfl i) (fr1.at 10 0 21 rfl) (fr1.at 10 0 52 rfl)
  refine wp_for1 r (fun i h' => ∃ s x, smS n sp st pl li le (rwN 5 r c) i = some s ∧ MS h' n sp pl x ∧ VX n x ∧ MFB n x s ∧ x.2.1 = li ∧ MLS h' j jj sp st n r m pl li le sd pt bt) ?_ ?_ FU h1 (i0 := 0) (by omega) (FUb (by omega)) ⟨_, _, rfl, ms, iniP_VX hv, mfb_ini hv, rfl, ml1⟩
  · rintro i h2 rec hi ⟨s, x, es, mx, vx, mf, ex, ml2⟩ hrec
    have vb := smS_VB hv i s es
    have hes : smS n sp st pl li le (rwN 5 r c) (i + 1) = mkS n sp pl li s (rwN 5 r c i) := by show (smS n sp st pl li le (rwN 5 r c) i).bind _ = _; rw [es]; rfl
    obtain ⟨t1, t2, t3⟩ := dig5 (h := h) hr hi hc
    unfold fX12_runsAll_l6
    have rM : fX12_runs h2 = some (nI r, h2) := by rw [runs_eq ml2.2.2.1 hjj, ml2.2.2.2.1]
    rw [rM, bnd_eq, if_neg (fun q => nI_ge hi (by omega) q), rM, bnd_eq, t1, fives_eq (by omega), bnd_eq, ck_p t2, lt_eq, t3, isPlate_eq mx.2.1 hn, bnd_eq]
    have hw5 : rwN 5 r c i < 5 := rwN_lt (by decide) hi
    by_cases hwn : rwN 5 r c i < n
    · rw [if_neg (in_no hwn (by omega)), if_neg ne10]
      have hB := vb.1
      have hw := wayN_le hp.2.1 vb.2.1 (hp.2.2.2 _ hwn)
      have mB : mayB n sp pl x 1 (rwN 5 r c i) = decide (s.2.1 < s.1 (rwN 5 r c i)) := by
        unfold mayB
        rw [if_neg (by decide), if_pos rfl, decide_eq_true hwn, Bool.true_and, mf.1, mf.2.1, mf.2.2.1 _ hwn, decide_eq_true (show s.2.1 + wayN sp s.2.2 (pl (rwN 5 r c i)) + 1 ≤ 99 by omega), Bool.and_true]
        exact decide_eq_decide.mpr (by omega)
      refine wp_bnd (wp_mono (wp_fr (run_wp hp hwn vx mx) (frX12_run _ h2)) (fun q h3 g3 => ?_))
      obtain ⟨g3, fr3⟩ := g3
      rcases g3 with ⟨a1, rfl, a3⟩ | ⟨a1, rfl, rfl⟩
      · rw [mB, decide_eq_true_eq] at a1
        have hs' : ∃ s', mkS n sp pl li s (rwN 5 r c i) = some s' := by unfold mkS; rw [if_pos ⟨hwn, a1⟩]; exact ⟨_, rfl⟩
        obtain ⟨s', es'⟩ := hs'
        obtain ⟨mf', ex'⟩ := mfb_run hn (hv.2.2.2.2 _ hwn).2.1 ex mf es'
        rw [if_neg ne10, lt_eq, nI_1]
        refine hrec _ ⟨s', _, hes.trans es', a3, runP_VX hp hwn vx ?_, mf', ex', ml2.cp (fun k i hk => by rcases hk with rfl | rfl <;> exact fr3.cell _ 0 rfl i) (fr3.at 10 0 21 rfl) (fr3.at 10 0 52 rfl)⟩
        rw [mf.1, mf.2.1]; omega
      · rw [mB, decide_eq_false_iff_not] at a1
        have hN : smS n sp st pl li le (rwN 5 r c) (i + 1) = none := by rw [hes]; unfold mkS; rw [if_neg (fun q => a1 q.2)]
        rw [if_pos rfl, ck_p zk_0]
        refine wp_some ⟨?_, mx.2.1⟩
        rw [smS_none hN r (by omega)]
    · have hN : smS n sp st pl li le (rwN 5 r c) (i + 1) = none := by rw [hes]; unfold mkS; rw [if_neg (fun q => hwn q.1)]
      rw [if_pos (Or.inr (nI_le (by omega) (by omega))), if_pos rfl, ck_p zk_0]
      refine wp_some ⟨?_, mx.2.1⟩
      rw [smS_none hN r (by omega)]
  · rintro h2 rec ⟨s, x, es, mx, vx, mf, ex, ml2⟩
    unfold fX12_runsAll_l6
    rw [runs_eq ml2.2.2.1 hjj, bnd_eq, ml2.2.2.2.1, if_pos (nI_le (Nat.le_refl _) (by omega))]
    dsimp only
    rw [ck_p zk_1]
    refine wp_some ⟨?_, mx.2.1⟩
    rw [es]
    exact ⟨rfl, x, mx, vx, mf⟩
theorem more_wp {h : Hp} {n sp : Nat} {pl : Nat → Nat} {x : PW} {s : FB} {K : Hp → Option (Unit × Hp)} {P : Unit → Hp → Prop} (hp : VP n sp pl) (hx : VX n x) (ms : MS h n sp pl x) (mf : MFB n x s) (hb : s.2.1 ≤ 40) (hK : ∀ h' x', MS h' n sp pl x' → VX n x' → MFB n x' (s.1, max s.2.1 31, s.2.2) → (∀ k s i, k ≠ 63 → k ≠ 57 → ¬ (k = 10 ∧ 30 ≤ i ∧ i ≤ 37) → h'.1 k s i = h.1 k s i) → WP (K h') P) : WP (itr0 (fX12_findRows_l105 K) FU h) P := by
  refine wp_itr0 (fun m h' => ∃ x' b, MS h' n sp pl x' ∧ VX n x' ∧ MFB n x' (s.1, b, s.2.2) ∧ b ≤ max s.2.1 31 ∧ s.2.1 ≤ b ∧ m = 100 - b ∧ ∀ k s i, k ≠ 63 → k ≠ 57 → ¬ (k = 10 ∧ 30 ≤ i ∧ i ≤ 37) → h'.1 k s i = h.1 k s i) ?_ FU (100 - s.2.1) h (FUb (by omega)) ⟨x, s.2.1, ms, hx, mf, by omega, Nat.le_refl _, rfl, fun _ _ _ _ _ _ => rfl⟩
  rintro m h1 rec ⟨x', b, m1, v1, f1, b1, b2, rfl, k1⟩ hrec
  unfold fX12_findRows_l105
  have r30 : rd h1 10 0 30 = nI b := m1.2.2.2.2.1.trans (congrArg nI f1.1)
  rw [r30]
  by_cases g : 30 < b
  · rw [if_pos (show (30 : Int32) < nI b from nI_lt (a := 30) g (by omega))]
    have : b = max s.2.1 31 := by omega
    subst this
    exact hK h1 x' m1 v1 f1 k1
  · have hb1 : x'.2.2.2 1 = b := f1.1
    rw [if_neg (show ¬ (30 : Int32) < nI b from fun q => g ((lt_n (a := 30) (by decide) (by omega)).mp q))]
    refine wp_bnd (wp_mono (wp_fr (show WP (fX12_beat (-1) h1) _ from beat_wp (b := 9) hp v1 m1 (Or.inr rfl)) (frX12_beat (-1) h1)) (fun _ h2 q => ?_))
    obtain ⟨m2, fr2⟩ := q
    refine hrec (100 - (b + 1)) h2 (by omega) ⟨_, b + 1, m2, bt1_VX hp.1 v1 (by omega), mfb_bt hp.1 f1, by omega, by omega, rfl, fun k s i u1 u2 u3 => ?_⟩
    rw [← k1 k s i u1 u2 u3]
    refine fr2 k s i (fun q hq hcov => ?_)
    obtain ⟨z1, z2, z3⟩ := hcov
    simp [wX12_beat] at hq
    rcases hq with rfl | rfl | rfl | rfl | rfl | rfl | rfl <;> simp at z1 z3 <;> omega
