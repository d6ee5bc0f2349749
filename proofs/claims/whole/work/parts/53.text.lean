/-! a line of each sort -/
theorem line_no {s q n : Nat} {b : Nat → Nat} {Co : Nat → Hp → Hp → Prop} {hC hM : Hp} (p9 : hC.1 3 0 9 = nI q) (i11 : hM.1 10 0 11 = nI q) (hh : fX5_headOf (nI s) hC = some (-1, hC)) (hline : Line s (mW hM b n q) (nI q) hM = bnd (fX12_fails hM) fun x15 h14 => ck (zk x15) (some (x15, h14))) : LRes s Co hC hM b n q := by
  obtain ⟨hR, eR, r3, r4⟩ := readLine_no hh p9
  obtain ⟨hF, eF, f15, -⟩ := fails_eq i11
  refine Or.inr ⟨q, hR, hF, eR, ?_, r3, r4, f15⟩
  rw [mLine_eq, hline, eF, bnd_eq]
  rfl
theorem Line_0 (w : Int64) (a : Int32) (h : Hp) : Line 0 w a h = fX12_stageLine w a h := by unfold Line; rw [if_pos rfl]
theorem Line_1 (w : Int64) (a : Int32) (h : Hp) : Line 1 w a h = fX12_showLine w a h := by unfold Line; rw [if_neg (by decide), if_pos rfl]
theorem Line_2 (w : Int64) (a : Int32) (h : Hp) : Line 2 w a h = fX12_logLine w a h := by unfold Line; rw [if_neg (by decide), if_neg (by decide)]
theorem stage_no {w : Int64} {a : Int32} {h : Hp} (n2 : ¬ lg_cmp w 482854663269 = 0) (n0 : ¬ lg_cmp w 495806932324 = 0) (n1 : ¬ lg_cmp w 495873782388 = 0) : fX12_stageLine w a h = bnd (fX12_fails h) fun x15 h14 => ck (zk x15) (some (x15, h14)) := by
  unfold fX12_stageLine
  rw [if_neg n2, jn_eq, if_neg n0, if_neg n1]
theorem asg_if {h : Hp} {i : Nat} {j : Int32} (hi : j = nI i) (hb : ib j 81 = true) : (if rd h 10 0 20 = 0 then ck (ib j 81) (ck (ib j 81) (lt (wa h 51 0 j (ra h 51 0 j)) fun h12 => ck (zk 1) (some ((1 : Int32), h12)))) else ck (ib 0 3) (ck (ib j 81) (lt (wa h 51 0 j (ra h 52 0 0)) fun h13 => ck (zk 1) (some (1, h13))))) = some (1, asg i h) := by
  unfold asg
  rw [ck_p hb, ck_p hb, ck_p hb, ← hi]
  by_cases h0 : rd h 10 0 20 = 0
  · rw [if_pos h0, if_pos h0]; rfl
  · rw [if_neg h0, if_neg h0]; rfl
theorem stage_sp {w : Int64} {a : Int32} {h : Hp} (n2 : ¬ lg_cmp w 482854663269 = 0) (y0 : lg_cmp w 495806932324 = 0) : fX12_stageLine w a h = bnd (fX12_token h) fun _ h5 => bnd (fX12_take (nI 0) (nI 1) (nI 9) h5) fun x9 h8 => if x9 = 0 then some (0, h8) else some (1, asg 0 h8) := by
  unfold fX12_stageLine
  rw [if_neg n2, jn_eq, if_pos y0]
  dsimp only
  refine congrArg (bnd (fX12_token h)) ?_
  funext _ h5
  rw [jn_eq, if_pos y0]
  show bnd (fX12_take (nI 0) (nI 1) (nI 9) h5) _ = _
  refine congrArg (bnd _) ?_
  funext x9 h8
  by_cases hx : x9 = 0
  · rw [if_pos hx, if_pos hx]; rfl
  · rw [if_neg hx, if_neg hx, jn_eq, if_pos y0]
    exact asg_if (i := 0) (j := 0) rfl rfl
theorem stage_st {w : Int64} {a : Int32} {h : Hp} (n2 : ¬ lg_cmp w 482854663269 = 0) (n0 : ¬ lg_cmp w 495806932324 = 0) (y1 : lg_cmp w 495873782388 = 0) : fX12_stageLine w a h = bnd (fX12_token h) fun _ h5 => bnd (fX12_take (nI 0) (nI 0) (nI 9) h5) fun x9 h8 => if x9 = 0 then some (0, h8) else some (1, asg 1 h8) := by
  unfold fX12_stageLine
  rw [if_neg n2, jn_eq, if_neg n0, if_pos y1]
  dsimp only
  refine congrArg (bnd (fX12_token h)) ?_
  funext _ h5
  rw [jn_eq, if_neg n0]
  show bnd (fX12_take (nI 0) (nI 0) (nI 9) h5) _ = _
  refine congrArg (bnd _) ?_
  funext x9 h8
  by_cases hx : x9 = 0
  · rw [if_pos hx, if_pos hx]; rfl
  · rw [if_neg hx, if_neg hx, jn_eq, if_neg n0]
    exact asg_if (i := 1) (j := 1) rfl rfl
theorem head_0 {hC : Hp} {b : Nat → Nat} {n q : Nat} (cC : CT hC b n (tr b n q)) (h8 : hC.1 3 0 8 = nI (tk b n q)) (p9 : hC.1 3 0 9 = nI q) (h1 : tk b n q = 1) (s : Nat) (hs : s < 3) : fX5_headOf (nI s) hC = some (oI (hd s (wd b q (tr b n q))), hC) :=
  headOf_eq cC p9 (by rw [h8, h1]; decide) (tr_ge b n q) hs
theorem co_sp {f : Nat} {hC hM : Hp} (co : Co0 f hC hM) (i lo : Nat) (hi : i < 2) (hlo : i = 0 → 1 ≤ lo) : ∀ f' v hB hM', (f' = 0 → f = 0 ∧ lo ≤ v ∧ v ≤ 9) → (∀ k s j, k ≠ 3 → k ≠ 26 → ¬ (k = 6 ∧ s = 8 ∧ j = i) → hB.1 k s j = hC.1 k s j) → hB.1 6 8 i = nI v → (∀ k s j, k ≠ 10 → k ≠ 52 → ¬ (k = 51 ∧ j = i) → hM'.1 k s j = hM.1 k s j) → (hM'.1 51 0 i = nI v ∨ (f' ≠ 0 ∧ hM'.1 51 0 i = hM.1 51 0 i)) → Co0 f' hB hM' := by
  intro f' v hB hM' hf kB bv kM mv
  obtain ⟨c1, c2, hc1, ec1, hc2, ec2, hcon⟩ := co
  refine ⟨c1, c2, hc1, (kB 6 8 2 (by decide) (by decide) (by omega)).trans ec1, hc2, (kM 51 0 2 (by decide) (by decide) (by omega)).trans ec2, fun h0 => ?_⟩
  obtain ⟨hf0, r1, r2⟩ := hf h0
  have mv' : hM'.1 51 0 i = nI v := mv.elim id (fun w => absurd h0 w.1)
  obtain ⟨sp, st, m, pl, li, le, hv, hs, hm⟩ := hcon hf0
  have hcs : ∀ p, p < m → hB.1 33 8 p = nI (pl p) ∧ hB.1 34 8 p = nI (li p) ∧ hB.1 35 8 p = nI (le p) := fun p hp => by
    rw [kB 33 8 p (by decide) (by decide) (by omega), kB 34 8 p (by decide) (by decide) (by omega), kB 35 8 p (by decide) (by decide) (by omega)]; exact hs.2.2.2 p hp
  have hms : ∀ p, p < m → hM'.1 51 0 (3 + p) = nI (pl p) ∧ hM'.1 51 0 (8 + p) = nI (li p) ∧ hM'.1 51 0 (13 + p) = nI (le p) := fun p hp => by
    rw [kM 51 0 (3 + p) (by decide) (by decide) (by omega), kM 51 0 (8 + p) (by decide) (by decide) (by omega), kM 51 0 (13 + p) (by decide) (by decide) (by omega)]; exact hm.2.2.2 p hp
  have cn : hB.1 6 8 2 = nI m := (kB 6 8 2 (by decide) (by decide) (by omega)).trans hs.2.2.1
  have mn : hM'.1 51 0 2 = nI m := (kM 51 0 2 (by decide) (by decide) (by omega)).trans hm.2.2.1
  rcases (show i = 0 ∨ i = 1 by omega) with rfl | rfl
  · exact ⟨v, st, m, pl, li, le, ⟨by have := hlo rfl; omega, by omega, hv.2.2⟩, ⟨bv, (kB 6 8 1 (by decide) (by decide) (by omega)).trans hs.2.1, cn, hcs⟩, ⟨mv', (kM 51 0 1 (by decide) (by decide) (by omega)).trans hm.2.1, mn, hms⟩⟩
  · exact ⟨sp, v, m, pl, li, le, ⟨hv.1, hv.2.1, by omega, hv.2.2.2⟩, ⟨(kB 6 8 0 (by decide) (by decide) (by omega)).trans hs.1, bv, cn, hcs⟩, ⟨(kM 51 0 0 (by decide) (by decide) (by omega)).trans hm.1, mv', mn, hms⟩⟩
theorem line_0 {f x q n : Nat} {b : Nat → Nat} {hC hM : Hp} (cC : CT hC b n (tr b n q)) (h8 : hC.1 3 0 8 = nI (tk b n q)) (p9 : hC.1 3 0 9 = nI q) (cM : MTk hM b n q) (fl : FLT hC hM f x) (hx : x ≤ q) (hg : hM.1 10 0 20 = 1) (co : Co0 f hC hM) : LRes 0 Co0 hC hM b n q := by
  have v := wc_vals
  have i2 : (lg_cmp (mW hM b n q) 482854663269 = 0) ↔ (tk b n q = 1 ∧ wd b q (tr b n q) = wl' 2) := by rw [← v.2.2.1]; exact wcmp (by decide) cM
  have i0 : (lg_cmp (mW hM b n q) 495806932324 = 0) ↔ (tk b n q = 1 ∧ wd b q (tr b n q) = wl' 0) := by rw [← v.1]; exact wcmp (by decide) cM
  have i1 : (lg_cmp (mW hM b n q) 495873782388 = 0) ↔ (tk b n q = 1 ∧ wd b q (tr b n q) = wl' 1) := by rw [← v.2.1]; exact wcmp (by decide) cM
  have i11 := cM.2.2.2.2.1
  by_cases h1 : tk b n q = 1
  · have hho := head_0 cC h8 p9 h1 0 (by decide)
    rw [show hd 0 (wd b q (tr b n q)) = hdL [0, 1, 2] (wd b q (tr b n q)) from rfl] at hho
    simp only [hdL] at hho
    by_cases w2 : wd b q (tr b n q) = wl' 2
    · have n0 : ¬ wd b q (tr b n q) = wl' 0 := by rw [w2]; decide
      have n1 : ¬ wd b q (tr b n q) = wl' 1 := by rw [w2]; decide
      rw [if_neg n0, if_neg n1, if_pos w2] at hho
      refine line_plate h1 cC p9 cM fl hx hg hho ?_ co
      rw [Line_0]
      unfold fX12_stageLine
      rw [if_pos (i2.mpr ⟨h1, w2⟩)]
    · by_cases w0 : wd b q (tr b n q) = wl' 0
      · rw [if_pos w0] at hho
        refine line_asg (hdn := 0) (lo := 1) (hi := 9) (idx := 0) (kk := 6) (fi := 0) h1 cC p9 cM fl hx hg hho (by decide) (fun h => rfl) nof_0 (by decide) (by decide) (by decide) (fun v h' hv e => cb_0 hv e) ?_ (fun h => rfl) (by decide) (by decide) (co_sp co 0 1 (by decide) (fun _ => by decide))
        rw [Line_0]
        exact stage_sp (fun w => w2 (i2.mp w).2) (i0.mpr ⟨h1, w0⟩)
      · rw [if_neg w0] at hho
        by_cases w1 : wd b q (tr b n q) = wl' 1
        · rw [if_pos w1] at hho
          refine line_asg (hdn := 1) (lo := 0) (hi := 9) (idx := 1) (kk := 6) (fi := 1) h1 cC p9 cM fl hx hg hho (by decide) (fun h => rfl) nof_1 (by decide) (by decide) (by decide) (fun v h' hv e => cb_1 hv e) ?_ (fun h => rfl) (by decide) (by decide) (co_sp co 1 0 (by decide) (fun w => absurd w (by decide)))
          rw [Line_0]
          exact stage_st (fun w => w2 (i2.mp w).2) (fun w => w0 (i0.mp w).2) (i1.mpr ⟨h1, w1⟩)
        · rw [if_neg w1, if_neg w2] at hho
          refine line_no p9 i11 hho ?_
          rw [Line_0]
          exact stage_no (fun w => w2 (i2.mp w).2) (fun w => w0 (i0.mp w).2) (fun w => w1 (i1.mp w).2)
  · refine line_no p9 i11 (headOf_no h8 h1 (tk_lt b n q)) ?_
    rw [Line_0]
    exact stage_no (fun w => h1 (i2.mp w).1) (fun w => h1 (i0.mp w).1) (fun w => h1 (i1.mp w).1)
