theorem co_ru {f : Nat} {hC hM : Hp} (co : Co2 f hC hM) : ∀ f' v hB hM', (f' = 0 → f = 0 ∧ 0 ≤ v ∧ v ≤ 4) → (∀ k s j, k ≠ 3 → k ≠ 26 → ¬ (k = 1 ∧ s = 8 ∧ j = 0) → hB.1 k s j = hC.1 k s j) → hB.1 1 8 0 = nI v → (∀ k s j, k ≠ 10 → k ≠ 52 → ¬ (k = 51 ∧ j = 0) → hM'.1 k s j = hM.1 k s j) → (hM'.1 51 0 0 = nI v ∨ (f' ≠ 0 ∧ hM'.1 51 0 0 = hM.1 51 0 0)) → Co2 f' hB hM' := by
  intro f' v hB hM' hf kB bv kM mv
  obtain ⟨c1, c2, hc1, ec1, hc2, ec2, hcon⟩ := co
  refine ⟨c1, c2, hc1, (kB 1 8 1 (by decide) (by decide) (by omega)).trans ec1, hc2, (kM 51 0 1 (by decide) (by decide) (by omega)).trans ec2, fun h0 => ?_⟩
  obtain ⟨hf0, r1, r2⟩ := hf h0
  have mv' : hM'.1 51 0 0 = nI v := mv.elim id (fun w => absurd h0 w.1)
  obtain ⟨r, m, sd, pt, bt, hv, hs, hm⟩ := hcon hf0
  refine ⟨v, m, sd, pt, bt, ⟨r2, hv.2⟩, ⟨bv, (kB 1 8 1 (by decide) (by decide) (by omega)).trans hs.2.1, fun p hp => ?_⟩, ⟨mv', (kM 51 0 1 (by decide) (by decide) (by omega)).trans hm.2.1, fun p hp => ?_⟩⟩
  · rw [kB 21 8 p (by decide) (by decide) (by omega), kB 22 8 p (by decide) (by decide) (by omega), kB 23 8 p (by decide) (by decide) (by omega)]; exact hs.2.2 p hp
  · rw [kM 51 0 (2 + 3 * p) (by decide) (by decide) (by omega), kM 51 0 (3 + 3 * p) (by decide) (by decide) (by omega), kM 51 0 (4 + 3 * p) (by decide) (by decide) (by omega)]; exact hm.2.2 p hp
theorem line_2 {f x q n : Nat} {b : Nat → Nat} {hC hM : Hp} (cC : CT hC b n (tr b n q)) (h8 : hC.1 3 0 8 = nI (tk b n q)) (p9 : hC.1 3 0 9 = nI q) (cM : MTk hM b n q) (fl : FLT hC hM f x) (hx : x ≤ q) (hg : hM.1 10 0 20 = 1) (co : Co2 f hC hM) : LRes 2 Co2 hC hM b n q := by
  have v := wc_vals
  have i8 : (lg_cmp (mW hM b n q) 1920298611 = 0) ↔ (tk b n q = 1 ∧ wd b q (tr b n q) = wl' 8) := by rw [← v.2.2.2.2.2.2.2.2.1]; exact wcmp (by decide) cM
  have i9 : (lg_cmp (mW hM b n q) 495874699108 = 0) ↔ (tk b n q = 1 ∧ wd b q (tr b n q) = wl' 9) := by rw [← v.2.2.2.2.2.2.2.2.2.1]; exact wcmp (by decide) cM
  have i10 : (lg_cmp (mW hM b n q) 7102841 = 0) ↔ (tk b n q = 1 ∧ wd b q (tr b n q) = wl' 10) := by rw [← v.2.2.2.2.2.2.2.2.2.2]; exact wcmp (by decide) cM
  have i11 := cM.2.2.2.2.1
  by_cases h1 : tk b n q = 1
  · have hho := head_0 cC h8 p9 h1 2 (by decide)
    rw [show hd 2 (wd b q (tr b n q)) = hdL [8, 9, 10] (wd b q (tr b n q)) from rfl] at hho
    simp only [hdL] at hho
    by_cases w8 : wd b q (tr b n q) = wl' 8
    · rw [if_pos w8] at hho
      refine line_asg (hdn := 8) (lo := 0) (hi := 4) (idx := 0) (kk := 1) (fi := 0) h1 cC p9 cM fl hx hg hho (by decide) (fun h => rfl) nof_8 (by decide) (by decide) (by decide) (fun v h' hv e => cb_8 hv e) ?_ (fun h => rfl) (by decide) (by decide) (co_ru co)
      rw [Line_2]
      exact log_ru (i8.mpr ⟨h1, w8⟩)
    · rw [if_neg w8] at hho
      have n8 : ¬ lg_cmp (mW hM b n q) 1920298611 = 0 := fun w => w8 (i8.mp w).2
      by_cases w9 : wd b q (tr b n q) = wl' 9
      · rw [if_pos w9] at hho
        refine line_fact (d := 0) (by decide) h1 cC p9 cM fl hx hg hho ?_ co
        rw [Line_2]
        exact log_fa n8 (Or.inl ⟨rfl, i9.mpr ⟨h1, w9⟩⟩)
      · rw [if_neg w9] at hho
        have n9 : ¬ lg_cmp (mW hM b n q) 495874699108 = 0 := fun w => w9 (i9.mp w).2
        by_cases w10 : wd b q (tr b n q) = wl' 10
        · rw [if_pos w10] at hho
          refine line_fact (d := 1) (by decide) h1 cC p9 cM fl hx hg hho ?_ co
          rw [Line_2]
          exact log_fa n8 (Or.inr ⟨rfl, n9, i10.mpr ⟨h1, w10⟩⟩)
        · rw [if_neg w10] at hho
          refine line_no p9 i11 hho ?_
          rw [Line_2]
          exact log_no n8 n9 (fun w => w10 (i10.mp w).2)
  · refine line_no p9 i11 (headOf_no h8 h1 (tk_lt b n q)) ?_
    rw [Line_2]
    exact log_no (fun w => h1 (i8.mp w).1) (fun w => h1 (i9.mp w).1) (fun w => h1 (i10.mp w).1)
