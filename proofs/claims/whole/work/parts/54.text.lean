theorem show_no {w : Int64} {a : Int32} {h : Hp} (hd : fX12_deedBy w h = some (-1, h)) : fX12_showLine w a h = bnd (fX12_fails h) fun x15 h14 => ck (zk x15) (some (x15, h14)) := by
  unfold fX12_showLine
  rw [hd, bnd_eq, if_pos rfl]
theorem line_1 {f x q n : Nat} {b : Nat → Nat} {hC hM : Hp} (cC : CT hC b n (tr b n q)) (h8 : hC.1 3 0 8 = nI (tk b n q)) (p9 : hC.1 3 0 9 = nI q) (cM : MTk hM b n q) (fl : FLT hC hM f x) (hx : x ≤ q) (hg : hM.1 10 0 20 = 1) (co : Co1 f hC hM) : LRes 1 Co1 hC hM b n q := by
  have v := wc_vals
  have i3 : (lg_cmp (mW hM b n q) 2002872692 = 0) ↔ (tk b n q = 1 ∧ wd b q (tr b n q) = wl' 3) := by rw [← v.2.2.2.1]; exact wcmp (by decide) cM
  have i4 : (lg_cmp (mW hM b n q) 7501166 = 0) ↔ (tk b n q = 1 ∧ wd b q (tr b n q) = wl' 4) := by rw [← v.2.2.2.2.1]; exact wcmp (by decide) cM
  have i5 : (lg_cmp (mW hM b n q) 7562612 = 0) ↔ (tk b n q = 1 ∧ wd b q (tr b n q) = wl' 5) := by rw [← v.2.2.2.2.2.1]; exact wcmp (by decide) cM
  have i6 : (lg_cmp (mW hM b n q) 1735750516 = 0) ↔ (tk b n q = 1 ∧ wd b q (tr b n q) = wl' 6) := by rw [← v.2.2.2.2.2.2.1]; exact wcmp (by decide) cM
  have i7 : (lg_cmp (mW hM b n q) 7301484 = 0) ↔ (tk b n q = 1 ∧ wd b q (tr b n q) = wl' 7) := by rw [← v.2.2.2.2.2.2.2.1]; exact wcmp (by decide) cM
  have i11 := cM.2.2.2.2.1
  by_cases h1 : tk b n q = 1
  · have hho := head_0 cC h8 p9 h1 1 (by decide)
    rw [show hd 1 (wd b q (tr b n q)) = hdL [3, 4, 5, 6, 7] (wd b q (tr b n q)) from rfl] at hho
    simp only [hdL] at hho
    have fin : ∀ d, d < 5 → fX5_headOf (nI 1) hC = some (nI (3 + d), hC) → fX12_deedBy (mW hM b n q) hM = some (nI d, hM) → LRes 1 Co1 hC hM b n q := fun d hd a b' => line_show hd h1 cC p9 cM fl hx hg a b' co
    by_cases w3 : wd b q (tr b n q) = wl' 3
    · rw [if_pos w3] at hho
      exact fin 0 (by decide) hho (by unfold fX12_deedBy; rw [if_pos (i3.mpr ⟨h1, w3⟩)]; rfl)
    · rw [if_neg w3] at hho
      have n3 : ¬ lg_cmp (mW hM b n q) 2002872692 = 0 := fun w => w3 (i3.mp w).2
      by_cases w4 : wd b q (tr b n q) = wl' 4
      · rw [if_pos w4] at hho
        exact fin 1 (by decide) hho (by unfold fX12_deedBy; rw [if_neg n3, if_pos (i4.mpr ⟨h1, w4⟩)]; rfl)
      · rw [if_neg w4] at hho
        have n4 : ¬ lg_cmp (mW hM b n q) 7501166 = 0 := fun w => w4 (i4.mp w).2
        by_cases w5 : wd b q (tr b n q) = wl' 5
        · rw [if_pos w5] at hho
          exact fin 2 (by decide) hho (by unfold fX12_deedBy; rw [if_neg n3, if_neg n4, if_pos (i5.mpr ⟨h1, w5⟩)]; rfl)
        · rw [if_neg w5] at hho
          have n5 : ¬ lg_cmp (mW hM b n q) 7562612 = 0 := fun w => w5 (i5.mp w).2
          by_cases w6 : wd b q (tr b n q) = wl' 6
          · rw [if_pos w6] at hho
            exact fin 3 (by decide) hho (by unfold fX12_deedBy; rw [if_neg n3, if_neg n4, if_neg n5, if_pos (i6.mpr ⟨h1, w6⟩)]; rfl)
          · rw [if_neg w6] at hho
            have n6 : ¬ lg_cmp (mW hM b n q) 1735750516 = 0 := fun w => w6 (i6.mp w).2
            by_cases w7 : wd b q (tr b n q) = wl' 7
            · rw [if_pos w7] at hho
              exact fin 4 (by decide) hho (by unfold fX12_deedBy; rw [if_neg n3, if_neg n4, if_neg n5, if_neg n6, if_pos (i7.mpr ⟨h1, w7⟩)]; rfl)
            · rw [if_neg w7] at hho
              have n7 : ¬ lg_cmp (mW hM b n q) 7301484 = 0 := fun w => w7 (i7.mp w).2
              refine line_no p9 i11 hho ?_
              rw [Line_1]
              exact show_no (by unfold fX12_deedBy; rw [if_neg n3, if_neg n4, if_neg n5, if_neg n6, if_neg n7])
  · refine line_no p9 i11 (headOf_no h8 h1 (tk_lt b n q)) ?_
    rw [Line_1]
    exact show_no (by unfold fX12_deedBy; rw [if_neg (fun w => h1 (i3.mp w).1), if_neg (fun w => h1 (i4.mp w).1), if_neg (fun w => h1 (i5.mp w).1), if_neg (fun w => h1 (i6.mp w).1), if_neg (fun w => h1 (i7.mp w).1)])
