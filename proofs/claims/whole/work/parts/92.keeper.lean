/-! the keeper's list of stands -/
def KT (h : Hp) (n : Nat) (G : KG) (f : Nat) (s : Nat → Nat) : Prop := h.1 0 0 2 = nI f ∧ (∀ i, i < f → Rc G (s i) ∧ h.1 12 0 i = nI (s i / 7776) ∧ h.1 13 0 i = nI (pkN (lpC n (s i))) ∧ h.1 11 0 (keyN (s i)) = nI (i + 1)) ∧ ∀ k, k < 46656 → (∀ i, i < f → keyN (s i) ≠ k) → h.1 11 0 k = 0
theorem KT.inj {h : Hp} {n : Nat} {G : KG} {f : Nat} {s : Nat → Nat} (t : KT h n G f s) (hf : f < 2 ^ 31) : ∀ i j, i < f → j < f → s i = s j → i = j := by
  intro i j hi hj e
  have a := (t.2.1 i hi).2.2.2
  have b := (t.2.1 j hj).2.2.2
  rw [e, b] at a
  have := (eq_n (by omega) (by omega)).mp a
  omega
theorem KT.len {h : Hp} {n : Nat} {G : KG} {f : Nat} {s : Nat → Nat} (hG : VG G) (t : KT h n G f s) (hf : f < 2 ^ 31) : f ≤ 2191 := stands_le hG (fun i hi => (t.2.1 i hi).1) (t.inj hf)
/-- what numbering a stand leaves as it was -/
def KN (h h' : Hp) (f : Nat) : Prop := ∀ k s i, k ≠ 11 → k ≠ 12 → k ≠ 13 → ¬ (k = 0 ∧ i = 2) → ¬ (k = 14 ∧ i = f) → h'.1 k s i = h.1 k s i
theorem numberFor_wp {h : Hp} {n sp st f c : Nat} {pl li le s : Nat → Nat} (hv : SV sp st n pl li le) (t : KT h n (GC n sp st pl li le) f s) (hf : f ≤ 2191) (hc : Rc (GC n sp st pl li le) c) : ∃ h' f' s' j, fX2_numberFor (nI (c / 7776)) (nI (pkN (lpC n c))) h = some (nI j, h') ∧ KT h' n (GC n sp st pl li le) f' s' ∧ f ≤ f' ∧ f' ≤ 2191 ∧ (∀ i, i < f → s' i = s i) ∧ j < f' ∧ s' j = c ∧ KN h h' f ∧ ((f' = f ∧ h' = h) ∨ (f' = f + 1 ∧ j = f ∧ h'.1 14 0 f = 0)) := by
  have hG := GC_VG hv
  have hvn := hc.vn hG
  have hkl := keyN_lt hvn
  obtain ⟨t1, t2, t3⟩ := id t
  have hib : ib (nI (keyN c)) 46656 = true := ib_nI hkl (by decide)
  unfold fX2_numberFor
  rw [keyC_eq hv hc, bnd_eq, ck_p hib, jn_eq, ra_n (by omega), show 0 % cnt 11 = 0 from rfl]
  by_cases g : ∃ j, j < f ∧ s j = c
  · obtain ⟨j, hj, e⟩ := g
    have e11 : h.1 11 0 (keyN c) = nI (j + 1) := by rw [← e]; exact (t2 j hj).2.2.2
    rw [e11, if_neg (fun q => by have := (eq0_n (by omega)).mp q; omega)]
    dsimp only
    rw [ck_p hib, ra_n (by omega), show h.1 11 (0 % cnt 11) (keyN c) = nI (j + 1) from e11, show nI (j + 1) - (1 : Int32) = nI j from nI_sub (b := 1) (by omega)]
    exact ⟨h, f, s, j, rfl, t, Nat.le_refl _, hf, fun _ _ => rfl, hj, e, fun _ _ _ _ _ _ _ _ => rfl, Or.inl ⟨rfl, rfl⟩⟩
  · have hn : ∀ i, i < f → s i ≠ c := fun i hi w => g ⟨i, hi, w⟩
    have hkn : ∀ i, i < f → keyN (s i) ≠ keyN c := fun i hi w => hn i hi (keyN_inj w)
    have e11 : h.1 11 0 (keyN c) = 0 := t3 _ hkl hkn
    have r2 : rd h 0 0 2 = nI f := t1
    have hinj := t.inj (by omega)
    have hf1 : f + 1 ≤ 2191 := stands_le hG (s := fun i => if i = f then c else s i) (fun i hi => by
      show Rc _ (if i = f then c else s i)
      by_cases q : i = f
      · rw [if_pos q]; exact hc
      · rw [if_neg q]; exact (t2 i (by omega)).1) (fun i j hi hj e => by
      have e' : (if i = f then c else s i) = (if j = f then c else s j) := e
      by_cases q : i = f
      · by_cases q2 : j = f
        · omega
        · rw [if_pos q, if_neg q2] at e'
          exact absurd e'.symm (hn j (by omega))
      · by_cases q2 : j = f
        · rw [if_neg q, if_pos q2] at e'
          exact absurd e' (hn i (by omega))
        · rw [if_neg q, if_neg q2] at e'
          exact hinj i j (by omega) (by omega) e')
    have hr5 : c / 7776 ≤ 5 := by have := hvn.2; omega
    have hpk := pkN_lt (lpC_D7 n c)
    rw [if_pos e11, r2, if_neg (show ¬ (2200 : Int32) ≤ nI f from fun q => nI_ge (show f < 2200 by omega) (by decide) q), ck_p (ib_nI (by omega) (by decide)), nar_b (by omega)]
    rw [lt_eq, show rd (wa h 12 0 (nI f) (nI (c / 7776))) 0 0 2 = nI f from t1, ck_p (ib_nI (by omega) (by decide)), nar_s (by omega), lt_eq]
    rw [show rd (wa (wa h 12 0 (nI f) (nI (c / 7776))) 13 0 (nI f) (nI (pkN (lpC n c)))) 0 0 2 = nI f from t1, ck_p (ib_nI (by omega) (by decide)), lt_eq]
    rw [show rd (wa (wa (wa h 12 0 (nI f) (nI (c / 7776))) 13 0 (nI f) (nI (pkN (lpC n c)))) 14 0 (nI f) (vp_nar .byte 0)) 0 0 2 = nI f from t1, nI_1, lt_eq, ck_p hib]
    rw [show rd (wr (wa (wa (wa h 12 0 (nI f) (nI (c / 7776))) 13 0 (nI f) (nI (pkN (lpC n c)))) 14 0 (nI f) (vp_nar .byte 0)) 0 0 2 (nI (f + 1))) 0 0 2 = nI (f + 1) from rfl, nar_s (by omega), lt_eq]
    dsimp only
    generalize hH : wa (wr (wa (wa (wa h 12 0 (nI f) (nI (c / 7776))) 13 0 (nI f) (nI (pkN (lpC n c)))) 14 0 (nI f) (vp_nar .byte 0)) 0 0 2 (nI (f + 1))) 11 0 (nI (keyN c)) (nI (f + 1)) = H
    have v11 : ∀ k, H.1 11 0 k = if k = keyN c then nI (f + 1) else h.1 11 0 k := fun k => by
      rw [← hH, wa_g, nI_clamp (by omega), show 0 % cnt 11 = 0 from rfl]
      by_cases q : k = keyN c
      · rw [if_pos ⟨rfl, rfl, q⟩, if_pos q]
      · rw [if_neg (fun w => q w.2.2), if_neg q, wr_other (by decide), wa_g, if_neg (by omega), wa_g, if_neg (by omega), wa_g, if_neg (by omega)]
    have v12 : ∀ i, H.1 12 0 i = if i = f then nI (c / 7776) else h.1 12 0 i := fun i => by
      rw [← hH, wa_g, if_neg (by omega), wr_other (by decide), wa_g, if_neg (by omega), wa_g, if_neg (by omega), wa_g, nI_clamp (by omega), show 0 % cnt 12 = 0 from rfl]
      by_cases q : i = f
      · rw [if_pos ⟨rfl, rfl, q⟩, if_pos q]
      · rw [if_neg (fun w => q w.2.2), if_neg q]
    have v13 : ∀ i, H.1 13 0 i = if i = f then nI (pkN (lpC n c)) else h.1 13 0 i := fun i => by
      rw [← hH, wa_g, if_neg (by omega), wr_other (by decide), wa_g, if_neg (by omega), wa_g, nI_clamp (by omega), show 0 % cnt 13 = 0 from rfl]
      by_cases q : i = f
      · rw [if_pos ⟨rfl, rfl, q⟩, if_pos q]
      · rw [if_neg (fun w => q w.2.2), if_neg q, wa_g, if_neg (by omega)]
    have v14 : H.1 14 0 f = 0 := by
      rw [← hH, wa_g, if_neg (by omega), wr_other (by decide), wa_g, nI_clamp (by omega), if_pos ⟨rfl, rfl, rfl⟩]; rfl
    have vo : KN h H f := fun k s' i u1 u2 u3 u4 u5 => by
      rw [← hH, wa_g, if_neg (by omega), wr_g, if_neg (by omega), wa_g, nI_clamp (by omega), if_neg (by omega), wa_g, if_neg (by omega), wa_g, if_neg (by omega)]
    rw [ck_p hib, ra_n (by omega), show H.1 11 (0 % cnt 11) (keyN c) = nI (f + 1) by rw [show 0 % cnt 11 = 0 from rfl, v11, if_pos rfl], show nI (f + 1) - (1 : Int32) = nI f from nI_sub (b := 1) (by omega)]
    refine ⟨H, f + 1, fun i => if i = f then c else s i, f, rfl, ⟨by rw [← hH]; rfl, fun i hi => ?_, fun k hk hno => ?_⟩, by omega, hf1, fun i hi => by show (if i = f then c else s i) = s i; rw [if_neg (by omega)], by omega, by show (if f = f then c else s f) = c; rw [if_pos rfl], vo, Or.inr ⟨rfl, rfl, v14⟩⟩
    · show Rc _ (if i = f then c else s i) ∧ H.1 12 0 i = nI ((if i = f then c else s i) / 7776) ∧ H.1 13 0 i = nI (pkN (lpC n (if i = f then c else s i))) ∧ H.1 11 0 (keyN (if i = f then c else s i)) = nI (i + 1)
      by_cases q : i = f
      · rw [if_pos q, v12, v13, if_pos q, if_pos q, v11, if_pos rfl, q]
        exact ⟨hc, rfl, rfl, rfl⟩
      · have hi' : i < f := by omega
        rw [if_neg q, v12, v13, if_neg q, if_neg q, v11, if_neg (hkn i hi')]
        exact t2 i hi'
    · have h1 : keyN c ≠ k := fun w => by
        have := hno f (by omega)
        dsimp only at this
        rw [if_pos rfl] at this
        exact this w
      rw [v11, if_neg (fun w => h1 w.symm)]
      exact t3 k hk (fun i hi => by
        have := hno i (by omega)
        dsimp only at this
        rwa [if_neg (by omega)] at this)
