/-! text(): class against reference -/
def tM (h : Hp) : Hp := wa (wa (wa (wr (wr h 10 0 0 0) 10 0 10 (ra (wr h 10 0 0 0) 44 0 0)) 44 0 0 0) 45 0 0 0) 46 0 0 (-1)
def stoM (s k : Nat) (h : Hp) : Option (Int32 × Hp) := if s = 0 then (bnd (fX12_store_48 18 (nI k) h) fun _ h17 => some (nI k, h17)) else if s = 1 then (bnd (fX12_store_49 81 (nI k) h) fun _ h18 => some (nI k, h18)) else (bnd (fX12_store_50 26 (nI k) h) fun _ h19 => some (nI k, h19))
theorem tM_u (h : Hp) {k i : Nat} (h1 : k ≠ 10) (h2 : ¬ ((k = 44 ∨ k = 45 ∨ k = 46) ∧ i = 0)) (s : Nat) : (tM h).1 k s i = h.1 k s i := by
  unfold tM
  have z : (0 : Int32).toNatClampNeg = 0 := rfl
  rw [wa_g, z, if_neg (by omega), wa_g, z, if_neg (by omega), wa_g, z, if_neg (by omega), wr_other h1, wr_other h1]
theorem textM_bad {a w : Int32} {h : Hp} (ha : a < 0 ∨ 3 ≤ a) : fX12_text a w h = some (-2, tM h) := by
  unfold fX12_text
  have : (if a < 0 ∨ (2 : Int32) < a then (0 : Int32) else 1) = 0 := by rw [if_pos]; rw [c2_iff]; exact ha
  rw [lt_eq, ck_p (show ib 0 4 = true from rfl), lt_eq, ck_p (show ib 0 4 = true from rfl), lt_eq, ck_p (show ib 0 4 = true from rfl), lt_eq, ck_p (show ib 0 4 = true from rfl), lt_eq, in_eq, bnd_eq, this, if_pos rfl]
  rfl
theorem textM_ref {s c : Nat} {w : Int32} {h : Hp} (hs : s < 3) (hc : c ≤ 2) (ec : h.1 47 0 s = nI c) (hw : (w = -1 ∧ c = 2) ∨ (¬ w = -1 ∧ (w < 0 ∨ nI c ≤ w))) : fX12_text (nI s) w h = some (-2, tM h) := by
  have hib : ib (nI s) 12 = true := ib_nI (by omega) (by decide)
  unfold fX12_text
  have : (if nI s < 0 ∨ (2 : Int32) < nI s then (0 : Int32) else 1) = 1 := by rw [if_neg]; rw [c2_iff]; exact in_no hs (by decide)
  have e47 : ra (tM h) 47 0 (nI s) = nI c := by rw [ra_n (by omega)]; exact (tM_u h (by decide) (by omega) 0).trans ec
  rw [lt_eq, ck_p (show ib 0 4 = true from rfl), lt_eq, ck_p (show ib 0 4 = true from rfl), lt_eq, ck_p (show ib 0 4 = true from rfl), lt_eq, ck_p (show ib 0 4 = true from rfl), lt_eq, in_eq, bnd_eq, this, if_neg (show ¬ (1 : Int32) = 0 by decide), jn_eq]
  show (if w = -1 then (ck (ib (nI s) 12) (if (ra (tM h) 47 0 (nI s)) = 2 then (some ((-2), (tM h))) else _)) else (bnd (fX12_is (nI s) w (tM h)) fun x21 h20 => if x21 = 0 then (some ((-2), h20)) else _)) = _
  rcases hw with ⟨h1, h2⟩ | ⟨h1, h2⟩
  · rw [if_pos h1, ck_p hib, e47, h2, if_pos (show nI 2 = 2 from rfl)]
  · rw [if_neg h1, is_eq _ _ _ hib, bnd_eq, e47, if_pos (show w < 0 ∨ nI c - 1 < w by rw [out_iff (by omega)]; exact h2), if_pos rfl]
theorem textM_acc {s c k z : Nat} {w r : Int32} {h h10 : Hp} (hs : s < 3) (hc : c ≤ 2) (ec : h.1 47 0 s = nI c) (hw : (w = -1 ∧ c < 2 ∧ k = c ∧ z = 1) ∨ (w = nI k ∧ k < c ∧ z = 0)) (e : fX12_readText (nI s) (tM h) = some (r, h10)) (e10 : h10.1 47 0 s = nI c) : fX12_text (nI s) w h = if r = 0 then some (-1, h10) else stoM s k (wa h10 47 0 (nI s) (nI (c + z))) := by
  have hib : ib (nI s) 12 = true := ib_nI (by omega) (by decide)
  unfold fX12_text
  have : (if nI s < 0 ∨ (2 : Int32) < nI s then (0 : Int32) else 1) = 1 := by rw [if_neg]; rw [c2_iff]; exact in_no hs (by decide)
  have e47 : ra (tM h) 47 0 (nI s) = nI c := by rw [ra_n (by omega)]; exact (tM_u h (by decide) (by omega) 0).trans ec
  have f47 : ra h10 47 0 (nI s) = nI c := by rw [ra_n (by omega)]; exact e10
  rw [lt_eq, ck_p (show ib 0 4 = true from rfl), lt_eq, ck_p (show ib 0 4 = true from rfl), lt_eq, ck_p (show ib 0 4 = true from rfl), lt_eq, ck_p (show ib 0 4 = true from rfl), lt_eq, in_eq, bnd_eq, this, if_neg (show ¬ (1 : Int32) = 0 by decide), jn_eq]
  have fin : ∀ v : Int32, v = nI z → (ck (ib (nI s) 12) (lt (wa h10 47 0 (nI s) ((ra h10 47 0 (nI s)) + v)) fun h16 =>
      if nI s = 0 then (bnd (fX12_store_48 18 (nI k) h16) fun _ h17 => some (nI k, h17))
      else (if nI s = 1 then (bnd (fX12_store_49 81 (nI k) h16) fun _ h18 => some (nI k, h18))
      else (bnd (fX12_store_50 26 (nI k) h16) fun _ h19 => some (nI k, h19))))) = stoM s k (wa h10 47 0 (nI s) (nI (c + z))) := by
    rintro v rfl
    rw [ck_p hib, lt_eq, f47, nI_add]
    unfold stoM
    rcases (show s = 0 ∨ s = 1 ∨ s = 2 by omega) with rfl | rfl | rfl
    · rw [if_pos (show nI 0 = 0 from rfl), if_pos rfl]
    · rw [if_neg (show ¬ nI 1 = 0 by decide), if_pos (show nI 1 = 1 from rfl), if_neg (by decide), if_pos rfl]
    · rw [if_neg (show ¬ nI 2 = 0 by decide), if_neg (show ¬ nI 2 = 1 by decide), if_neg (by decide), if_neg (by decide)]
  rcases hw with ⟨h1, h2, rfl, rfl⟩ | ⟨rfl, h2, rfl⟩
  · rw [if_pos h1, ck_p hib]
    show (if (ra (tM h) 47 0 (nI s)) = 2 then _ else _) = _
    rw [e47, if_neg (show ¬ nI k = 2 from fun q => by have := (eq_n (b := 2) (by omega) (by decide)).mp q; omega)]
    show bnd (fX12_readText (nI s) (tM h)) _ = _
    rw [e, bnd_eq]
    by_cases hr : r = 0
    · rw [if_pos hr, if_pos hr]
    · rw [if_neg hr, if_neg hr, jn_eq, if_pos h1, ck_p hib]
      dsimp only
      rw [ck_p hib, jn_eq, if_pos h1]
      dsimp only
      rw [f47]
      rw [f47] at fin
      exact fin 1 rfl
  · have hk : ¬ nI k = -1 := fun q => neg_ne (show k < 2 ^ 31 by omega) q.symm
    rw [if_neg hk]
    show bnd (fX12_is (nI s) (nI k) (tM h)) _ = _
    rw [is_eq _ _ _ hib, bnd_eq, e47, if_neg (show ¬ (nI k < 0 ∨ nI c - 1 < nI k) by rw [out_iff (by omega)]; exact in_no h2 (by omega)), if_neg (by decide)]
    dsimp only
    rw [e, bnd_eq]
    by_cases hr : r = 0
    · rw [if_pos hr, if_pos hr]
    · rw [if_neg hr, if_neg hr, jn_eq, if_neg hk]
      dsimp only
      rw [ck_p hib, jn_eq, if_neg hk]
      exact fin 0 rfl
theorem numberFor_bad {a w : Int32} {h : Hp} (ha : a < 0 ∨ 3 ≤ a) : fX11_numberFor a w h = some (-2, h) := by
  unfold fX11_numberFor
  rw [has9_eq, bnd_eq, if_pos ha, if_pos rfl]
theorem numberFor_ref {s c : Nat} {w : Int32} {h : Hp} (hs : s < 3) (hc : c ≤ 2) (ec : h.1 37 0 s = nI c) (hw : (w = -1 ∧ c = 2) ∨ (¬ w = -1 ∧ (w < 0 ∨ nI c ≤ w))) : fX11_numberFor (nI s) w h = some (-2, h) := by
  unfold fX11_numberFor
  have e37 : ra h 37 0 (nI s) = nI c := by rw [ra_n (by omega)]; exact ec
  rw [has9_eq, bnd_eq, if_neg (show ¬ (nI s < 0 ∨ (3 : Int32) ≤ nI s) from in_no hs (by decide)), if_neg (show ¬ (1 : Int32) = 0 by decide), ck_p (ib_nI hs (by decide)), lt_eq, e37, jn_eq]
  rcases hw with ⟨h1, h2⟩ | ⟨h1, h2⟩
  · rw [if_pos h1, h2, if_pos (by decide)]
  · rw [if_neg h1]
    by_cases h3 : w < 0
    · rw [if_pos h3]
    · rw [if_neg h3, if_pos (h2.resolve_left h3)]
theorem numberFor_acc {s c k z : Nat} {w : Int32} {h : Hp} (hs : s < 3) (hc : c ≤ 2) (ec : h.1 37 0 s = nI c) (hw : (w = -1 ∧ c < 2 ∧ k = c ∧ z = 1) ∨ (w = nI k ∧ k < c ∧ z = 0)) : fX11_numberFor (nI s) w h = some (nI k, h) := by
  unfold fX11_numberFor
  have e37 : ra h 37 0 (nI s) = nI c := by rw [ra_n (by omega)]; exact ec
  rw [has9_eq, bnd_eq, if_neg (show ¬ (nI s < 0 ∨ (3 : Int32) ≤ nI s) from in_no hs (by decide)), if_neg (show ¬ (1 : Int32) = 0 by decide), ck_p (ib_nI hs (by decide)), lt_eq, e37, jn_eq]
  rcases hw with ⟨h1, h2, rfl, rfl⟩ | ⟨rfl, h2, rfl⟩
  · rw [if_pos h1, if_neg (show ¬ (2 : Int32) ≤ nI k from fun q => nI_ge h2 (by decide) q)]
  · have hno := in_no h2 (show c < 2 ^ 31 by omega)
    rw [if_neg (fun q => neg_ne (show k < 2 ^ 31 by omega) q.symm), if_neg (fun q => hno (Or.inl q)), if_neg (fun q => hno (Or.inr q))]
theorem sto_all {s k : Nat} {hC hMr hM1 hC' : Hp} (hs : s < 3) (hk : k < 2) (co : CoN s 0 hC hMr) (e51 : ∀ i, hM1.1 51 0 i = hMr.1 51 0 i)
    (cc : ∀ kk q i, ¬ (kk = 37 ∧ q = 0) → hC'.1 kk q i = if q = k ∧ (if s = 0 then ((kk = 6 ∧ i < 3) ∨ ((kk = 33 ∨ kk = 34 ∨ kk = 35) ∧ i < 5)) else if s = 1 then ((kk = 5 ∧ i < 1) ∨ ((kk = 31 ∨ kk = 32) ∧ i < 40)) else ((kk = 1 ∧ i < 2) ∨ ((kk = 21 ∨ kk = 22 ∨ kk = 23) ∧ i < 8))) then hC.1 kk 8 i else hC.1 kk q i) :
    ∃ hM', stoM s k hM1 = some (nI k, hM') ∧ (∀ k' q i, ¬ (k' = 48 + s ∧ wdh s * k ≤ i ∧ i < wdh s * k + wdh s) → hM'.1 k' q i = hM1.1 k' q i) ∧ (s = 0 → k < 2 → StRel hC' hM' k) ∧ (s = 1 → k < 2 → ShRel hC' hM' k) ∧ (s = 2 → k < 2 → LgRel hC' hM' k) := by
  rcases (show s = 0 ∨ s = 1 ∨ s = 2 by omega) with rfl | rfl | rfl
  · obtain ⟨u, hM', e, e1, e2⟩ := sto_48 (b := k) (h := hM1) (by omega)
    refine ⟨hM', ?_, e2, fun _ _ => new_0 co (fun kk q i hh => (cc kk q i hh).trans (by simp)) (fun i hi => (e1 i hi).trans (e51 i)), fun w => absurd w (by decide), fun w => absurd w (by decide)⟩
    unfold stoM
    rw [if_pos rfl, e, bnd_eq]
  · obtain ⟨u, hM', e, e1, e2⟩ := sto_49 (b := k) (h := hM1) (by omega)
    refine ⟨hM', ?_, e2, fun w => absurd w (by decide), fun _ _ => new_1 co (fun kk q i hh => (cc kk q i hh).trans (by simp)) (fun i hi => (e1 i hi).trans (e51 i)), fun w => absurd w (by decide)⟩
    unfold stoM
    rw [if_neg (by decide), if_pos rfl, e, bnd_eq]
  · obtain ⟨u, hM', e, e1, e2⟩ := sto_50 (b := k) (h := hM1) (by omega)
    refine ⟨hM', ?_, e2, fun w => absurd w (by decide), fun w => absurd w (by decide), fun _ _ => new_2 co (fun kk q i hh => (cc kk q i hh).trans (by simp)) (fun i hi => (e1 i hi).trans (e51 i))⟩
    unfold stoM
    rw [if_neg (by decide), if_neg (by decide), e, bnd_eq]
theorem take_all {s k c : Nat} {h : Hp} (hs : s < 3) (hk : k < 2) (hc : c ≤ 2) (ec : h.1 37 0 s = nI c) : ∃ h', fX11_takeRead (nI s) (nI k) h = some ((), h') ∧ h'.1 37 0 s = nI (if k = c then c + 1 else c) ∧ (∀ i, i ≠ s → h'.1 37 0 i = h.1 37 0 i) ∧
    ∀ kk q i, ¬ (kk = 37 ∧ q = 0) → h'.1 kk q i = if q = k ∧ (if s = 0 then ((kk = 6 ∧ i < 3) ∨ ((kk = 33 ∨ kk = 34 ∨ kk = 35) ∧ i < 5)) else if s = 1 then ((kk = 5 ∧ i < 1) ∨ ((kk = 31 ∨ kk = 32) ∧ i < 40)) else ((kk = 1 ∧ i < 2) ∨ ((kk = 21 ∨ kk = 22 ∨ kk = 23) ∧ i < 8))) then h.1 kk 8 i else h.1 kk q i := by
  rcases (show s = 0 ∨ s = 1 ∨ s = 2 by omega) with rfl | rfl | rfl
  · obtain ⟨h', e, a1, a2, a3⟩ := take_0 (h := h) hk hc ec
    exact ⟨h', e, a1, a2, fun kk q i hh => (a3 kk q i hh).trans (by simp)⟩
  · obtain ⟨h', e, a1, a2, a3⟩ := take_1 (h := h) hk hc ec
    exact ⟨h', e, a1, a2, fun kk q i hh => (a3 kk q i hh).trans (by simp)⟩
  · obtain ⟨h', e, a1, a2, a3⟩ := take_2 (h := h) hk hc ec
    exact ⟨h', e, a1, a2, fun kk q i hh => (a3 kk q i hh).trans (by simp)⟩
theorem cnts {hC hM : Hp} (R : TRel hC hM 0) : ∃ cf : Nat → Nat, ∀ j, j < 3 → cf j ≤ 2 ∧ hC.1 37 0 j = nI (cf j) ∧ hM.1 47 0 j = nI (cf j) := by
  obtain ⟨-, -, -, -, c0, c1, c2, ⟨v0, v1, v2⟩, ⟨e0, e1, e2⟩, ⟨m0, m1, m2⟩, -⟩ := R
  refine ⟨fun j => if j = 0 then c0 else if j = 1 then c1 else c2, fun j hj => ?_⟩
  rcases (show j = 0 ∨ j = 1 ∨ j = 2 by omega) with rfl | rfl | rfl
  · exact ⟨v0, e0, m0⟩
  · exact ⟨v1, e1, m1⟩
  · exact ⟨v2, e2, m2⟩
theorem rel_ref {KI : Hp → Prop} (hKI : KStab KI) {hC hM : Hp} (R : Rel KI hC hM) : Rel KI (wr (wr (wr hC 7 0 1 0) 7 0 2 0) 7 0 3 (-1)) (tM hM) := by
  obtain ⟨cf, hcf⟩ := cnts R.1
  refine rel_text hKI (s := 0) (num := 9) (by decide) (Or.inr rfl) R cf (fun k q i a1 a2 a3 a4 a5 a6 => ?_) (fun k i a1 a2 a3 a4 a5 a6 => tM_u hM a1 a4 0) (R.2.2.2.same ⟨fun i => tM_u hM (by decide) (by omega) 0, fun i => tM_u hM (by decide) (by omega) 0, rfl⟩) rfl rfl rfl rfl (fun j hj => ⟨(hcf j hj).1, (hcf j hj).2.1, (tM_u hM (by decide) (by omega) 0).trans (hcf j hj).2.2⟩) (fun j k hj hk => Or.inl ⟨cf j, (hcf j hj).1, (hcf j hj).2.1, hk, fun w => ?_⟩) ⟨fun _ w => absurd w (by decide), fun w => absurd w (by decide), fun w => absurd w (by decide)⟩
  · have z : 0 % cnt 7 = 0 := rfl
    rw [wr_g, z, if_neg (by omega), wr_g, z, if_neg (by omega), wr_g, z, if_neg (by omega)]
  · have := (hcf j hj).1; omega
theorem st_text {KI : Hp → Prop} (hKI : KStab KI) : Stp_text (Rel KI) := by
  intro a w hC hM R
  obtain ⟨cf, hcf⟩ := cnts R.1
  rcases int_cases a 3 (by decide) with ha | ⟨s, hs, rfl⟩
  · refine ⟨-2, _, _, ?_, textM_bad ha, rel_ref hKI R⟩
    unfold fX11_text
    rw [numberFor_bad ha, bnd_eq, if_pos rfl]
    rfl
  · obtain ⟨hc, eC, eM⟩ := hcf s hs
    have cases : ((w = -1 ∧ cf s = 2) ∨ (¬ w = -1 ∧ (w < 0 ∨ nI (cf s) ≤ w))) ∨ ∃ k z, (w = -1 ∧ cf s < 2 ∧ k = cf s ∧ z = 1) ∨ (w = nI k ∧ k < cf s ∧ z = 0) := by
      by_cases h1 : w = -1
      · by_cases h2 : cf s = 2
        · exact Or.inl (Or.inl ⟨h1, h2⟩)
        · exact Or.inr ⟨cf s, 1, Or.inl ⟨h1, by omega, rfl, rfl⟩⟩
      · rcases int_cases w (cf s) (by omega) with h2 | ⟨k, hk, h2⟩
        · exact Or.inl (Or.inr ⟨h1, h2⟩)
        · exact Or.inr ⟨k, 0, Or.inr ⟨h2, hk, rfl⟩⟩
    rcases cases with hno | ⟨k, z, hacc⟩
    · refine ⟨-2, _, _, ?_, textM_ref hs hc eM hno, rel_ref hKI R⟩
      unfold fX11_text
      rw [numberFor_ref hs hc eC hno, bnd_eq, if_pos rfl]
      rfl
    · have hk2 : k < 2 := by omega
      obtain ⟨tb, ⟨n, hn, en1, en2⟩, -⟩ := R.1
      have hb : ∀ j, j < 600 → hC.1 36 0 j = (tM hM).1 43 0 j := fun j hj => by
        rw [tM_u hM (by decide) (by omega) 0]
        have := (tb j hj).1
        rwa [Nat.mul_zero, Nat.zero_add] at this
      obtain ⟨r, hC1, hM1, vf, vp, e1, e2, b1, b2, b3, b4, b5, hres⟩ := read_both hs hn hb en1 (show (tM hM).1 10 0 10 = nI n from en2)
      have frC := frX5_readTape 0 (nI s) hC _ _ e1
      have frM := frX12_readText (nI s) (tM hM) _ _ e2
      have uC1 : ∀ k q i, k ≠ 3 → k ≠ 26 → ¬ (q = 8 ∧ (k = 6 ∨ k = 33 ∨ k = 34 ∨ k = 35 ∨ k = 5 ∨ k = 31 ∨ k = 32 ∨ k = 1 ∨ k = 21 ∨ k = 22 ∨ k = 23)) → hC1.1 k q i = hC.1 k q i := by
        intro k q i a1 a2 a3
        refine frC k q i (fun f hf hcov => ?_)
        obtain ⟨d1, d2, d3⟩ := hcov
        simp [wX5_readTape] at hf
        rcases hf with rfl | rfl | rfl | rfl | rfl | rfl | rfl | rfl | rfl | rfl | rfl | rfl | rfl | rfl | rfl | rfl | rfl | rfl | rfl | rfl | rfl | rfl <;> simp at d1 d2 <;> omega
      have uM1 : ∀ k i, k ≠ 10 → k ≠ 51 → k ≠ 52 → ¬ ((k = 44 ∨ k = 45 ∨ k = 46) ∧ i = 0) → hM1.1 k 0 i = hM.1 k 0 i := by
        intro k i a1 a2 a3 a4
        by_cases h45 : k = 45 ∨ k = 46
        · rw [b5 k i h45 (by omega), tM_u hM a1 a4 0]
        · rw [frM k 0 i (fun f hf hcov => ?_), tM_u hM a1 a4 0]
          obtain ⟨d1, d2, d3⟩ := hcov
          simp [wX12_readText] at hf
          rcases hf with rfl | rfl | rfl | rfl | rfl | rfl | rfl | rfl | rfl | rfl | rfl | rfl <;> simp at d1 d2 <;> omega
      have hI : MInv hM1 := R.2.2.2.same ⟨fun i => uM1 58 i (by decide) (by decide) (by decide) (by omega), fun i => uM1 59 i (by decide) (by decide) (by decide) (by omega), frM.at 10 0 46 rfl⟩
      have hC3 : ∀ kk q i, ¬ (kk = 7 ∧ q = 0) → (wr (wr (wr hC1 7 0 1 0) 7 0 2 vf) 7 0 3 vp).1 kk q i = hC1.1 kk q i := by
        intro kk q i hh
        have z : 0 % cnt 7 = 0 := rfl
        rw [wr_g, z, if_neg (by omega), wr_g, z, if_neg (by omega), wr_g, z, if_neg (by omega)]
      have uT : fX11_text (nI s) w hC = if vf = 0 then (bnd (fX11_takeRead (nI s) (nI k) (wr (wr (wr hC1 7 0 1 0) 7 0 2 vf) 7 0 3 vp)) fun _ h10 => some (nI k, h10)) else some (-1, wr (wr (wr hC1 7 0 1 0) 7 0 2 vf) 7 0 3 vp) := by
        unfold fX11_text
        rw [numberFor_acc hs hc eC hacc, bnd_eq, if_neg (show ¬ nI k = -2 from fun q => by
          have : k = 0 ∨ k = 1 := by omega
          rcases this with rfl | rfl <;> exact absurd q (by decide)), e1, bnd_eq, lt_eq, lt_eq, lt_eq]
        have r3 : rd (wr hC1 7 0 1 0) 3 0 3 = vf := b1
        have r4 : rd (wr (wr hC1 7 0 1 0) 7 0 2 vf) 3 0 4 = vp := b2
        rw [r3, r4]
        have r5 : rd (wr (wr (wr hC1 7 0 1 0) 7 0 2 vf) 7 0 3 vp) 3 0 3 = vf := b1
        rw [r5]
      have c37 : ∀ j, j < 3 → hC1.1 37 0 j = nI (cf j) := fun j hj => (uC1 37 0 j (by decide) (by decide) (by decide)).trans (hcf j hj).2.1
      have c47 : ∀ j, j < 3 → hM1.1 47 0 j = nI (cf j) := fun j hj => (uM1 47 j (by decide) (by decide) (by decide) (by omega)).trans (hcf j hj).2.2
      have e44 : hM1.1 44 0 0 = 0 := (frM.at 44 0 0 rfl).trans rfl
      have uM := textM_acc hs hc eM hacc e2 (c47 s hs)
      rcases hres with ⟨rfl, rfl, co⟩ | ⟨rfl, hvf⟩
      · rw [if_pos rfl] at uT
        rw [if_neg (by decide)] at uM
        obtain ⟨hC', eT, t1, t2, t3⟩ := take_all (h := wr (wr (wr hC1 7 0 1 0) 7 0 2 0) 7 0 3 vp) hs hk2 hc ((hC3 37 0 s (by decide)).trans (c37 s hs))
        have t3' : ∀ kk q i, ¬ (kk = 37 ∧ q = 0) → ¬ (kk = 7 ∧ q = 0) → hC'.1 kk q i = if q = k ∧ (if s = 0 then ((kk = 6 ∧ i < 3) ∨ ((kk = 33 ∨ kk = 34 ∨ kk = 35) ∧ i < 5)) else if s = 1 then ((kk = 5 ∧ i < 1) ∨ ((kk = 31 ∨ kk = 32) ∧ i < 40)) else ((kk = 1 ∧ i < 2) ∨ ((kk = 21 ∨ kk = 22 ∨ kk = 23) ∧ i < 8))) then hC1.1 kk 8 i else hC1.1 kk q i := by
          intro kk q i h1 h2
          rw [t3 kk q i h1, hC3 kk 8 i (by omega), hC3 kk q i h2]
        have co3 : CoN s 0 (wr (wr (wr hC1 7 0 1 0) 7 0 2 0) 7 0 3 vp) hM1 := by
          rcases (show s = 0 ∨ s = 1 ∨ s = 2 by omega) with rfl | rfl | rfl
          · obtain ⟨d1, d2, h1, h2, h3, h4, h5⟩ := co
            exact ⟨d1, d2, h1, h2, h3, h4, h5⟩
          · obtain ⟨d1, d2, h1, h2, h3, h4, h5⟩ := co
            exact ⟨d1, d2, h1, h2, h3, h4, h5⟩
          · obtain ⟨d1, d2, h1, h2, h3, h4, h5⟩ := co
            exact ⟨d1, d2, h1, h2, h3, h4, h5⟩
        obtain ⟨hM', eS, s1, s2⟩ := sto_all (hM1 := wa hM1 47 0 (nI s) (nI (cf s + z))) hs hk2 co3 (fun i => by rw [wa_g, if_neg (by omega)]) t3
        have w47 : ∀ kk i, ¬ (kk = 47 ∧ i = s) → (wa hM1 47 0 (nI s) (nI (cf s + z))).1 kk 0 i = hM1.1 kk 0 i := fun kk i h => by rw [wa_g, nI_clamp (by omega), if_neg (by omega)]
        have nk : ∀ kk q, (kk = 7 ∨ kk = 36 ∨ kk = 37 ∨ kk = 42) → ∀ i, ¬ (q = k ∧ (if s = 0 then ((kk = 6 ∧ i < 3) ∨ ((kk = 33 ∨ kk = 34 ∨ kk = 35) ∧ i < 5)) else if s = 1 then ((kk = 5 ∧ i < 1) ∨ ((kk = 31 ∨ kk = 32) ∧ i < 40)) else ((kk = 1 ∧ i < 2) ∨ ((kk = 21 ∨ kk = 22 ∨ kk = 23) ∧ i < 8)))) := by
          rintro kk q h1 i ⟨-, h2⟩
          split at h2
          · omega
          · split at h2 <;> omega
        have s7 : ∀ i, hC'.1 7 0 i = (wr (wr (wr hC1 7 0 1 0) 7 0 2 0) 7 0 3 vp).1 7 0 i := fun i => by rw [t3 7 0 i (by decide), if_neg (nk 7 0 (by omega) i)]
        have sM : ∀ kk i, kk ≠ 48 + s → ¬ (kk = 47 ∧ i = s) → hM'.1 kk 0 i = hM1.1 kk 0 i := fun kk i h1 h2 => (s1 kk 0 i (by omega)).trans (w47 kk i h2)
        refine ⟨nI k, hC', hM', by rw [uT, eT]; rfl, uM.trans eS, rel_text hKI hs (Or.inl hk2) R (fun j => if j = s then (if k = cf s then cf s + 1 else cf s) else cf j) (fun kk q i a1 a2 a3 a4 a5 a6 => ?_) (fun kk i a1 a2 a3 a4 a5 a6 => ?_) (hI.same ⟨fun i => sM 58 i (by omega) (by omega), fun i => sM 59 i (by omega) (by omega), sM 10 46 (by omega) (by omega)⟩) (s7 1) ((sM 44 0 (by omega) (by omega)).trans e44) ?_ ?_ (fun j hj => ?_) (fun j kk hj hkk => ?_) s2⟩
        · rw [t3' kk q i a4 a3, if_neg, uC1 kk q i a1 a2 a5]
          rintro ⟨h1, h2⟩
          refine a6 ⟨h1, ?_⟩
          unfold kin
          split at h2
          · rename_i h0; rw [if_pos h0]; simp; omega
          · rename_i h0
            rw [if_neg h0]
            split at h2
            · rename_i h3; rw [if_pos h3]; simp; omega
            · rename_i h3; rw [if_neg h3]; simp; omega
        · rw [s1 kk 0 i a6, w47 kk i (by omega), uM1 kk i a1 a2 a3 a4]
        · rw [s7, sM 45 0 (by omega) (by omega), b3]; rfl
        · rw [s7, sM 46 0 (by omega) (by omega), b4]; rfl
        · have hj2 := (hcf j hj).1
          by_cases hjs : j = s
          · subst hjs
            refine ⟨?_, ?_, ?_⟩
            · simp only [if_true]; split <;> omega
            · simp only [if_true]; exact t1
            · simp only [if_true]
              rw [s1 47 0 j (by omega), wa_g, nI_clamp (by omega), if_pos ⟨rfl, rfl, rfl⟩]
              have : cf j + z = if k = cf j then cf j + 1 else cf j := by split <;> omega
              rw [this]
          · simp only [if_neg hjs]
            exact ⟨hj2, (t2 j hjs).trans ((hC3 37 0 j (by decide)).trans (c37 j hj)), (sM 47 j (by omega) (by omega)).trans (c47 j hj)⟩
        · by_cases hjs : j = s
          · subst hjs
            simp only [if_true] at hkk
            by_cases hkk2 : kk = k
            · exact Or.inr ⟨rfl, hkk2⟩
            · refine Or.inl ⟨cf j, hc, eC, ?_, fun w => hkk2 w.2⟩
              split at hkk <;> omega
          · simp only [if_neg hjs] at hkk
            exact Or.inl ⟨cf j, (hcf j hj).1, (hcf j hj).2.1, hkk, fun w => hjs w.1⟩
      · rw [if_neg hvf] at uT
        rw [if_pos rfl] at uM
        refine ⟨-1, _, _, uT, uM, rel_text hKI hs (Or.inr rfl) R cf (fun kk q i a1 a2 a3 a4 a5 a6 => ?_) (fun kk i a1 a2 a3 a4 a5 a6 => uM1 kk i a1 a2 a3 a4) hI rfl e44 b3.symm b4.symm (fun j hj => ⟨(hcf j hj).1, (hC3 37 0 j (by decide)).trans (c37 j hj), c47 j hj⟩) (fun j kk hj hkk => Or.inl ⟨cf j, (hcf j hj).1, (hcf j hj).2.1, hkk, fun w => ?_⟩) ⟨fun _ w => absurd w (by decide), fun _ w => absurd w (by decide), fun _ w => absurd w (by decide)⟩⟩
        · rw [hC3 kk q i a3, uC1 kk q i a1 a2 a5]
        · have := (hcf j hj).1; omega
