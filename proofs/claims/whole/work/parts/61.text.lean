theorem take_0 {h : Hp} {c j : Nat} (hj : j < 2) (hc : c ≤ 2) (ec : h.1 37 0 0 = nI c) : ∃ h', fX11_takeRead (nI 0) (nI j) h = some ((), h') ∧ h'.1 37 0 0 = nI (if j = c then c + 1 else c) ∧ (∀ i, i ≠ 0 → h'.1 37 0 i = h.1 37 0 i) ∧
    (∀ k q i, ¬ (k = 37 ∧ q = 0) → h'.1 k q i = if q = j ∧ ((k = 6 ∧ i < 3) ∨ ((k = 33 ∨ k = 34 ∨ k = 35) ∧ i < 5)) then h.1 k 8 i else h.1 k q i) := by
  unfold fX11_takeRead
  have hlt : nI j < 2 := nI_lt hj (by decide)
  have hx : 2 * (0 % cnt 38) + 1 * (nI j).toNatClampNeg + 0 = j := by rw [nI_clamp (by omega)]; show 2 * 0 + 1 * j + 0 = j; omega
  have hra : ra h 37 0 (nI 0) = nI c := ec
  rw [has9_eq, bnd_eq, if_neg (show ¬ (nI 0 < 0 ∨ (3 : Int32) ≤ nI 0) by decide), if_neg (show ¬ (1 : Int32) = 0 by decide), if_neg (show ¬ nI j < 0 from fun q => in_no hj (by decide) (Or.inl q)), if_pos hlt, ck_p (show ib (nI 0) 3 = true from rfl), jn_eq, hx, hra]
  have hib : ib (nI j) 2 = true := ib_nI hj (by decide)
  have e1 : (nI j = nI c) ↔ j = c := eq_n (by omega) (by omega)
  by_cases hjc : j = c
  · rw [if_pos (e1.mpr hjc), ck_p (show ib (nI 0) 3 = true from rfl), ck_p (show ib (nI 0) 3 = true from rfl), lt_eq, if_pos hjc]
    obtain ⟨h', e, q⟩ := cp8 (wa h 37 0 (nI 0) (nI c + 1)) (show j < cnt _ from by show j < _; exact Nat.lt_of_lt_of_le hj (by decide)) (show 8 < cnt _ by decide) (by omega)
    dsimp only
    rw [if_pos (show nI 0 = 0 from rfl), ck_p hib, e, bnd_eq]
    have w37 : ∀ i, h'.1 37 0 i = (wa h 37 0 (nI 0) (nI c + 1)).1 37 0 i := fun i => by rw [q, if_neg (by omega)]
    refine ⟨h', rfl, ?_, fun i hi => ?_, fun k q' i hk => ?_⟩
    · rw [w37, nI_1]; rfl
    · rw [w37, wa_g, nI_clamp (by decide), if_neg (by omega)]
    · rw [q, wa_g, if_neg (show ¬ (k = 37 ∧ 8 = 0 % cnt 37 ∧ i = (nI 0).toNatClampNeg) from fun w => absurd w.2.1 (by decide)), wa_g, if_neg (show ¬ (k = 37 ∧ q' = 0 % cnt 37 ∧ i = (nI 0).toNatClampNeg) from fun w => hk ⟨w.1, w.2.1⟩)]
  · rw [if_neg (fun w => hjc (e1.mp w)), if_neg hjc]
    obtain ⟨h', e, q⟩ := cp8 h (show j < cnt _ from by show j < _; exact Nat.lt_of_lt_of_le hj (by decide)) (show 8 < cnt _ by decide) (by omega)
    dsimp only
    rw [if_pos (show nI 0 = 0 from rfl), ck_p hib, e, bnd_eq]
    have w37 : ∀ i, h'.1 37 0 i = h.1 37 0 i := fun i => by rw [q, if_neg (by omega)]
    exact ⟨h', rfl, (w37 _).trans ec, fun i hi => w37 _, fun k q' i hk => q k q' i⟩
theorem take_1 {h : Hp} {c j : Nat} (hj : j < 2) (hc : c ≤ 2) (ec : h.1 37 0 1 = nI c) : ∃ h', fX11_takeRead (nI 1) (nI j) h = some ((), h') ∧ h'.1 37 0 1 = nI (if j = c then c + 1 else c) ∧ (∀ i, i ≠ 1 → h'.1 37 0 i = h.1 37 0 i) ∧
    (∀ k q i, ¬ (k = 37 ∧ q = 0) → h'.1 k q i = if q = j ∧ ((k = 5 ∧ i < 1) ∨ ((k = 31 ∨ k = 32) ∧ i < 40)) then h.1 k 8 i else h.1 k q i) := by
  unfold fX11_takeRead
  have hlt : nI j < 2 := nI_lt hj (by decide)
  have hx : 2 * (0 % cnt 39) + 1 * (nI j).toNatClampNeg + 0 = j := by rw [nI_clamp (by omega)]; show 2 * 0 + 1 * j + 0 = j; omega
  have hra : ra h 37 0 (nI 1) = nI c := ec
  rw [has9_eq, bnd_eq, if_neg (show ¬ (nI 1 < 0 ∨ (3 : Int32) ≤ nI 1) by decide), if_neg (show ¬ (1 : Int32) = 0 by decide), if_neg (show ¬ nI j < 0 from fun q => in_no hj (by decide) (Or.inl q)), if_pos hlt, ck_p (show ib (nI 1) 3 = true from rfl), jn_eq, hx, hra]
  have hib : ib (nI j) 2 = true := ib_nI hj (by decide)
  have e1 : (nI j = nI c) ↔ j = c := eq_n (by omega) (by omega)
  by_cases hjc : j = c
  · rw [if_pos (e1.mpr hjc), ck_p (show ib (nI 1) 3 = true from rfl), ck_p (show ib (nI 1) 3 = true from rfl), lt_eq, if_pos hjc]
    obtain ⟨h', e, q⟩ := cp7 (wa h 37 0 (nI 1) (nI c + 1)) (show j < cnt _ from by show j < _; exact Nat.lt_of_lt_of_le hj (by decide)) (show 8 < cnt _ by decide) (by omega)
    dsimp only
    rw [if_neg (show ¬ nI 1 = 0 by decide), if_pos (show nI 1 = 1 from rfl), ck_p hib, e, bnd_eq]
    have w37 : ∀ i, h'.1 37 0 i = (wa h 37 0 (nI 1) (nI c + 1)).1 37 0 i := fun i => by rw [q, if_neg (by omega)]
    refine ⟨h', rfl, ?_, fun i hi => ?_, fun k q' i hk => ?_⟩
    · rw [w37, nI_1]; rfl
    · rw [w37, wa_g, nI_clamp (by decide), if_neg (by omega)]
    · rw [q, wa_g, if_neg (show ¬ (k = 37 ∧ 8 = 0 % cnt 37 ∧ i = (nI 1).toNatClampNeg) from fun w => absurd w.2.1 (by decide)), wa_g, if_neg (show ¬ (k = 37 ∧ q' = 0 % cnt 37 ∧ i = (nI 1).toNatClampNeg) from fun w => hk ⟨w.1, w.2.1⟩)]
  · rw [if_neg (fun w => hjc (e1.mp w)), if_neg hjc]
    obtain ⟨h', e, q⟩ := cp7 h (show j < cnt _ from by show j < _; exact Nat.lt_of_lt_of_le hj (by decide)) (show 8 < cnt _ by decide) (by omega)
    dsimp only
    rw [if_neg (show ¬ nI 1 = 0 by decide), if_pos (show nI 1 = 1 from rfl), ck_p hib, e, bnd_eq]
    have w37 : ∀ i, h'.1 37 0 i = h.1 37 0 i := fun i => by rw [q, if_neg (by omega)]
    exact ⟨h', rfl, (w37 _).trans ec, fun i hi => w37 _, fun k q' i hk => q k q' i⟩
theorem take_2 {h : Hp} {c j : Nat} (hj : j < 2) (hc : c ≤ 2) (ec : h.1 37 0 2 = nI c) : ∃ h', fX11_takeRead (nI 2) (nI j) h = some ((), h') ∧ h'.1 37 0 2 = nI (if j = c then c + 1 else c) ∧ (∀ i, i ≠ 2 → h'.1 37 0 i = h.1 37 0 i) ∧
    (∀ k q i, ¬ (k = 37 ∧ q = 0) → h'.1 k q i = if q = j ∧ ((k = 1 ∧ i < 2) ∨ ((k = 21 ∨ k = 22 ∨ k = 23) ∧ i < 8)) then h.1 k 8 i else h.1 k q i) := by
  unfold fX11_takeRead
  have hlt : nI j < 2 := nI_lt hj (by decide)
  have hx : 2 * (0 % cnt 40) + 1 * (nI j).toNatClampNeg + 0 = j := by rw [nI_clamp (by omega)]; show 2 * 0 + 1 * j + 0 = j; omega
  have hra : ra h 37 0 (nI 2) = nI c := ec
  rw [has9_eq, bnd_eq, if_neg (show ¬ (nI 2 < 0 ∨ (3 : Int32) ≤ nI 2) by decide), if_neg (show ¬ (1 : Int32) = 0 by decide), if_neg (show ¬ nI j < 0 from fun q => in_no hj (by decide) (Or.inl q)), if_pos hlt, ck_p (show ib (nI 2) 3 = true from rfl), jn_eq, hx, hra]
  have hib : ib (nI j) 2 = true := ib_nI hj (by decide)
  have e1 : (nI j = nI c) ↔ j = c := eq_n (by omega) (by omega)
  by_cases hjc : j = c
  · rw [if_pos (e1.mpr hjc), ck_p (show ib (nI 2) 3 = true from rfl), ck_p (show ib (nI 2) 3 = true from rfl), lt_eq, if_pos hjc]
    obtain ⟨h', e, q⟩ := cp3 (wa h 37 0 (nI 2) (nI c + 1)) (show j < cnt _ from by show j < _; exact Nat.lt_of_lt_of_le hj (by decide)) (show 8 < cnt _ by decide) (by omega)
    dsimp only
    rw [if_neg (show ¬ nI 2 = 0 by decide), if_neg (show ¬ nI 2 = 1 by decide), ck_p hib, e, bnd_eq]
    have w37 : ∀ i, h'.1 37 0 i = (wa h 37 0 (nI 2) (nI c + 1)).1 37 0 i := fun i => by rw [q, if_neg (by omega)]
    refine ⟨h', rfl, ?_, fun i hi => ?_, fun k q' i hk => ?_⟩
    · rw [w37, nI_1]; rfl
    · rw [w37, wa_g, nI_clamp (by decide), if_neg (by omega)]
    · rw [q, wa_g, if_neg (show ¬ (k = 37 ∧ 8 = 0 % cnt 37 ∧ i = (nI 2).toNatClampNeg) from fun w => absurd w.2.1 (by decide)), wa_g, if_neg (show ¬ (k = 37 ∧ q' = 0 % cnt 37 ∧ i = (nI 2).toNatClampNeg) from fun w => hk ⟨w.1, w.2.1⟩)]
  · rw [if_neg (fun w => hjc (e1.mp w)), if_neg hjc]
    obtain ⟨h', e, q⟩ := cp3 h (show j < cnt _ from by show j < _; exact Nat.lt_of_lt_of_le hj (by decide)) (show 8 < cnt _ by decide) (by omega)
    dsimp only
    rw [if_neg (show ¬ nI 2 = 0 by decide), if_neg (show ¬ nI 2 = 1 by decide), ck_p hib, e, bnd_eq]
    have w37 : ∀ i, h'.1 37 0 i = h.1 37 0 i := fun i => by rw [q, if_neg (by omega)]
    exact ⟨h', rfl, (w37 _).trans ec, fun i hi => w37 _, fun k q' i hk => q k q' i⟩
theorem new_0 {hC hM hC' hM' : Hp} {j : Nat} (co : Co0 0 hC hM) (c : ∀ k q i, ¬ (k = 37 ∧ q = 0) → hC'.1 k q i = if q = j ∧ ((k = 6 ∧ i < 3) ∨ ((k = 33 ∨ k = 34 ∨ k = 35) ∧ i < 5)) then hC.1 k 8 i else hC.1 k q i) (m : ∀ i, i < 18 → hM'.1 48 0 (18 * j + i) = hM.1 51 0 i) : StRel hC' hM' j := by
  obtain ⟨-, -, -, -, -, -, h5⟩ := co
  obtain ⟨sp, st, n, pl, li, le, hv, hs, hm⟩ := h5 rfl
  have hn : n ≤ 5 := hv.2.2.2.1
  have c6 : ∀ i, i < 3 → hC'.1 6 j i = hC.1 6 8 i := fun i hi => by rw [c _ _ _ (by omega), if_pos ⟨rfl, Or.inl ⟨rfl, hi⟩⟩]
  have ca : ∀ k i, (k = 33 ∨ k = 34 ∨ k = 35) → i < 5 → hC'.1 k j i = hC.1 k 8 i := fun k i hk hi => by rw [c _ _ _ (by omega), if_pos ⟨rfl, Or.inr ⟨hk, hi⟩⟩]
  refine ⟨sp, st, n, pl, li, le, hv, ⟨(c6 0 (by omega)).trans hs.1, (c6 1 (by omega)).trans hs.2.1, (c6 2 (by omega)).trans hs.2.2.1, fun p hp => ?_⟩, ⟨(m 0 (by omega)).trans hm.1, (m 1 (by omega)).trans hm.2.1, (m 2 (by omega)).trans hm.2.2.1, fun p hp => ?_⟩⟩
  · rw [ca 33 p (by omega) (by omega), ca 34 p (by omega) (by omega), ca 35 p (by omega) (by omega)]; exact hs.2.2.2 p hp
  · rw [Nat.add_assoc, Nat.add_assoc, Nat.add_assoc, m (3 + p) (by omega), m (8 + p) (by omega), m (13 + p) (by omega)]; exact hm.2.2.2 p hp
theorem new_1 {hC hM hC' hM' : Hp} {j : Nat} (co : Co1 0 hC hM) (c : ∀ k q i, ¬ (k = 37 ∧ q = 0) → hC'.1 k q i = if q = j ∧ ((k = 5 ∧ i < 1) ∨ ((k = 31 ∨ k = 32) ∧ i < 40)) then hC.1 k 8 i else hC.1 k q i) (m : ∀ i, i < 81 → hM'.1 49 0 (81 * j + i) = hM.1 51 0 i) : ShRel hC' hM' j := by
  obtain ⟨-, -, -, -, -, -, h5⟩ := co
  obtain ⟨n, kd, pt, hv, hs, hm⟩ := h5 rfl
  have hn : n ≤ 40 := hv.1
  have c6 : ∀ i, i < 1 → hC'.1 5 j i = hC.1 5 8 i := fun i hi => by rw [c _ _ _ (by omega), if_pos ⟨rfl, Or.inl ⟨rfl, hi⟩⟩]
  have ca : ∀ k i, (k = 31 ∨ k = 32) → i < 40 → hC'.1 k j i = hC.1 k 8 i := fun k i hk hi => by rw [c _ _ _ (by omega), if_pos ⟨rfl, Or.inr ⟨hk, hi⟩⟩]
  refine ⟨n, kd, pt, hv, ⟨(c6 0 (by omega)).trans hs.1, fun p hp => ?_⟩, ⟨(m 0 (by omega)).trans hm.1, fun p hp => ?_⟩⟩
  · rw [ca 31 p (by omega) (by omega), ca 32 p (by omega) (by omega)]; exact hs.2 p hp
  · rw [Nat.add_assoc, Nat.add_assoc, m (1 + 2 * p) (by omega), m (2 + 2 * p) (by omega)]; exact hm.2 p hp
theorem new_2 {hC hM hC' hM' : Hp} {j : Nat} (co : Co2 0 hC hM) (c : ∀ k q i, ¬ (k = 37 ∧ q = 0) → hC'.1 k q i = if q = j ∧ ((k = 1 ∧ i < 2) ∨ ((k = 21 ∨ k = 22 ∨ k = 23) ∧ i < 8)) then hC.1 k 8 i else hC.1 k q i) (m : ∀ i, i < 26 → hM'.1 50 0 (26 * j + i) = hM.1 51 0 i) : LgRel hC' hM' j := by
  obtain ⟨-, -, -, -, -, -, h5⟩ := co
  obtain ⟨r, n, sd, pt, bt, hv, hs, hm⟩ := h5 rfl
  have hn : n ≤ 8 := hv.2.1
  have c6 : ∀ i, i < 2 → hC'.1 1 j i = hC.1 1 8 i := fun i hi => by rw [c _ _ _ (by omega), if_pos ⟨rfl, Or.inl ⟨rfl, hi⟩⟩]
  have ca : ∀ k i, (k = 21 ∨ k = 22 ∨ k = 23) → i < 8 → hC'.1 k j i = hC.1 k 8 i := fun k i hk hi => by rw [c _ _ _ (by omega), if_pos ⟨rfl, Or.inr ⟨hk, hi⟩⟩]
  refine ⟨r, n, sd, pt, bt, hv, ⟨(c6 0 (by omega)).trans hs.1, (c6 1 (by omega)).trans hs.2.1, fun p hp => ?_⟩, ⟨(m 0 (by omega)).trans hm.1, (m 1 (by omega)).trans hm.2.1, fun p hp => ?_⟩⟩
  · rw [ca 21 p (by omega) (by omega), ca 22 p (by omega) (by omega), ca 23 p (by omega) (by omega)]; exact hs.2.2 p hp
  · rw [Nat.add_assoc, Nat.add_assoc, Nat.add_assoc, m (2 + 3 * p) (by omega), m (3 + 3 * p) (by omega), m (4 + 3 * p) (by omega)]; exact hm.2.2 p hp
