/-! content of a stage while it is read -/
def MSo (h : Hp) (sp st n : Nat) (pl li le : Nat → Nat) : Prop := h.1 51 0 0 = nI sp ∧ h.1 51 0 1 = nI st ∧ h.1 51 0 2 = nI n ∧ ∀ p, p < n → h.1 51 0 (3 + p) = nI (pl p) ∧ h.1 51 0 (8 + p) = nI (li p) ∧ h.1 51 0 (13 + p) = nI (le p)
def Co0 (f : Nat) (hC hM : Hp) : Prop := ∃ c1 c2, c1 ≤ 5 ∧ hC.1 6 8 2 = nI c1 ∧ c2 ≤ 5 ∧ hM.1 51 0 2 = nI c2 ∧ (f = 0 → ∃ sp st n pl li le, SV sp st n pl li le ∧ CSt hC 8 sp st n pl li le ∧ MSo hM sp st n pl li le)
theorem full_eq {h : Hp} {idx c most a : Nat} (hi : idx < 81) (hc : h.1 51 0 idx = nI c) (hc' : c < 100) (hm : most < 100) : fX12_full (nI idx) (nI most) (nI a) h = if decide (c = most) = true then fX12_addsFault 3 (nI a) h else some ((), h) := by
  unfold fX12_full
  rw [ck_p (ib_nI hi (by decide)), ra_n (by omega), show h.1 51 (0 % cnt 51) idx = nI c from hc]
  by_cases hcm : c = most
  · rw [if_pos (by rw [hcm]), if_pos (by simpa using hcm)]
    cases hA : fX12_addsFault 3 (nI a) h with
    | none => rfl
    | some r => obtain ⟨u, h1⟩ := r; rfl
  · rw [if_neg (fun q => hcm ((eq_n (by omega) (by omega)).mp q)), if_neg (by simpa using hcm)]
theorem lesser_eq {a c : Nat} (h : Hp) (ha : a < 2 ^ 31) (hc : c < 2 ^ 31) : fX12_lesser (nI a) (nI c) h = some (nI (if c ≤ a then c else a), h) := by
  unfold fX12_lesser
  by_cases hca : c ≤ a
  · rw [if_pos ((le_n hc ha).mpr hca), if_pos hca]
  · rw [if_neg (fun q => hca ((le_n hc ha).mp q)), if_neg hca]
theorem plate_store {h : Hp} {c v0 v1 v2 : Nat} (hc : c ≤ 5) (e0 : h.1 52 0 0 = nI v0) (e1 : h.1 52 0 1 = nI v1) (e2 : h.1 52 0 2 = nI v2) :
    ∃ h', itr1 (fX12_plateLine_l66 (nI c) (fun h14 => bnd (fX12_lesser 5 (nI c + (1 : Int32)) h14) fun x16 h15 => ck (ib 2 81) (lt (wa h15 51 0 2 x16) fun h17 => ck (zk 1) (some (1, h17))))) FU 0 h = some (1, h') ∧ h'.2 = h.2 ∧ (∀ k s j, k ≠ 51 → h'.1 k s j = h.1 k s j) ∧ h'.1 51 0 2 = nI (if c + 1 ≤ 5 then c + 1 else 5) ∧ h'.1 51 0 0 = h.1 51 0 0 ∧ h'.1 51 0 1 = h.1 51 0 1 ∧ (c < 5 → h'.1 51 0 (3 + c) = nI v0 ∧ h'.1 51 0 (8 + c) = nI v1 ∧ h'.1 51 0 (13 + c) = nI v2 ∧ ∀ p, p < c → h'.1 51 0 (3 + p) = h.1 51 0 (3 + p) ∧ h'.1 51 0 (8 + p) = h.1 51 0 (8 + p) ∧ h'.1 51 0 (13 + p) = h.1 51 0 (13 + p)) := by
  have fin : ∀ h14, (bnd (fX12_lesser 5 (nI c + (1 : Int32)) h14) fun x16 h15 => ck (ib 2 81) (lt (wa h15 51 0 2 x16) fun h17 => ck (zk 1) (some ((1 : Int32), h17)))) = some (1, wa h14 51 0 2 (nI (if c + 1 ≤ 5 then c + 1 else 5))) := by
    intro h14
    rw [nI_1, show (5 : Int32) = nI 5 from rfl, lesser_eq h14 (by decide) (by omega), bnd_eq]
    rfl
  rw [show FU = 3999995 + 1 + 1 + 1 + 1 + 1 from rfl]
  by_cases hc5 : c < 5
  · have step : ∀ (m i : Nat) (h1 : Hp) (K : Hp → Option (Int32 × Hp)), i < 3 → itr1 (fX12_plateLine_l66 (nI c) K) (m + 1) (nI i) h1 = itr1 (fX12_plateLine_l66 (nI c) K) m (nI (i + 1)) (wa h1 51 0 (nI (3 + 5 * i + c)) (h1.1 52 0 i)) := by
      intro m i h1 K hi
      rw [itr1_s]
      generalize itr1 (fX12_plateLine_l66 (nI c) K) m = R
      unfold fX12_plateLine_l66
      rw [if_neg (show ¬ (3 : Int32) ≤ nI i from nI_ge hi (by decide)), if_neg (show ¬ (5 : Int32) ≤ nI c from nI_ge hc5 (by decide)), ck_p (ib_nI hi (by decide)), show (5 : Int32) * nI i = nI (5 * i) from nI_mul 5 i, show (3 : Int32) + nI (5 * i) = nI (3 + 5 * i) from nI_add 3 _, nI_add, ck_p (ib_nI (by omega) (by decide)), lt_eq, lt_eq, nI_1, ra_n (by omega)]
      rfl
    have stop : ∀ (m : Nat) (h1 : Hp) (K : Hp → Option (Int32 × Hp)), itr1 (fX12_plateLine_l66 (nI c) K) (m + 1) (nI 3) h1 = K h1 := by
      intro m h1 K
      rw [itr1_s]
      unfold fX12_plateLine_l66
      rw [if_pos (by decide)]
    rw [show (0 : Int32) = nI 0 from rfl, step _ _ _ _ (by decide), step _ _ _ _ (by decide), step _ _ _ _ (by decide), stop, fin]
    refine ⟨_, rfl, rfl, fun k s j hk => ?_, ?_, ?_, ?_, fun _ => ⟨?_, ?_, ?_, fun p hp => ⟨?_, ?_, ?_⟩⟩⟩
    · simp only [wa_g]
      rw [if_neg (by omega), if_neg (by omega), if_neg (by omega), if_neg (by omega)]
    · rw [wa_g, if_pos ⟨rfl, rfl, rfl⟩]
    all_goals
      simp only [wa_g, nI_clamp (show 3 + 5 * 0 + c < 2 ^ 31 by omega), nI_clamp (show 3 + 5 * (0 + 1) + c < 2 ^ 31 by omega), nI_clamp (show 3 + 5 * (0 + 1 + 1) + c < 2 ^ 31 by omega), show Int32.toNatClampNeg 2 = 2 from rfl, show cnt 51 = 1 from rfl]
      rw [if_neg (by omega)]
    · rw [if_neg (by omega), if_neg (by omega), if_neg (by omega)]
    · rw [if_neg (by omega), if_neg (by omega), if_neg (by omega)]
    · rw [if_neg (by omega), if_neg (by omega), if_pos (by simp)]; exact e0
    · rw [if_neg (by omega), if_pos (by simp)]; exact e1
    · rw [if_pos (by simp)]; exact e2
    · rw [if_neg (by omega), if_neg (by omega), if_neg (by omega)]
    · rw [if_neg (by omega), if_neg (by omega), if_neg (by omega)]
    · rw [if_neg (by omega), if_neg (by omega), if_neg (by omega)]
  · have : c = 5 := by omega
    subst this
    rw [itr1_s]
    unfold fX12_plateLine_l66
    rw [if_neg (by decide), if_pos (by decide)]
    dsimp only
    rw [fin]
    refine ⟨_, rfl, rfl, fun k s j hk => by rw [wa_g, if_neg (by omega)], rfl, rfl, rfl, fun w => absurd w (by decide)⟩
theorem add8_eq {h : Hp} {c : Nat} {x y z : Int32} (hc : c ≤ 5) (h2 : h.1 6 8 2 = nI c) : ∃ h', fX8_add 8 x y z h = some ((), h') ∧ (∀ k s j, ¬ (s = 8 ∧ ((k = 6 ∧ j = 2) ∨ ((k = 33 ∨ k = 34 ∨ k = 35) ∧ j = c))) → h'.1 k s j = h.1 k s j) ∧ (h'.1 6 8 2 = nI (if c + 1 ≤ 5 then c + 1 else 5)) ∧ (c < 5 → h'.1 33 8 c = x ∧ h'.1 34 8 c = y ∧ h'.1 35 8 c = z) := by
  unfold fX8_add
  have e2 : rd h 6 8 2 = nI c := h2
  have e21 : ∀ v w, rd (wa h 33 8 v w) 6 8 2 = nI c := fun v w => h2
  have e22 : ∀ v w v' w', rd (wa (wa h 33 8 v w) 34 8 v' w') 6 8 2 = nI c := fun v w v' w' => h2
  have e23 : ∀ v w v' w' v2 w2, rd (wa (wa (wa h 33 8 v w) 34 8 v' w') 35 8 v2 w2) 6 8 2 = nI c := fun v w v' w' v2 w2 => h2
  by_cases hc5 : c < 5
  · rw [e2, if_pos (show nI c < 5 from nI_lt hc5 (by decide)), ck_p (ib_nI hc5 (by decide)), lt_eq, e21, ck_p (ib_nI hc5 (by decide)), lt_eq, e22, ck_p (ib_nI hc5 (by decide)), lt_eq, lt_eq, e23, nI_1]
    refine ⟨_, rfl, fun k s j hk => ?_, ?_, fun _ => ⟨?_, ?_, ?_⟩⟩
    · have c6 : 8 % cnt 6 = 8 := rfl
      have c33 : 8 % cnt 33 = 8 := rfl
      have c34 : 8 % cnt 34 = 8 := rfl
      have c35 : 8 % cnt 35 = 8 := rfl
      rw [wr_g, c6, if_neg (by omega), wa_g, c35, nI_clamp (by omega), if_neg (by omega), wa_g, c34, nI_clamp (by omega), if_neg (by omega), wa_g, c33, nI_clamp (by omega), if_neg (by omega)]
    · rw [wr_g, if_pos ⟨rfl, rfl, rfl⟩, if_pos (by omega)]
    · rw [wr_g, if_neg (by omega), wa_g, if_neg (by omega), wa_g, if_neg (by omega), wa_g, nI_clamp (by omega), if_pos ⟨rfl, rfl, rfl⟩]
    · rw [wr_g, if_neg (by omega), wa_g, if_neg (by omega), wa_g, nI_clamp (by omega), if_pos ⟨rfl, rfl, rfl⟩]
    · rw [wr_g, if_neg (by omega), wa_g, nI_clamp (by omega), if_pos ⟨rfl, rfl, rfl⟩]
  · have : c = 5 := by omega
    subst this
    rw [e2, if_neg (show ¬ nI 5 < 5 by decide)]
    exact ⟨h, rfl, fun _ _ _ _ => rfl, h2, fun w => absurd w (by decide)⟩
