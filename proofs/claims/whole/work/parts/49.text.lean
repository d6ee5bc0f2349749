/-! show lines -/
def MSho (h : Hp) (n : Nat) (kd : Nat → Nat) (pt : Nat → Int32) : Prop := h.1 51 0 0 = nI n ∧ ∀ k, k < n → h.1 51 0 (1 + 2 * k) = nI (kd k) ∧ h.1 51 0 (2 + 2 * k) = pt k
def Co1 (f : Nat) (hC hM : Hp) : Prop := ∃ c1 c2, c1 ≤ 40 ∧ hC.1 5 8 0 = nI c1 ∧ c2 ≤ 40 ∧ hM.1 51 0 0 = nI c2 ∧ (f = 0 → ∃ n kd pt, HV n kd pt ∧ CSh hC 8 n kd pt ∧ MSho hM n kd pt)
theorem isFull_d {h : Hp} {c d : Nat} (hd : d < 5) (hc : c ≤ 40) (h2 : h.1 5 8 0 = nI c) : fX5_isFull (nI (3 + d)) h = some (if decide (c = 40) = true then 1 else 0, h) := by
  have main : (if rd h 5 8 0 < 40 then ck (zk 0) (some ((0 : Int32), h)) else ck (zk 1) (some (1, h))) = some (if decide (c = 40) = true then 1 else 0, h) := by
    rw [show rd h 5 8 0 = nI c from h2, zk_0, zk_1, ck_t, ck_t]
    by_cases hc5 : c = 40
    · rw [if_neg (by rw [hc5]; decide), if_pos (by simpa using hc5)]
    · rw [if_pos (show nI c < 40 from nI_lt (show c < 40 by omega) (by decide)), if_neg (by simpa using hc5)]
  rcases (show d = 0 ∨ d = 1 ∨ d = 2 ∨ d = 3 ∨ d = 4 by omega) with rfl | rfl | rfl | rfl | rfl <;> exact main
def shT (x2 : Int32) (h9 : Hp) : Option (Int32 × Hp) := ck (ib 0 81) (
  lt (ra h9 51 0 0) fun x10 =>
  jn (κ := Hp → Option (Int32 × Hp)) (fun h12 => bnd (fX12_lesser 40 (x10 + (1 : Int32)) h12) fun x14 h13 =>
  ck (ib 0 81) (lt (wa h13 51 0 0 x14) fun h15 =>
  ck (zk 1) (some (1, h15)))) fun k99_10 =>
  if (40 : Int32) ≤ x10 then (k99_10 h9)
  else (ck (ib ((1 : Int32) + ((2 : Int32) * x10)) 81) (lt (wa h9 51 0 ((1 : Int32) + ((2 : Int32) * x10)) x2) fun h16 =>
  ck (ib 1 3) (
  ck (ib ((2 : Int32) + ((2 : Int32) * x10)) 81) (lt (wa h16 51 0 ((2 : Int32) + ((2 : Int32) * x10)) (ra h16 52 0 1)) fun h17 =>
  k99_10 h17)))))
theorem shT_eq {h : Hp} {c : Nat} {x : Int32} (hc : c ≤ 40) (e0 : h.1 51 0 0 = nI c) : ∃ h', shT x h = some (1, h') ∧ h'.2 = h.2 ∧ (∀ k s j, k ≠ 51 → h'.1 k s j = h.1 k s j) ∧ h'.1 51 0 0 = nI (if c + 1 ≤ 40 then c + 1 else 40) ∧ (c < 40 → h'.1 51 0 (1 + 2 * c) = x ∧ h'.1 51 0 (2 + 2 * c) = h.1 52 0 1 ∧ ∀ p, p < c → h'.1 51 0 (1 + 2 * p) = h.1 51 0 (1 + 2 * p) ∧ h'.1 51 0 (2 + 2 * p) = h.1 51 0 (2 + 2 * p)) := by
  unfold shT
  have fin : ∀ h14, (bnd (fX12_lesser 40 (nI c + (1 : Int32)) h14) fun x16 h15 => ck (ib 0 81) (lt (wa h15 51 0 0 x16) fun h17 => ck (zk 1) (some ((1 : Int32), h17)))) = some (1, wa h14 51 0 0 (nI (if c + 1 ≤ 40 then c + 1 else 40))) := by
    intro h14
    rw [nI_1, show (40 : Int32) = nI 40 from rfl, lesser_eq h14 (by decide) (by omega), bnd_eq]
    rfl
  rw [ck_p (show ib 0 81 = true from rfl), lt_eq, show ra h 51 0 0 = nI c from e0, jn_eq]
  by_cases hc5 : c < 40
  · rw [if_neg (show ¬ (40 : Int32) ≤ nI c from nI_ge hc5 (by decide)), show (2 : Int32) * nI c = nI (2 * c) from nI_mul 2 c, show (1 : Int32) + nI (2 * c) = nI (1 + 2 * c) from nI_add 1 _, show (2 : Int32) + nI (2 * c) = nI (2 + 2 * c) from nI_add 2 _, ck_p (ib_nI (show 1 + 2 * c < 81 by omega) (by decide)), lt_eq, ck_p (show ib 1 3 = true from rfl), ck_p (ib_nI (show 2 + 2 * c < 81 by omega) (by decide)), lt_eq]
    dsimp only
    rw [fin]
    have q1 : (nI (1 + 2 * c)).toNatClampNeg = 1 + 2 * c := nI_clamp (by omega)
    have q2 : (nI (2 + 2 * c)).toNatClampNeg = 2 + 2 * c := nI_clamp (by omega)
    have q0 : Int32.toNatClampNeg 0 = 0 := rfl
    have r1 : ra (wa h 51 0 (nI (1 + 2 * c)) x) 52 0 1 = h.1 52 0 1 := rfl
    have c51 : 0 % cnt 51 = 0 := rfl
    rw [r1]
    refine ⟨_, rfl, rfl, fun k s j hk => ?_, ?_, fun _ => ⟨?_, ?_, fun p hp => ⟨?_, ?_⟩⟩⟩
    · rw [wa_g, if_neg (by omega), wa_g, if_neg (by omega), wa_g, if_neg (by omega)]
    · rw [wa_g, if_pos ⟨rfl, rfl, rfl⟩]
    · rw [wa_g, q0, if_neg (by omega), wa_g, q2, if_neg (by omega), wa_g, q1, if_pos ⟨rfl, rfl, rfl⟩]
    · rw [wa_g, q0, if_neg (by omega), wa_g, q2, if_pos ⟨rfl, rfl, rfl⟩]
    · rw [wa_g, q0, if_neg (by omega), wa_g, q2, if_neg (by omega), wa_g, q1, if_neg (by omega)]
    · rw [wa_g, q0, if_neg (by omega), wa_g, q2, if_neg (by omega), wa_g, q1, if_neg (by omega)]
  · have : c = 40 := by omega
    subst this
    rw [if_pos (by decide)]
    dsimp only
    rw [fin]
    exact ⟨_, rfl, rfl, fun k s j hk => by rw [wa_g, if_neg (by omega)], rfl, fun w => absurd w (by decide)⟩
theorem add7_eq {h : Hp} {c : Nat} {x y : Int32} (hc : c ≤ 40) (h2 : h.1 5 8 0 = nI c) : ∃ h', fX7_add 8 x y h = some ((), h') ∧ (∀ k s j, ¬ (s = 8 ∧ ((k = 5 ∧ j = 0) ∨ ((k = 31 ∨ k = 32) ∧ j = c))) → h'.1 k s j = h.1 k s j) ∧ (h'.1 5 8 0 = nI (if c + 1 ≤ 40 then c + 1 else 40)) ∧ (c < 40 → h'.1 31 8 c = x ∧ h'.1 32 8 c = y) := by
  unfold fX7_add
  have e2 : rd h 5 8 0 = nI c := h2
  have e21 : ∀ v w, rd (wa h 31 8 v w) 5 8 0 = nI c := fun v w => h2
  have e22 : ∀ v w v' w', rd (wa (wa h 31 8 v w) 32 8 v' w') 5 8 0 = nI c := fun v w v' w' => h2
  by_cases hc5 : c < 40
  · rw [e2, if_pos (show nI c < 40 from nI_lt hc5 (by decide)), ck_p (ib_nI hc5 (by decide)), lt_eq, e21, ck_p (ib_nI hc5 (by decide)), lt_eq, lt_eq, e22, nI_1]
    refine ⟨_, rfl, fun k s j hk => ?_, ?_, fun _ => ⟨?_, ?_⟩⟩
    · have c6 : 8 % cnt 5 = 8 := rfl
      have c33 : 8 % cnt 31 = 8 := rfl
      have c34 : 8 % cnt 32 = 8 := rfl
      rw [wr_g, c6, if_neg (by omega), wa_g, c34, nI_clamp (by omega), if_neg (by omega), wa_g, c33, nI_clamp (by omega), if_neg (by omega)]
    · rw [wr_g, if_pos ⟨rfl, rfl, rfl⟩, if_pos (by omega)]
    · rw [wr_g, if_neg (by omega), wa_g, if_neg (by omega), wa_g, nI_clamp (by omega), if_pos ⟨rfl, rfl, rfl⟩]
    · rw [wr_g, if_neg (by omega), wa_g, nI_clamp (by omega), if_pos ⟨rfl, rfl, rfl⟩]
  · have : c = 40 := by omega
    subst this
    rw [e2, if_neg (show ¬ nI 40 < 40 by decide)]
    exact ⟨h, rfl, fun _ _ _ _ => rfl, h2, fun w => absurd w (by decide)⟩
/-- what is told of a deed, on both sides -/
theorem show_told {f f0 c1 c2 d : Nat} {y : Int32} {hC hM hA hB hM7 hM' : Hp} (hd : d < 5) (hy : f0 = 0 → (d = 0 ∧ y = -1) ∨ (1 ≤ d ∧ ∃ q, q < 5 ∧ y = nI q)) (hc1 : c1 ≤ 40) (ec1 : hC.1 5 8 0 = nI c1) (hc2 : c2 ≤ 40) (ec2 : hM.1 51 0 0 = nI c2) (hcon : f = 0 → ∃ n kd pt, HV n kd pt ∧ CSh hC 8 n kd pt ∧ MSho hM n kd pt) (hcc : f = 0 → c1 = c2) (hf0 : f0 = 0 → f = 0 ∧ c1 < 40)
    (sC : ∀ k s j, k ≠ 3 → k ≠ 26 → hA.1 k s j = hC.1 k s j) (s51 : ∀ j, hM7.1 51 0 j = hM.1 51 0 j)
    (kB : ∀ k s j, ¬ (s = 8 ∧ ((k = 5 ∧ j = 0) ∨ ((k = 31 ∨ k = 32) ∧ j = c1))) → hB.1 k s j = hA.1 k s j) (bn : hB.1 5 8 0 = nI (if c1 + 1 ≤ 40 then c1 + 1 else 40)) (bp : c1 < 40 → hB.1 31 8 c1 = nI d ∧ hB.1 32 8 c1 = y)
    (e70 : hM'.1 51 0 0 = nI (if c2 + 1 ≤ 40 then c2 + 1 else 40)) (e7p : c2 < 40 → hM'.1 51 0 (1 + 2 * c2) = nI d ∧ hM'.1 51 0 (2 + 2 * c2) = y ∧ ∀ p, p < c2 → hM'.1 51 0 (1 + 2 * p) = hM7.1 51 0 (1 + 2 * p) ∧ hM'.1 51 0 (2 + 2 * p) = hM7.1 51 0 (2 + 2 * p)) : Co1 f0 hB hM' := by
  refine ⟨_, _, ?_, bn, ?_, e70, fun h0 => ?_⟩
  · split <;> omega
  · split <;> omega
  · obtain ⟨hf, hlt⟩ := hf0 h0
    have hcc' := hcc hf
    obtain ⟨m, kd, pt, hv, hs, hm⟩ := hcon hf
    have hm5 := hv.1
    have a1 := ec1.symm.trans hs.1
    rw [eq_n (by omega) (by omega)] at a1
    subst a1
    obtain ⟨b31, b32⟩ := bp hlt
    obtain ⟨d1, d2, dp⟩ := e7p (by omega)
    refine ⟨c1 + 1, fun p => if p = c1 then d else kd p, fun p => if p = c1 then y else pt p, ⟨by omega, fun p hp => ?_⟩, ⟨?_, fun p hp => ?_⟩, ⟨?_, fun p hp => ?_⟩⟩
    · by_cases hpc : p = c1
      · simp only [hpc, if_pos]
        rcases hy h0 with ⟨w1, w2⟩ | ⟨w1, w2⟩
        · exact Or.inl ⟨w1, w2⟩
        · exact Or.inr ⟨w1, by omega, w2⟩
      · simp only [hpc, if_false]; exact hv.2 p (by omega)
    · rw [bn, if_pos (by omega)]
    · by_cases hpc : p = c1
      · subst hpc
        simp only [if_pos]
        exact ⟨b31, b32⟩
      · simp only [hpc, if_false]
        rw [kB 31 8 p (by omega), sC 31 8 p (by decide) (by decide), kB 32 8 p (by omega), sC 32 8 p (by decide) (by decide)]
        exact hs.2 p (by omega)
    · rw [e70, ← hcc', if_pos (by omega)]
    · rw [← hcc'] at d1 d2 dp
      by_cases hpc : p = c1
      · subst hpc
        simp only [if_pos]
        exact ⟨d1, d2⟩
      · simp only [hpc, if_false]
        obtain ⟨x1, x2⟩ := dp p (by omega)
        rw [x1, x2, s51, s51]
        exact hm.2 p (by omega)
