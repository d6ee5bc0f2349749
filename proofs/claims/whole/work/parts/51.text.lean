/-! fact lines -/
def MLo (h : Hp) (r n : Nat) (sd pt bt : Nat → Nat) : Prop := h.1 51 0 0 = nI r ∧ h.1 51 0 1 = nI n ∧ ∀ k, k < n → h.1 51 0 (2 + 3 * k) = nI (sd k) ∧ h.1 51 0 (3 + 3 * k) = nI (pt k) ∧ h.1 51 0 (4 + 3 * k) = nI (bt k)
def Co2 (f : Nat) (hC hM : Hp) : Prop := ∃ c1 c2, c1 ≤ 8 ∧ hC.1 1 8 1 = nI c1 ∧ c2 ≤ 8 ∧ hM.1 51 0 1 = nI c2 ∧ (f = 0 → ∃ r n sd pt bt, GV r n sd pt bt ∧ CLg hC 8 r n sd pt bt ∧ MLo hM r n sd pt bt)
theorem isFull_f {h : Hp} {c d : Nat} (hd : d < 2) (hc : c ≤ 8) (h2 : h.1 1 8 1 = nI c) : fX5_isFull (nI (9 + d)) h = some (if decide (c = 8) = true then 1 else 0, h) := by
  have main : (if rd h 1 8 1 < 8 then ck (zk 0) (some ((0 : Int32), h)) else ck (zk 1) (some (1, h))) = some (if decide (c = 8) = true then 1 else 0, h) := by
    rw [show rd h 1 8 1 = nI c from h2, zk_0, zk_1, ck_t, ck_t]
    by_cases hc5 : c = 8
    · rw [if_neg (by rw [hc5]; decide), if_pos (by simpa using hc5)]
    · rw [if_pos (show nI c < 8 from nI_lt (show c < 8 by omega) (by decide)), if_neg (by simpa using hc5)]
  rcases (show d = 0 ∨ d = 1 by omega) with rfl | rfl <;> exact main
theorem fact_store {h : Hp} {c v0 v1 v2 : Nat} (hc : c ≤ 8) (e0 : h.1 52 0 0 = nI v0) (e1 : h.1 52 0 1 = nI v1) (e2 : h.1 52 0 2 = nI v2) :
    ∃ h', itr1 (fX12_logLine_l148 (nI c) (fun h14 => bnd (fX12_lesser 8 (nI c + (1 : Int32)) h14) fun x16 h15 => ck (ib 1 81) (lt (wa h15 51 0 1 x16) fun h17 => ck (zk 1) (some (1, h17))))) FU 0 h = some (1, h') ∧ h'.2 = h.2 ∧ (∀ k s j, k ≠ 51 → h'.1 k s j = h.1 k s j) ∧ h'.1 51 0 1 = nI (if c + 1 ≤ 8 then c + 1 else 8) ∧ h'.1 51 0 0 = h.1 51 0 0 ∧ (c < 8 → h'.1 51 0 (2 + 3 * c) = nI v0 ∧ h'.1 51 0 (3 + 3 * c) = nI v1 ∧ h'.1 51 0 (4 + 3 * c) = nI v2 ∧ ∀ p, p < c → h'.1 51 0 (2 + 3 * p) = h.1 51 0 (2 + 3 * p) ∧ h'.1 51 0 (3 + 3 * p) = h.1 51 0 (3 + 3 * p) ∧ h'.1 51 0 (4 + 3 * p) = h.1 51 0 (4 + 3 * p)) := by
  have fin : ∀ h14, (bnd (fX12_lesser 8 (nI c + (1 : Int32)) h14) fun x16 h15 => ck (ib 1 81) (lt (wa h15 51 0 1 x16) fun h17 => ck (zk 1) (some ((1 : Int32), h17)))) = some (1, wa h14 51 0 1 (nI (if c + 1 ≤ 8 then c + 1 else 8))) := by
    intro h14
    rw [nI_1, show (8 : Int32) = nI 8 from rfl, lesser_eq h14 (by decide) (by omega), bnd_eq]
    rfl
  rw [show FU = 3999995 + 1 + 1 + 1 + 1 + 1 from rfl]
  by_cases hc5 : c < 8
  · have step : ∀ (m i : Nat) (h1 : Hp) (K : Hp → Option (Int32 × Hp)), i < 3 → itr1 (fX12_logLine_l148 (nI c) K) (m + 1) (nI i) h1 = itr1 (fX12_logLine_l148 (nI c) K) m (nI (i + 1)) (wa h1 51 0 (nI (2 + 3 * c + i)) (h1.1 52 0 i)) := by
      intro m i h1 K hi
      rw [itr1_s]
      generalize itr1 (fX12_logLine_l148 (nI c) K) m = R
      unfold fX12_logLine_l148
      rw [if_neg (show ¬ (3 : Int32) ≤ nI i from nI_ge hi (by decide)), if_neg (show ¬ (8 : Int32) ≤ nI c from nI_ge hc5 (by decide)), ck_p (ib_nI hi (by decide)), show (3 : Int32) * nI c = nI (3 * c) from nI_mul 3 c, show (2 : Int32) + nI (3 * c) = nI (2 + 3 * c) from nI_add 2 _, nI_add, ck_p (ib_nI (by omega) (by decide)), lt_eq, lt_eq, nI_1, ra_n (by omega)]
      rfl
    have stop : ∀ (m : Nat) (h1 : Hp) (K : Hp → Option (Int32 × Hp)), itr1 (fX12_logLine_l148 (nI c) K) (m + 1) (nI 3) h1 = K h1 := by
      intro m h1 K
      rw [itr1_s]
      unfold fX12_logLine_l148
      rw [if_pos (by decide)]
    rw [show (0 : Int32) = nI 0 from rfl, step _ _ _ _ (by decide), step _ _ _ _ (by decide), step _ _ _ _ (by decide), stop, fin]
    have q0 : (nI (2 + 3 * c + 0)).toNatClampNeg = 2 + 3 * c + 0 := nI_clamp (by omega)
    have q1 : (nI (2 + 3 * c + (0 + 1))).toNatClampNeg = 2 + 3 * c + (0 + 1) := nI_clamp (by omega)
    have q2 : (nI (2 + 3 * c + (0 + 1 + 1))).toNatClampNeg = 2 + 3 * c + (0 + 1 + 1) := nI_clamp (by omega)
    have qq : Int32.toNatClampNeg 1 = 1 := rfl
    refine ⟨_, rfl, rfl, fun k s j hk => ?_, ?_, ?_, fun _ => ⟨?_, ?_, ?_, fun p hp => ⟨?_, ?_, ?_⟩⟩⟩
    · rw [wa_g, if_neg (by omega), wa_g, if_neg (by omega), wa_g, if_neg (by omega), wa_g, if_neg (by omega)]
    · rw [wa_g, if_pos ⟨rfl, rfl, rfl⟩]
    · rw [wa_g, qq, if_neg (by omega), wa_g, q2, if_neg (by omega), wa_g, q1, if_neg (by omega), wa_g, q0, if_neg (by omega)]
    · rw [wa_g, qq, if_neg (by omega), wa_g, q2, if_neg (by omega), wa_g, q1, if_neg (by omega), wa_g, q0, if_pos ⟨rfl, rfl, by omega⟩]; exact e0
    · rw [wa_g, qq, if_neg (by omega), wa_g, q2, if_neg (by omega), wa_g, q1, if_pos ⟨rfl, rfl, by omega⟩]; exact e1
    · rw [wa_g, qq, if_neg (by omega), wa_g, q2, if_pos ⟨rfl, rfl, by omega⟩]; exact e2
    · rw [wa_g, qq, if_neg (by omega), wa_g, q2, if_neg (by omega), wa_g, q1, if_neg (by omega), wa_g, q0, if_neg (by omega)]
    · rw [wa_g, qq, if_neg (by omega), wa_g, q2, if_neg (by omega), wa_g, q1, if_neg (by omega), wa_g, q0, if_neg (by omega)]
    · rw [wa_g, qq, if_neg (by omega), wa_g, q2, if_neg (by omega), wa_g, q1, if_neg (by omega), wa_g, q0, if_neg (by omega)]
  · have : c = 8 := by omega
    subst this
    rw [itr1_s]
    unfold fX12_logLine_l148
    rw [if_neg (by decide), if_pos (by decide)]
    dsimp only
    rw [fin]
    refine ⟨_, rfl, rfl, fun k s j hk => by rw [wa_g, if_neg (by omega)], rfl, rfl, fun w => absurd w (by decide)⟩
theorem add3_eq {h : Hp} {c : Nat} {x y z : Int32} (hc : c ≤ 8) (h2 : h.1 1 8 1 = nI c) : ∃ h', fX3_add 8 x y z h = some ((), h') ∧ (∀ k s j, ¬ (s = 8 ∧ ((k = 1 ∧ j = 1) ∨ ((k = 21 ∨ k = 22 ∨ k = 23) ∧ j = c))) → h'.1 k s j = h.1 k s j) ∧ (h'.1 1 8 1 = nI (if c + 1 ≤ 8 then c + 1 else 8)) ∧ (c < 8 → h'.1 21 8 c = x ∧ h'.1 22 8 c = y ∧ h'.1 23 8 c = z) := by
  unfold fX3_add
  have e2 : rd h 1 8 1 = nI c := h2
  have e21 : ∀ v w, rd (wa h 21 8 v w) 1 8 1 = nI c := fun v w => h2
  have e22 : ∀ v w v' w', rd (wa (wa h 21 8 v w) 22 8 v' w') 1 8 1 = nI c := fun v w v' w' => h2
  have e23 : ∀ v w v' w' v2 w2, rd (wa (wa (wa h 21 8 v w) 22 8 v' w') 23 8 v2 w2) 1 8 1 = nI c := fun v w v' w' v2 w2 => h2
  by_cases hc5 : c < 8
  · rw [e2, if_pos (show nI c < 8 from nI_lt hc5 (by decide)), ck_p (ib_nI hc5 (by decide)), lt_eq, e21, ck_p (ib_nI hc5 (by decide)), lt_eq, e22, ck_p (ib_nI hc5 (by decide)), lt_eq, lt_eq, e23, nI_1]
    refine ⟨_, rfl, fun k s j hk => ?_, ?_, fun _ => ⟨?_, ?_, ?_⟩⟩
    · have c6 : 8 % cnt 1 = 8 := rfl
      have c33 : 8 % cnt 21 = 8 := rfl
      have c34 : 8 % cnt 22 = 8 := rfl
      have c35 : 8 % cnt 23 = 8 := rfl
      rw [wr_g, c6, if_neg (by omega), wa_g, c35, nI_clamp (by omega), if_neg (by omega), wa_g, c34, nI_clamp (by omega), if_neg (by omega), wa_g, c33, nI_clamp (by omega), if_neg (by omega)]
    · rw [wr_g, if_pos ⟨rfl, rfl, rfl⟩, if_pos (by omega)]
    · rw [wr_g, if_neg (by omega), wa_g, if_neg (by omega), wa_g, if_neg (by omega), wa_g, nI_clamp (by omega), if_pos ⟨rfl, rfl, rfl⟩]
    · rw [wr_g, if_neg (by omega), wa_g, if_neg (by omega), wa_g, nI_clamp (by omega), if_pos ⟨rfl, rfl, rfl⟩]
    · rw [wr_g, if_neg (by omega), wa_g, nI_clamp (by omega), if_pos ⟨rfl, rfl, rfl⟩]
  · have : c = 8 := by omega
    subst this
    rw [e2, if_neg (show ¬ nI 8 < 8 by decide)]
    exact ⟨h, rfl, fun _ _ _ _ => rfl, h2, fun w => absurd w (by decide)⟩
