/-! trials: which plates, which speed, which places can be kept up for ever -/
def GM (v sp st : Nat) (pl li le : Nat → Nat) : KG := (fun p => v.testBit p, sp, st, pl, li, le)
def EvM (v sp st : Nat) (pl li le : Nat → Nat) : Prop := v = 0 ∨ Ev (GM v sp st pl li le) (c0N (GM v sp st pl li le))
theorem GM_GC (n sp st : Nat) (pl li le : Nat → Nat) : GM (2 ^ n - 1) sp st pl li le = GC n sp st pl li le := by
  unfold GM GC
  have : (fun p => (2 ^ n - 1).testBit p) = fun p => decide (p < n) := by
    funext p
    rw [Nat.testBit_two_pow_sub_one]
  rw [this]
theorem tb_lt {v n p : Nat} (hv : v < 2 ^ n) (h : v.testBit p = true) : p < n := by
  apply Classical.byContradiction
  intro q
  have h1 : v < 2 ^ p := Nat.lt_of_lt_of_le hv (Nat.pow_le_pow_right (by decide) (by omega))
  rw [Nat.testBit_lt_two_pow h1] at h
  cases h
theorem GM_VG {sp st n v : Nat} {pl li le : Nat → Nat} (hs : SV sp st n pl li le) (hv : v < 2 ^ n) : VG (GM v sp st pl li le) := by
  refine ⟨hs.1, hs.2.1, hs.2.2.1, fun p _ hb => ?_⟩
  have hp : p < n := tb_lt hv hb
  have := hs.2.2.2.2 p hp
  exact ⟨this.1, this.2.1, this.2.2.1, this.2.2.2.1, by show le p ≤ 6; omega⟩
theorem EvM_full {n sp st : Nat} {pl li le : Nat → Nat} (hn : n ≤ 5) : EvM (2 ^ n - 1) sp st pl li le ↔ (n = 0 ∨ Ev (GC n sp st pl li le) (c0N (GC n sp st pl li le))) := by
  unfold EvM
  rw [GM_GC, pw0 n hn]
theorem exC {h : Hp} {n sp st a : Nat} {pl li le : Nat → Nat} (hv : SV sp st n pl li le) (ha : a < 12) (ha10 : a ≠ 10) (hc : CSt h a sp st n pl li le) (hk : KIv h) : ∃ r h', fX2_explore a 0 h = some (r, h') ∧ KIv h' ∧ KY h h' ∧ ((r = 1 ∧ EvM (2 ^ n - 1) sp st pl li le) ∨ (r = 0 ∧ ¬ EvM (2 ^ n - 1) sp st pl li le)) := by
  have hn := hv.2.2.2.1
  rw [EvM_full hn]
  by_cases h1n : 1 ≤ n
  · obtain ⟨r, h', e, hr, ky, c, w, f, s, D, o, mk, us, T, d, -⟩ := explore_wp (l2 := 0) hv h1n ha ha10 hc hk.1 zk_0
    refine ⟨r, h', e, ⟨d.kb hv, Or.inl w, fun g => ?_⟩, ky, ?_⟩
    · rw [w] at g
      exact absurd g (by decide)
    · rcases hr with ⟨a1, a2⟩ | ⟨a1, a2⟩
      · exact Or.inl ⟨a1, Or.inr a2⟩
      · exact Or.inr ⟨a1, fun q => q.elim (fun z => by omega) a2⟩
  · have h0 : n = 0 := by omega
    subst h0
    obtain ⟨h', e, ky, c, w, ft⟩ := explore0_wp (l2 := 0) hv ha ha10 hc hk.1 zk_0
    obtain ⟨-, -, s, t, -⟩ := id ft
    refine ⟨1, h', e, ⟨⟨0, sp, st, pl, li, le, 1, s, hv, t, by omega⟩, Or.inl w, fun g => ?_⟩, ky, Or.inl ⟨rfl, Or.inl rfl⟩⟩
    rw [w] at g
    exact absurd g (by decide)
/-- the reference has a stage in hand, whatever plates it looks at -/
def MB (h : Hp) (sp st n : Nat) (pl li le : Nat → Nat) : Prop := h.1 10 0 22 = nI n ∧ h.1 10 0 23 = nI sp ∧ h.1 10 0 24 = nI st ∧ ∀ p, p < n → h.1 53 0 p = nI (pl p) ∧ h.1 54 0 p = nI (li p) ∧ h.1 55 0 p = nI (le p)
theorem MB.mg {h : Hp} {sp st n v : Nat} {pl li le : Nat → Nat} (hn : n ≤ 5) (m : MB h sp st n pl li le) (hv : v < 2 ^ n) (e25 : h.1 10 0 25 = nI v) : MG h (GM v sp st pl li le) v := by
  have h32 : v < 32 := Nat.lt_of_lt_of_le hv (Nat.pow_le_pow_right (show 0 < 2 by decide) hn)
  exact ⟨h32, m.2.1, m.2.2.1, e25, fun p _ => rfl, fun p _ hs => m.2.2.2 p (tb_lt hv hs)⟩
theorem MB.kf {h h' : Hp} {sp st n : Nat} {pl li le : Nat → Nat} (k : KF h h') (m : MB h sp st n pl li le) : MB h' sp st n pl li le := by
  obtain ⟨m1, m2, m3, m4⟩ := m
  refine ⟨(k 10 0 22 (by decide) (by decide) (by decide) (by decide) (by omega)).trans m1, (k 10 0 23 (by decide) (by decide) (by decide) (by decide) (by omega)).trans m2, (k 10 0 24 (by decide) (by decide) (by decide) (by decide) (by omega)).trans m3, fun p hp => ?_⟩
  rw [k 53 0 p (by decide) (by decide) (by decide) (by decide) (by omega), k 54 0 p (by decide) (by decide) (by decide) (by decide) (by omega), k 55 0 p (by decide) (by decide) (by decide) (by decide) (by omega)]
  exact m4 p hp
theorem exM {h : Hp} {sp st n v : Nat} {pl li le : Nat → Nat} (hs : SV sp st n pl li le) (m : MB h sp st n pl li le) (hv : v < 2 ^ n) (e25 : h.1 10 0 25 = nI v) (hI : MInv h) : ∃ r h', fX12_isForever h = some (r, h') ∧ MInv h' ∧ KF h h' ∧ MB h' sp st n pl li le ∧ h'.1 10 0 25 = nI v ∧ ((r = 1 ∧ EvM v sp st pl li le) ∨ (r = 0 ∧ ¬ EvM v sp st pl li le)) := by
  have hn := hs.2.2.2.1
  obtain ⟨h', r, e, m', kf, i', hc⟩ := isForever_wp (GM_VG hs hv) (m.mg hn hv e25) hI
  refine ⟨r, h', e, i', kf, m.kf kf, m'.2.2.2.1, ?_⟩
  unfold EvM
  rcases hc with ⟨hz, rfl, -⟩ | ⟨hnz, f, s, T, tf, hx⟩
  · exact Or.inl ⟨rfl, Or.inl hz⟩
  · have hT := tf.2.2 0 tf.1.2.2.1
    rw [tf.1.2.2.2.1] at hT
    rcases hx with ⟨a1, a2⟩ | ⟨a1, a2⟩
    · exact Or.inl ⟨a2, Or.inr (hT.1 a1)⟩
    · refine Or.inr ⟨a2, fun q => q.elim hnz (fun w => ?_)⟩
      cases hq : T 0 with
      | none => exact a1 hq
      | some u => exact (hT.2 u hq).1.not_ev w
theorem MH.mb {h : Hp} {sp st n : Nat} {pl li le : Nat → Nat} (m : MH h sp st n pl li le) : MB h sp st n pl li le := ⟨m.1, m.2.1, m.2.2.1, m.2.2.2.2⟩
/-! the first of a row of trials; trials as bits -/
def FST (P : Nat → Prop) (lo hi : Nat) (r : Int32) : Prop := (∃ v, lo ≤ v ∧ v < hi ∧ r = nI v ∧ P v ∧ ∀ u, lo ≤ u → u < v → ¬ P u) ∨ (r = -1 ∧ ∀ u, lo ≤ u → u < hi → ¬ P u)
theorem FST.uniq {P : Nat → Prop} {lo hi : Nat} {r r' : Int32} (a : FST P lo hi r) (b : FST P lo hi r') : r = r' := by
  rcases a with ⟨v, a1, a2, rfl, a4, a5⟩ | ⟨rfl, a1⟩
  · rcases b with ⟨w, b1, b2, rfl, b4, b5⟩ | ⟨rfl, b1⟩
    · rcases Nat.lt_trichotomy v w with z | z | z
      · exact absurd a4 (b5 v a1 z)
      · rw [z]
      · exact absurd b4 (a5 w b1 z)
    · exact absurd a4 (b1 v a1 a2)
  · rcases b with ⟨w, b1, b2, rfl, b4, b5⟩ | ⟨rfl, b1⟩
    · exact absurd b4 (a1 w b1 b2)
    · rfl
def BTs (P : Nat → Prop) : Nat → Nat → Prop
  | 0, b => b = 0
  | k + 1, b => ∃ b', BTs P k b' ∧ ((P k ∧ b = b' + 2 ^ k) ∨ (¬ P k ∧ b = b'))
theorem BTs.uniq {P : Nat → Prop} : ∀ k b b', BTs P k b → BTs P k b' → b = b' := by
  intro k
  induction k with
  | zero => intro b b' h1 h2; exact (show b = 0 from h1).trans (show b' = 0 from h2).symm
  | succ k ih =>
    rintro b b' ⟨c, h1, h2⟩ ⟨c', h3, h4⟩
    have := ih c c' h1 h3
    subst this
    rcases h2 with ⟨p, rfl⟩ | ⟨p, rfl⟩
    · rcases h4 with ⟨q, rfl⟩ | ⟨q, rfl⟩
      · rfl
      · exact absurd p q
    · rcases h4 with ⟨q, rfl⟩ | ⟨q, rfl⟩
      · exact absurd q p
      · rfl
theorem BTs.lt {P : Nat → Prop} : ∀ k b, BTs P k b → b < 2 ^ k := by
  intro k
  induction k with
  | zero => intro b h; rw [show b = 0 from h]; decide
  | succ k ih =>
    rintro b ⟨c, h1, h2⟩
    have := ih c h1
    rw [Nat.pow_succ]
    rcases h2 with ⟨-, rfl⟩ | ⟨-, rfl⟩ <;> omega
theorem orB_eq {b k : Nat} (hb : b < 2 ^ k) (hk : k ≤ 24) : nI b ||| ((1 : Int32) <<< (nI k &&& 31)) = nI (b + 2 ^ k) := by
  rw [show (1 : Int32) = nI 1 from rfl, nI_shl hk, nI_or, Nat.one_mul]
  have := Nat.two_pow_add_eq_or_of_lt (i := k) hb 1
  rw [Nat.mul_one] at this
  rw [Nat.or_comm, ← this, Nat.add_comm]
def KZ (h h' : Hp) : Prop := ∀ k s i, ¬ (11 ≤ k ∧ k ≤ 18) → ¬ (k = 0 ∧ 1 ≤ i ∧ i ≤ 3) → ¬ ((k = 6 ∨ k = 33 ∨ k = 34 ∨ k = 35) ∧ (s = 10 ∨ s = 11)) → h'.1 k s i = h.1 k s i
theorem KY.kz {h h' : Hp} (a : KY h h') : KZ h h' := fun k s i u1 u2 u3 => a k s i u1 u2 (by omega)
theorem KZ.trans {h h1 h2 : Hp} (a : KZ h h1) (b : KZ h1 h2) : KZ h h2 := fun k s i u1 u2 u3 => (b k s i u1 u2 u3).trans (a k s i u1 u2 u3)
theorem CSt.kz {h h' : Hp} {j sp st n : Nat} {pl li le : Nat → Nat} (k : KZ h h') (hj : j < 10) (c : CSt h j sp st n pl li le) : CSt h' j sp st n pl li le := c.cp (fun q i hq => k q j i (by omega) (by omega) (by omega))
theorem CSt.ky {h h' : Hp} {j sp st n : Nat} {pl li le : Nat → Nat} (k : KY h h') (hj : j ≠ 10) (c : CSt h j sp st n pl li le) : CSt h' j sp st n pl li le := c.cp (fun q i hq => k q j i (by omega) (by omega) (by omega))
/-- writing to the stage of trials is nothing to the keeper -/
theorem KIv.t11 {h h' : Hp} (e : ∀ k s i, ¬ ((k = 6 ∨ k = 33 ∨ k = 34 ∨ k = 35) ∧ s = 11) → h'.1 k s i = h.1 k s i) (w : KIv h) : KIv h' := w.sk (fun k i _ => e k 0 i (by omega)) (fun k i _ => e k 10 i (by omega))
theorem copy11 {h : Hp} {j sp st n : Nat} {pl li le : Nat → Nat} (hj : j < 10) (hn : n ≤ 5) (c : CSt h j sp st n pl li le) (hk : KIv h) : ∃ h', fX8_copyFrom 11 j h = some ((), h') ∧ CSt h' 11 sp st n pl li le ∧ KIv h' ∧ KZ h h' := by
  obtain ⟨h', e, o⟩ := cp8 (a := 11) (b := j) h (by decide) (show j < 12 by omega) (by omega)
  refine ⟨h', e, ?_, hk.t11 (fun k s i u => by rw [o, if_neg (by omega)]), fun k s i u1 u2 u3 => by rw [o, if_neg (by omega)]⟩
  obtain ⟨q1, q2, q3, q4⟩ := c
  refine ⟨?_, ?_, ?_, fun p hp => ?_⟩
  · rw [o, if_pos (by omega)]; exact q1
  · rw [o, if_pos (by omega)]; exact q2
  · rw [o, if_pos (by omega)]; exact q3
  · rw [o, o, o, if_pos (by omega), if_pos (by omega), if_pos (by omega)]; exact q4 p hp
