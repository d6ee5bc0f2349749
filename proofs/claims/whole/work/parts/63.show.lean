/-! THE SHOW MACHINE, pure: left, life, spunBy, and spot beats fell spun vain ways calm longest worst (gusts) -/
def wayN (sp a b : Nat) : Nat := ((if a < b then b - a else a - b) + sp - 1) / sp
abbrev PW : Type := (Nat → Nat) × (Nat → Nat) × (Nat → Nat) × (Nat → Nat)
def updN (f : Nat → Nat) (p v : Nat) : Nat → Nat := fun q => if q = p then v else f q
def btL (n b : Nat) (L : Nat → Nat) : Nat → Nat := fun p => if p < n ∧ p ≠ b then L p - 1 else L p
def btF (b : Nat) (L : Nat → Nat) : Nat → Nat
  | 0 => 0
  | k + 1 => btF b L k + (if k ≠ b ∧ L k = 1 then 1 else 0)
/-- which plates stand, as bits -/
def sbN (L : Nat → Nat) : Nat → Nat
  | 0 => 0
  | k + 1 => sbN L k + (if 0 < L k then 2 ^ k else 0)
/-- the numbers behind a beat; from 100 on: who stood, beat by beat -/
def btC (f bits : Nat) (c : Nat → Nat) : Nat → Nat := fun j => if 100 ≤ j then (if j = 101 + c 1 then bits else c j) else if j = 1 then c 1 + 1 else if j = 2 then c 2 + f else if j = 6 then (if f = 0 then c 6 + 1 else 0) else if j = 7 then max (c 7) (if f = 0 then c 6 + 1 else 0) else if j = 8 then max (c 8) f else c j
def bt1 (n b : Nat) (x : PW) : PW := (btL n b x.1, x.2.1, x.2.2.1, btC (btF b x.1 n) (sbN (btL n b x.1) n) x.2.2.2)
def btk (n : Nat) : Nat → PW → PW
  | 0, x => x
  | k + 1, x => btk n k (bt1 n 9 x)
def bI (b : Nat) : Int32 := if b = 9 then -1 else nI b
def VP (n sp : Nat) (pl : Nat → Nat) : Prop := n ≤ 5 ∧ 1 ≤ sp ∧ sp ≤ 9 ∧ ∀ p, p < n → pl p ≤ 9
def VX (n : Nat) (x : PW) : Prop := (∀ p, p < n → x.1 p ≤ 6 ∧ 1 ≤ x.2.1 p ∧ x.2.1 p ≤ 6 ∧ x.2.2.1 p ≤ x.2.2.2 1) ∧ x.2.2.2 0 ≤ 9 ∧ x.2.2.2 1 ≤ 200 ∧ x.2.2.2 6 ≤ x.2.2.2 1 ∧ x.2.2.2 7 ≤ x.2.2.2 1 ∧ x.2.2.2 8 ≤ 5 ∧ x.2.2.2 2 ≤ 5 * x.2.2.2 1 + x.2.2.2 9 ∧ x.2.2.2 9 ≤ 100
def CS (h : Hp) (n sp : Nat) (pl : Nat → Nat) (x : PW) : Prop := h.1 6 9 0 = nI sp ∧ h.1 6 9 2 = nI n ∧ (∀ p, p < n → h.1 33 9 p = nI (pl p) ∧ h.1 34 9 p = nI (x.2.1 p) ∧ h.1 35 9 p = nI (x.1 p) ∧ h.1 24 0 p = nI (x.2.2.1 p)) ∧
  h.1 2 0 2 = nI (x.2.2.2 0) ∧ h.1 2 0 3 = nI (x.2.2.2 1) ∧ h.1 2 0 4 = nI (x.2.2.2 2) ∧ h.1 2 0 5 = nI (x.2.2.2 3) ∧ h.1 2 0 9 = nI (x.2.2.2 4) ∧ h.1 2 0 11 = nI (x.2.2.2 5) ∧ h.1 2 0 6 = nI (x.2.2.2 6) ∧ h.1 2 0 10 = nI (x.2.2.2 7) ∧ h.1 2 0 12 = nI (x.2.2.2 8)
def MS (h : Hp) (n sp : Nat) (pl : Nat → Nat) (x : PW) : Prop := h.1 10 0 23 = nI sp ∧ h.1 10 0 22 = nI n ∧ (∀ p, p < n → h.1 53 0 p = nI (pl p) ∧ h.1 54 0 p = nI (x.2.1 p) ∧ h.1 63 0 p = nI (x.1 p) ∧ h.1 56 0 p = nI (x.2.2.1 p)) ∧
  h.1 10 0 29 = nI (x.2.2.2 0) ∧ h.1 10 0 30 = nI (x.2.2.2 1) ∧ h.1 10 0 31 = nI (x.2.2.2 2) ∧ h.1 10 0 32 = nI (x.2.2.2 3) ∧ h.1 10 0 33 = nI (x.2.2.2 4) ∧ h.1 10 0 34 = nI (x.2.2.2 5) ∧ h.1 10 0 35 = nI (x.2.2.2 6) ∧ h.1 10 0 36 = nI (x.2.2.2 7) ∧ h.1 10 0 37 = nI (x.2.2.2 8) ∧ ∀ t, t ≤ x.2.2.2 1 → t < 64 → h.1 57 0 t = nI (x.2.2.2 (100 + t))
theorem btF_le (b : Nat) (L : Nat → Nat) : ∀ k, btF b L k ≤ k := by
  intro k
  induction k with
  | zero => exact Nat.le_refl _
  | succ k ih => unfold btF; split <;> omega
theorem bt1_VX {n b : Nat} {x : PW} (hn : n ≤ 5) (hx : VX n x) (h1 : x.2.2.2 1 < 200) : VX n (bt1 n b x) := by
  obtain ⟨v1, v2, v3, v4, v5, v6, v7, v8⟩ := hx
  have hf := btF_le b x.1 n
  refine ⟨fun p hp => ?_, v2, ?_, ?_, ?_, ?_, ?_, v8⟩
  · obtain ⟨a1, a2, a3, a4⟩ := v1 p hp
    refine ⟨?_, a2, a3, ?_⟩
    · show (if p < n ∧ p ≠ b then x.1 p - 1 else x.1 p) ≤ 6
      split <;> omega
    · show x.2.2.1 p ≤ x.2.2.2 1 + 1
      omega
  · show x.2.2.2 1 + 1 ≤ 200
    omega
  · show (if btF b x.1 n = 0 then x.2.2.2 6 + 1 else 0) ≤ x.2.2.2 1 + 1
    split <;> omega
  · show max (x.2.2.2 7) (if btF b x.1 n = 0 then x.2.2.2 6 + 1 else 0) ≤ x.2.2.2 1 + 1
    split <;> omega
  · show max (x.2.2.2 8) (btF b x.1 n) ≤ 5
    omega
  · show x.2.2.2 2 + btF b x.1 n ≤ 5 * (x.2.2.2 1 + 1) + x.2.2.2 9
    omega
theorem btk_beats (n : Nat) : ∀ k x, (btk n k x).2.2.2 1 = x.2.2.2 1 + k := by
  intro k
  induction k with
  | zero => intro x; rfl
  | succ k ih => intro x; show (btk n k (bt1 n 9 x)).2.2.2 1 = _; rw [ih]; show x.2.2.2 1 + 1 + k = _; omega
theorem btk_VX {n : Nat} (hn : n ≤ 5) : ∀ k x, VX n x → x.2.2.2 1 + k ≤ 200 → VX n (btk n k x) := by
  intro k
  induction k with
  | zero => intro x hx _; exact hx
  | succ k ih => intro x hx hk; exact ih _ (bt1_VX hn hx (by omega)) (by show x.2.2.2 1 + 1 + k ≤ 200; omega)
theorem ra_wa {h : Hp} {k s : Nat} {i v : Int32} : ra (wa h k s i v) k s i = v := by rw [ra_g, wa_g, if_pos ⟨rfl, rfl, rfl⟩]
theorem maxI {a b : Nat} (ha : a < 2 ^ 31) (hb : b < 2 ^ 31) : (if nI a < nI b then nI b else nI a) = nI (max a b) := by
  by_cases h : a < b
  · rw [if_pos (nI_lt h hb), Nat.max_eq_right (by omega)]
  · rw [if_neg (fun q => h ((lt_n ha hb).mp q)), Nat.max_eq_left (by omega)]
theorem maxI' {a b : Nat} (ha : a < 2 ^ 31) (hb : b < 2 ^ 31) (h : Hp) : fX12_greater (nI a) (nI b) h = some (nI (max a b), h) := by
  unfold fX12_greater
  by_cases q : a ≤ b
  · rw [if_pos (nI_le q hb), Nat.max_eq_right q]
  · rw [if_neg (fun w => q ((le_n ha hb).mp w)), Nat.max_eq_left (by omega)]
theorem bI_eq {i b : Nat} (hi : i < 5) (hb : b < 5 ∨ b = 9) : (nI i = bI b) ↔ i = b := by
  unfold bI
  by_cases h9 : b = 9
  · rw [if_pos h9]
    constructor
    · intro q; exact absurd q.symm (neg_ne (by omega))
    · omega
  · rw [if_neg h9]
    exact eq_n (by omega) (by omega)
theorem le0_n {a : Nat} (ha : a < 2 ^ 31) : (nI a ≤ 0) ↔ a = 0 := by
  rw [show (0 : Int32) = nI 0 from rfl, le_n ha (by decide)]
  omega
theorem eq0_n {a : Nat} (ha : a < 2 ^ 31) : (nI a = 0) ↔ a = 0 := eq_n (b := 0) ha (by decide)
/-- the class passes a beat -/
theorem passBeat_wp {h : Hp} {n sp b : Nat} {pl : Nat → Nat} {x : PW} (hp : VP n sp pl) (hx : VX n x) (cs : CS h n sp pl x) (hb : b < 5 ∨ b = 9) : WP (fX4_passBeat (bI b) h) (fun _ h' => CS h' n sp pl (bt1 n b x)) := by
  obtain ⟨c1, c2, c3, d2, d3, d4, d5, d9, d11, d6, d10, d12⟩ := cs
  obtain ⟨v1, v2, v3, v4, v5, v6, v7, v8⟩ := hx
  have hn : n ≤ 5 := hp.1
  have m9 : 9 % cnt 35 = 9 := rfl
  unfold fX4_passBeat
  refine wp_for2 n (fun i a h' => a = nI (btF b x.1 i) ∧ (∀ p, p < n → h'.1 35 9 p = nI (if p < i ∧ p ≠ b then x.1 p - 1 else x.1 p)) ∧ ∀ k s j, k ≠ 35 → h'.1 k s j = h.1 k s j) ?_ ?_ FU 0 h (i0 := 0) (by omega) (FUb (by omega)) ⟨rfl, fun p hp => by rw [if_neg (by omega)]; exact (c3 p hp).2.2.1, fun _ _ _ _ => rfl⟩
  · rintro i a h1 rec hi ⟨rfl, e1, e2⟩ hrec
    unfold fX4_passBeat_l4
    have q2 : rd h1 6 9 2 = nI n := (e2 6 9 2 (by decide)).trans c2
    have q35 : ra h1 35 9 (nI i) = nI (x.1 i) := by rw [ra_n (by omega), m9, e1 i hi, if_neg (by omega)]
    have hL := (v1 i hi).1
    have hib : ib (nI i) 5 = true := ib_nI (by omega) (by decide)
    rw [q2, if_neg (fun q => nI_ge hi (by omega) q), jn_eq]
    by_cases hib' : i = b
    · rw [if_pos ((bI_eq (by omega) hb).mpr hib')]
      dsimp only
      rw [lt_eq, nI_1]
      refine hrec _ _ ⟨?_, fun p hp' => ?_, e2⟩
      · show _ = nI (btF b x.1 i + _)
        rw [if_neg (by omega)]; rfl
      · rw [e1 p hp']
        by_cases hpi : p = i
        · rw [if_neg (by omega), if_neg (by omega)]
        · by_cases hlt : p < i
          · by_cases hpb : p = b
            · rw [if_neg (by omega), if_neg (by omega)]
            · rw [if_pos (by omega), if_pos (by omega)]
          · rw [if_neg (by omega), if_neg (by omega)]
    · rw [if_neg (fun q => hib' ((bI_eq (by omega) hb).mp q)), ck_p hib, q35]
      by_cases h0 : x.1 i = 0
      · rw [if_pos ((le0_n (by omega)).mpr h0)]
        dsimp only
        rw [lt_eq, nI_1]
        refine hrec _ _ ⟨?_, fun p hp' => ?_, e2⟩
        · show _ = nI (btF b x.1 i + _)
          rw [if_neg (by omega)]; rfl
        · rw [e1 p hp']
          by_cases hpi : p = i
          · subst hpi
            rw [if_neg (by omega), if_pos (by omega), h0]
          · by_cases hlt : p < i
            · by_cases hpb : p = b
              · rw [if_neg (by omega), if_neg (by omega)]
              · rw [if_pos (by omega), if_pos (by omega)]
            · rw [if_neg (by omega), if_neg (by omega)]
      · rw [if_neg (fun q => h0 ((le0_n (by omega)).mp q)), ck_p hib, ck_p hib, lt_eq, ck_p hib, ra_wa, show nI (x.1 i) - (1 : Int32) = nI (x.1 i - 1) from nI_sub (b := 1) (by omega)]
        have fin : ∀ a', a' = nI (btF b x.1 (i + 1)) → WP (rec a' (nI (i + 1)) (wa h1 35 9 (nI i) (nI (x.1 i - 1)))) (fun _ h' => CS h' n sp pl (bt1 n b x)) := by
          intro a' ha'
          refine hrec _ _ ⟨ha', fun p hp' => ?_, fun k s j hk => ?_⟩
          · rw [wa_g, nI_clamp (by omega), m9]
            by_cases hpi : p = i
            · subst hpi
              rw [if_pos ⟨rfl, rfl, rfl⟩, if_pos (by omega)]
            · rw [if_neg (by omega), e1 p hp']
              by_cases hlt : p < i
              · by_cases hpb : p = b
                · rw [if_neg (by omega), if_neg (by omega)]
                · rw [if_pos (by omega), if_pos (by omega)]
              · rw [if_neg (by omega), if_neg (by omega)]
          · rw [wa_g, if_neg (by omega)]; exact e2 k s j hk
        by_cases h1' : x.1 i = 1
        · rw [if_pos ((eq0_n (by omega)).mpr (by omega)), lt_eq]
          dsimp only
          rw [lt_eq, nI_1, nI_1]
          exact fin _ (by show _ = nI (btF b x.1 i + _); rw [if_pos ⟨hib', h1'⟩])
        · rw [if_neg (fun q => h1' (by have := (eq0_n (by omega)).mp q; omega))]
          dsimp only
          rw [lt_eq, nI_1]
          exact fin _ (by show _ = nI (btF b x.1 i + _); rw [if_neg (fun q => h1' q.2)]; rfl)
  · rintro a h1 rec ⟨rfl, e1, e2⟩
    have hf := btF_le b x.1 n
    unfold fX4_passBeat_l4
    have q2 : rd h1 6 9 2 = nI n := (e2 6 9 2 (by decide)).trans c2
    rw [q2, if_pos (nI_le (Nat.le_refl n) (by omega))]
    have s3 : rd h1 2 0 3 = nI (x.2.2.2 1) := (e2 2 0 3 (by decide)).trans d3
    have s4 : h1.1 2 0 4 = nI (x.2.2.2 2) := (e2 2 0 4 (by decide)).trans d4
    have s12 : h1.1 2 0 12 = nI (x.2.2.2 8) := (e2 2 0 12 (by decide)).trans d12
    have s6 : h1.1 2 0 6 = nI (x.2.2.2 6) := (e2 2 0 6 (by decide)).trans d6
    have s10 : h1.1 2 0 10 = nI (x.2.2.2 7) := (e2 2 0 10 (by decide)).trans d10
    dsimp only
    rw [lt_eq, lt_eq, lt_eq, lt_eq, jn_eq, s3, nI_1]
    have r4 : rd (wr h1 2 0 3 (nI (x.2.2.2 1 + 1))) 2 0 4 = nI (x.2.2.2 2) := s4
    rw [r4, nI_add]
    have r12 : rd (wr (wr h1 2 0 3 (nI (x.2.2.2 1 + 1))) 2 0 4 (nI (x.2.2.2 2 + btF b x.1 n))) 2 0 12 = nI (x.2.2.2 8) := s12
    rw [r12, maxI (by omega) (by omega)]
    have fin : ∀ z, z = nI (if btF b x.1 n = 0 then x.2.2.2 6 + 1 else 0) → WP (lt (wr (wr (wr (wr h1 2 0 3 (nI (x.2.2.2 1 + 1))) 2 0 4 (nI (x.2.2.2 2 + btF b x.1 n))) 2 0 12 (nI (max (x.2.2.2 8) (btF b x.1 n)))) 2 0 6 z) fun h14 =>
        lt (if (rd h14 2 0 10) < (rd h14 2 0 6) then (rd h14 2 0 6) else (rd h14 2 0 10)) fun x15 =>
        lt (wr h14 2 0 10 x15) fun h16 => some ((), h16)) (fun _ h' => CS h' n sp pl (bt1 n b x)) := by
      rintro z rfl
      rw [lt_eq, lt_eq, lt_eq]
      have r10 : rd (wr (wr (wr (wr h1 2 0 3 (nI (x.2.2.2 1 + 1))) 2 0 4 (nI (x.2.2.2 2 + btF b x.1 n))) 2 0 12 (nI (max (x.2.2.2 8) (btF b x.1 n)))) 2 0 6 (nI (if btF b x.1 n = 0 then x.2.2.2 6 + 1 else 0))) 2 0 10 = nI (x.2.2.2 7) := s10
      have r6 : rd (wr (wr (wr (wr h1 2 0 3 (nI (x.2.2.2 1 + 1))) 2 0 4 (nI (x.2.2.2 2 + btF b x.1 n))) 2 0 12 (nI (max (x.2.2.2 8) (btF b x.1 n)))) 2 0 6 (nI (if btF b x.1 n = 0 then x.2.2.2 6 + 1 else 0))) 2 0 6 = nI (if btF b x.1 n = 0 then x.2.2.2 6 + 1 else 0) := rfl
      rw [r10, r6, maxI (by omega) (by split <;> omega)]
      refine wp_some ⟨(e2 6 9 0 (by decide)).trans c1, q2, fun p hp' => ⟨(e2 33 9 p (by decide)).trans (c3 p hp').1, (e2 34 9 p (by decide)).trans (c3 p hp').2.1, e1 p hp', (e2 24 0 p (by decide)).trans (c3 p hp').2.2.2⟩, (e2 2 0 2 (by decide)).trans d2, rfl, rfl, (e2 2 0 5 (by decide)).trans d5, (e2 2 0 9 (by decide)).trans d9, (e2 2 0 11 (by decide)).trans d11, rfl, rfl, rfl⟩
    by_cases h0 : btF b x.1 n = 0
    · rw [if_pos ((eq0_n (by omega)).mpr h0)]
      have r6 : rd (wr (wr (wr h1 2 0 3 (nI (x.2.2.2 1 + 1))) 2 0 4 (nI (x.2.2.2 2 + btF b x.1 n))) 2 0 12 (nI (max (x.2.2.2 8) (btF b x.1 n)))) 2 0 6 = nI (x.2.2.2 6) := s6
      rw [r6, nI_1]
      exact fin _ (by rw [if_pos h0])
    · rw [if_neg (fun q => h0 ((eq0_n (by omega)).mp q))]
      exact fin _ (by rw [if_neg h0]; rfl)
