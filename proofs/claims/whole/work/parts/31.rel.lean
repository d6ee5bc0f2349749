/-! THE RELATION between the class's flat heap and the reference's -/
def SV (sp st n : Nat) (pl li le : Nat → Nat) : Prop := 1 ≤ sp ∧ sp ≤ 9 ∧ st ≤ 9 ∧ n ≤ 5 ∧ ∀ p, p < n → pl p ≤ 9 ∧ 1 ≤ li p ∧ li p ≤ 6 ∧ 1 ≤ le p ∧ le p ≤ li p
def CSt (h : Hp) (s sp st n : Nat) (pl li le : Nat → Nat) : Prop := h.1 6 s 0 = nI sp ∧ h.1 6 s 1 = nI st ∧ h.1 6 s 2 = nI n ∧ ∀ p, p < n → h.1 33 s p = nI (pl p) ∧ h.1 34 s p = nI (li p) ∧ h.1 35 s p = nI (le p)
def MSt (h : Hp) (o sp st n : Nat) (pl li le : Nat → Nat) : Prop := h.1 48 0 (18 * o) = nI sp ∧ h.1 48 0 (18 * o + 1) = nI st ∧ h.1 48 0 (18 * o + 2) = nI n ∧ ∀ p, p < n → h.1 48 0 (18 * o + 3 + p) = nI (pl p) ∧ h.1 48 0 (18 * o + 8 + p) = nI (li p) ∧ h.1 48 0 (18 * o + 13 + p) = nI (le p)
def StRel (hC hM : Hp) (s : Nat) : Prop := ∃ sp st n pl li le, SV sp st n pl li le ∧ CSt hC s sp st n pl li le ∧ MSt hM s sp st n pl li le
def HV (n : Nat) (kd : Nat → Nat) (pt : Nat → Int32) : Prop := n ≤ 40 ∧ ∀ k, k < n → (kd k = 0 ∧ pt k = -1) ∨ (1 ≤ kd k ∧ kd k ≤ 4 ∧ ∃ q, q < 5 ∧ pt k = nI q)
def CSh (h : Hp) (s n : Nat) (kd : Nat → Nat) (pt : Nat → Int32) : Prop := h.1 5 s 0 = nI n ∧ ∀ k, k < n → h.1 31 s k = nI (kd k) ∧ h.1 32 s k = pt k
def MSh (h : Hp) (o n : Nat) (kd : Nat → Nat) (pt : Nat → Int32) : Prop := h.1 49 0 (81 * o) = nI n ∧ ∀ k, k < n → h.1 49 0 (81 * o + 1 + 2 * k) = nI (kd k) ∧ h.1 49 0 (81 * o + 2 + 2 * k) = pt k
def ShRel (hC hM : Hp) (s : Nat) : Prop := ∃ n kd pt, HV n kd pt ∧ CSh hC s n kd pt ∧ MSh hM s n kd pt
def GV (r n : Nat) (sd pt bt : Nat → Nat) : Prop := r ≤ 4 ∧ n ≤ 8 ∧ ∀ k, k < n → sd k ≤ 1 ∧ pt k ≤ 4 ∧ bt k ≤ 30
def CLg (h : Hp) (s r n : Nat) (sd pt bt : Nat → Nat) : Prop := h.1 1 s 0 = nI r ∧ h.1 1 s 1 = nI n ∧ ∀ k, k < n → h.1 21 s k = nI (sd k) ∧ h.1 22 s k = nI (pt k) ∧ h.1 23 s k = nI (bt k)
def MLg (h : Hp) (o r n : Nat) (sd pt bt : Nat → Nat) : Prop := h.1 50 0 (26 * o) = nI r ∧ h.1 50 0 (26 * o + 1) = nI n ∧ ∀ k, k < n → h.1 50 0 (26 * o + 2 + 3 * k) = nI (sd k) ∧ h.1 50 0 (26 * o + 3 + 3 * k) = nI (pt k) ∧ h.1 50 0 (26 * o + 4 + 3 * k) = nI (bt k)
def LgRel (hC hM : Hp) (s : Nat) : Prop := ∃ r n sd pt bt, GV r n sd pt bt ∧ CLg hC s r n sd pt bt ∧ MLg hM s r n sd pt bt
/-- all that is told, number t (0: now; 1, 2, 3: images) -/
def TRel (hC hM : Hp) (t : Nat) : Prop :=
  (∀ j, j < 600 → hC.1 36 t j = hM.1 43 0 (600 * t + j) ∧ fits .byte (.int (hC.1 36 t j)) = true) ∧
  (∃ n, n ≤ 600 ∧ hC.1 7 t 1 = nI n ∧ hM.1 44 0 t = nI n) ∧ hC.1 7 t 2 = hM.1 45 0 t ∧ hC.1 7 t 3 = hM.1 46 0 t ∧
  ∃ c0 c1 c2 : Nat, (c0 ≤ 2 ∧ c1 ≤ 2 ∧ c2 ≤ 2) ∧ (hC.1 37 t 0 = nI c0 ∧ hC.1 37 t 1 = nI c1 ∧ hC.1 37 t 2 = nI c2) ∧ (hM.1 47 0 (3 * t) = nI c0 ∧ hM.1 47 0 (3 * t + 1) = nI c1 ∧ hM.1 47 0 (3 * t + 2) = nI c2) ∧
    (∀ k, k < c0 → StRel hC hM (2 * t + k)) ∧ (∀ k, k < c1 → ShRel hC hM (2 * t + k)) ∧ (∀ k, k < c2 → LgRel hC hM (2 * t + k))
/-- the reference's list of stands: numbers stand only where its list says -/
def MInv (h : Hp) : Prop := ∃ f, f ≤ 46656 ∧ h.1 10 0 46 = nI f ∧ (∀ i, i < f → ∃ c, c < 46656 ∧ h.1 58 0 i = nI c) ∧ ∀ c, c < 46656 → h.1 59 0 c ≠ 0 → ∃ i, i < f ∧ h.1 58 0 i = nI c
def Rel (KI : Hp → Prop) (hC hM : Hp) : Prop :=
  TRel hC hM 0 ∧ (∀ k, k < 3 → ∃ f, f ≤ 1 ∧ hC.1 42 0 k = nI f ∧ hM.1 67 0 k = nI f ∧ (f = 1 → TRel hC hM (k + 1))) ∧ KI hC ∧ MInv hM
/-! frames against the relation -/
def ctb (k s : Nat) : Bool := k == 7 || k == 36 || k == 37 || k == 42 || ((k == 6 || k == 33 || k == 34 || k == 35 || k == 5 || k == 31 || k == 32 || k == 1 || k == 21 || k == 22 || k == 23) && decide (s < 8))
def mtb (k : Nat) : Bool := (decide (43 ≤ k) && decide (k ≤ 50)) || k == 67
def kkb (k s : Nat) : Bool := k == 0 || (decide (11 ≤ k) && decide (k ≤ 20)) || ((k == 6 || k == 33 || k == 34 || k == 35) && s == 10)
def chkC (L : List FE) : Bool := L.all fun q => match q.2.1 with
  | some s => !ctb q.1 s
  | none => false
def chkK (L : List FE) : Bool := L.all fun q => match q.2.1 with
  | some s => !kkb q.1 s
  | none => false
def chkM (L : List FE) : Bool := L.all fun q => !mtb q.1
def chkI (L : List FE) : Bool := L.all fun q => !(q.1 == 58) && !(q.1 == 59) && !(q.1 == 10 && (q.2.2 == none || q.2.2 == some 46))
def SameC (h h' : Hp) : Prop := ∀ k s i, ctb k s = true → h'.1 k s i = h.1 k s i
def SameM (h h' : Hp) : Prop := ∀ k s i, mtb k = true → h'.1 k s i = h.1 k s i
def SameK (h h' : Hp) : Prop := ∀ k s i, kkb k s = true → h'.1 k s i = h.1 k s i
theorem Fr.sameC {L : List FE} {h h' : Hp} (f : Fr L h h') (hc : chkC L = true) : SameC h h' := by
  intro k s i hk
  refine f k s i (fun q hq hcov => ?_)
  have h1 := List.all_eq_true.mp hc q hq
  obtain ⟨c1, c2, -⟩ := hcov
  cases hs : q.2.1 with
  | none => rw [hs] at h1; cases h1
  | some s0 =>
    rw [hs] at h1 c2
    rcases c2 with c2 | c2
    · cases c2
    · cases c2
      rw [c1] at h1
      simp only [hk] at h1
      cases h1
theorem Fr.sameK {L : List FE} {h h' : Hp} (f : Fr L h h') (hc : chkK L = true) : SameK h h' := by
  intro k s i hk
  refine f k s i (fun q hq hcov => ?_)
  have h1 := List.all_eq_true.mp hc q hq
  obtain ⟨c1, c2, -⟩ := hcov
  cases hs : q.2.1 with
  | none => rw [hs] at h1; cases h1
  | some s0 =>
    rw [hs] at h1 c2
    rcases c2 with c2 | c2
    · cases c2
    · cases c2
      rw [c1] at h1
      simp only [hk] at h1
      cases h1
theorem Fr.sameM {L : List FE} {h h' : Hp} (f : Fr L h h') (hc : chkM L = true) : SameM h h' := by
  intro k s i hk
  refine f k s i (fun q hq hcov => ?_)
  have h1 := List.all_eq_true.mp hc q hq
  obtain ⟨c1, -, -⟩ := hcov
  simp only [c1, hk] at h1
  cases h1
theorem Fr.sameI {L : List FE} {h h' : Hp} (f : Fr L h h') (hc : chkI L = true) : (∀ i, h'.1 58 0 i = h.1 58 0 i) ∧ (∀ i, h'.1 59 0 i = h.1 59 0 i) ∧ h'.1 10 0 46 = h.1 10 0 46 := by
  refine ⟨fun i => f 58 0 i (fun q hq hcov => ?_), fun i => f 59 0 i (fun q hq hcov => ?_), f 10 0 46 (fun q hq hcov => ?_)⟩
  · have h1 := List.all_eq_true.mp hc q hq
    obtain ⟨c1, -, -⟩ := hcov
    simp [c1] at h1
  · have h1 := List.all_eq_true.mp hc q hq
    obtain ⟨c1, -, -⟩ := hcov
    simp [c1] at h1
  · have h1 := List.all_eq_true.mp hc q hq
    obtain ⟨c1, -, c3⟩ := hcov
    rcases c3 with c3 | c3 <;> simp [c1, c3] at h1
theorem MInv.same {h h' : Hp} (hm : MInv h) (e : (∀ i, h'.1 58 0 i = h.1 58 0 i) ∧ (∀ i, h'.1 59 0 i = h.1 59 0 i) ∧ h'.1 10 0 46 = h.1 10 0 46) : MInv h' := by
  obtain ⟨f, h1, h2, h3, h4⟩ := hm
  refine ⟨f, h1, by rw [e.2.2]; exact h2, fun i hi => by rw [e.1]; exact h3 i hi, fun c hc hne => ?_⟩
  rw [e.2.1] at hne
  obtain ⟨i, hi, hh⟩ := h4 c hc hne
  exact ⟨i, hi, by rw [e.1]; exact hh⟩
theorem StRel.same {hC hM hC' hM' : Hp} {s : Nat} (hs : s < 8) (eC : SameC hC hC') (eM : SameM hM hM') (h : StRel hC hM s) : StRel hC' hM' s := by
  obtain ⟨sp, st, n, pl, li, le, hv, ⟨c1, c2, c3, c4⟩, ⟨m1, m2, m3, m4⟩⟩ := h
  have b6 : ctb 6 s = true := by simp [ctb, hs]
  have b33 : ctb 33 s = true := by simp [ctb, hs]
  have b34 : ctb 34 s = true := by simp [ctb, hs]
  have b35 : ctb 35 s = true := by simp [ctb, hs]
  refine ⟨sp, st, n, pl, li, le, hv, ⟨by rw [eC _ _ _ b6]; exact c1, by rw [eC _ _ _ b6]; exact c2, by rw [eC _ _ _ b6]; exact c3, fun p hp => ?_⟩, ⟨by rw [eM 48 _ _ rfl]; exact m1, by rw [eM 48 _ _ rfl]; exact m2, by rw [eM 48 _ _ rfl]; exact m3, fun p hp => ?_⟩⟩
  · rw [eC _ _ _ b33, eC _ _ _ b34, eC _ _ _ b35]; exact c4 p hp
  · rw [eM 48 _ _ rfl, eM 48 _ _ rfl, eM 48 _ _ rfl]; exact m4 p hp
theorem ShRel.same {hC hM hC' hM' : Hp} {s : Nat} (hs : s < 8) (eC : SameC hC hC') (eM : SameM hM hM') (h : ShRel hC hM s) : ShRel hC' hM' s := by
  obtain ⟨n, kd, pt, hv, ⟨c1, c2⟩, ⟨m1, m2⟩⟩ := h
  have b5 : ctb 5 s = true := by simp [ctb, hs]
  have b31 : ctb 31 s = true := by simp [ctb, hs]
  have b32 : ctb 32 s = true := by simp [ctb, hs]
  refine ⟨n, kd, pt, hv, ⟨by rw [eC _ _ _ b5]; exact c1, fun p hp => ?_⟩, ⟨by rw [eM 49 _ _ rfl]; exact m1, fun p hp => ?_⟩⟩
  · rw [eC _ _ _ b31, eC _ _ _ b32]; exact c2 p hp
  · rw [eM 49 _ _ rfl, eM 49 _ _ rfl]; exact m2 p hp
theorem LgRel.same {hC hM hC' hM' : Hp} {s : Nat} (hs : s < 8) (eC : SameC hC hC') (eM : SameM hM hM') (h : LgRel hC hM s) : LgRel hC' hM' s := by
  obtain ⟨r, n, sd, pt, bt, hv, ⟨c1, c2, c3⟩, ⟨m1, m2, m3⟩⟩ := h
  have b1 : ctb 1 s = true := by simp [ctb, hs]
  have b21 : ctb 21 s = true := by simp [ctb, hs]
  have b22 : ctb 22 s = true := by simp [ctb, hs]
  have b23 : ctb 23 s = true := by simp [ctb, hs]
  refine ⟨r, n, sd, pt, bt, hv, ⟨by rw [eC _ _ _ b1]; exact c1, by rw [eC _ _ _ b1]; exact c2, fun p hp => ?_⟩, ⟨by rw [eM 50 _ _ rfl]; exact m1, by rw [eM 50 _ _ rfl]; exact m2, fun p hp => ?_⟩⟩
  · rw [eC _ _ _ b21, eC _ _ _ b22, eC _ _ _ b23]; exact c3 p hp
  · rw [eM 50 _ _ rfl, eM 50 _ _ rfl, eM 50 _ _ rfl]; exact m3 p hp
theorem TRel.same {hC hM hC' hM' : Hp} {t : Nat} (ht : t < 4) (eC : SameC hC hC') (eM : SameM hM hM') (h : TRel hC hM t) : TRel hC' hM' t := by
  obtain ⟨h1, ⟨n, h2, h3, h4⟩, h5, h6, c0, c1, c2, h7, h8, h9, h10, h11, h12⟩ := h
  refine ⟨fun j hj => ?_, ⟨n, h2, by rw [eC 7 _ _ rfl]; exact h3, by rw [eM 44 _ _ rfl]; exact h4⟩, ?_, ?_, c0, c1, c2, h7, ?_, ?_, fun k hk => (h10 k hk).same (by omega) eC eM, fun k hk => (h11 k hk).same (by omega) eC eM, fun k hk => (h12 k hk).same (by omega) eC eM⟩
  · rw [eC 36 _ _ rfl, eM 43 _ _ rfl]; exact h1 j hj
  · rw [eC 7 _ _ rfl, eM 45 _ _ rfl]; exact h5
  · rw [eC 7 _ _ rfl, eM 46 _ _ rfl]; exact h6
  · rw [eC 37 _ _ rfl, eC 37 _ _ rfl, eC 37 _ _ rfl]; exact h8
  · rw [eM 47 _ _ rfl, eM 47 _ _ rfl, eM 47 _ _ rfl]; exact h9
theorem Rel.same {KI : Hp → Prop} {hC hM hC' hM' : Hp} (eC : SameC hC hC') (eM : SameM hM hM') (hK : KI hC') (hI : MInv hM') (h : Rel KI hC hM) : Rel KI hC' hM' := by
  obtain ⟨h0, h1, -, -⟩ := h
  refine ⟨h0.same (by omega) eC eM, fun k hk => ?_, hK, hI⟩
  obtain ⟨f, f1, f2, f3, f4⟩ := h1 k hk
  exact ⟨f, f1, by rw [eC 42 _ _ rfl]; exact f2, by rw [eM 67 _ _ rfl]; exact f3, fun hf => (f4 hf).same (by omega) eC eM⟩
/-- a question that touches neither what is told nor the keeper nor the reference's stands -/
theorem stp_q {KI : Hp → Prop} (hKI : ∀ h h', SameK h h' → KI h → KI h') {fC fM : Hp → Option (Int32 × Hp)} {wC wM : List FE} (fC' : ∀ h, FrO wC h (fC h)) (fM' : ∀ h, FrO wM h (fM h)) (h1 : chkC wC = true) (h2 : chkK wC = true) (h3 : chkM wM = true) (h4 : chkI wM = true) (hv : ∀ hC hM, Rel KI hC hM → ∃ r hC1 hM1, fC hC = some (r, hC1) ∧ fM hM = some (r, hM1)) : StpO (Rel KI) fC fM := by
  intro hC hM hR
  obtain ⟨r, hC1, hM1, e1, e2⟩ := hv hC hM hR
  have g1 := fC' hC r hC1 e1
  have g2 := fM' hM r hM1 e2
  exact ⟨r, hC1, hM1, e1, e2, hR.same (g1.sameC h1) (g2.sameM h3) (hKI _ _ (g1.sameK h2) hR.2.2.1) (hR.2.2.2.same (g2.sameI h4))⟩
def KStab (KI : Hp → Prop) : Prop := ∀ h h', SameK h h' → KI h → KI h'
def covb (q : FE) (k s i : Nat) : Bool := q.1 == k && (q.2.1 == none || q.2.1 == some s) && (q.2.2 == none || q.2.2 == some i)
theorem Fr.at {L : List FE} {h h' : Hp} (f : Fr L h h') (k s i : Nat) (hb : (L.all fun q => !covb q k s i) = true) : h'.1 k s i = h.1 k s i := by
  refine f k s i (fun q hq hc => ?_)
  have h1 := List.all_eq_true.mp hb q hq
  obtain ⟨c1, c2, c3⟩ := hc
  have : covb q k s i = true := by
    unfold covb
    rcases c2 with c2 | c2 <;> rcases c3 with c3 | c3 <;> simp [c1, c2, c3]
  rw [this] at h1
  cases h1
/-- nothing of a kind and number is written -/
def kfree (L : List FE) (k s : Nat) : Bool := L.all fun q => !(q.1 == k && (q.2.1 == none || q.2.1 == some s))
theorem Fr.cell {L : List FE} {h h' : Hp} (f : Fr L h h') (k s : Nat) (hb : kfree L k s = true) (i : Nat) : h'.1 k s i = h.1 k s i := by
  refine f k s i (fun q hq hc => ?_)
  have h1 := List.all_eq_true.mp hb q hq
  obtain ⟨c1, c2, c3⟩ := hc
  rcases c2 with c2 | c2 <;> simp [c1, c2] at h1
