/-! words and heads -/
def WL : List (List Nat) := [[115, 112, 101, 101, 100], [115, 116, 97, 114, 116], [112, 108, 97, 116, 101], [119, 97, 105, 116], [114, 117, 110], [115, 101, 116], [103, 117, 115, 116], [111, 105, 108], [114, 117, 110, 115], [115, 116, 111, 111, 100], [108, 97, 121]]
def wl' (i : Nat) : List Nat := WL.getD i []
theorem wl_len : ∀ i, i < 11 → strLen.getD i 0 = (wl' i).length ∧ (wl' i).length ≤ 5 ∧ 3 ≤ (wl' i).length := by decide
theorem wl_byt : ∀ i, i < 11 → ∀ j, j < (wl' i).length → (strByt.getD i []).getD j 0 = nI ((wl' i).getD j 0) ∧ (wl' i).getD j 0 < 256 := by decide
def wd (b : Nat → Nat) (q r : Nat) : List Nat := (List.range (r - q)).map fun j => b (q + j)
theorem wd_len (b : Nat → Nat) (q r : Nat) : (wd b q r).length = r - q := by simp [wd]
theorem wd_get (b : Nat → Nat) (q r j : Nat) (h : j < r - q) : (wd b q r).getD j 0 = b (q + j) := by simp [wd, List.getD, h]
theorem gd_el {l : List Nat} {k : Nat} (h : k < l.length) : l.getD k 0 = l[k] := by simp [List.getD, h]
theorem isWord_eq {h : Hp} {b : Nat → Nat} {n q r i : Nat} (c : CT h b n r) (h9 : h.1 3 0 9 = nI q) (hq : q ≤ r) (hi : i < 11) : fX5_isWord i h = some (if wd b q r = wl' i then 1 else 0, h) := by
  have hn : n ≤ 600 := c.2.2.2.1
  have hr : r ≤ n := c.2.2.2.2.1
  obtain ⟨l1, l2, l3⟩ := wl_len i hi
  have e7 : rd h 3 0 7 = nI r := c.2.2.1
  have e9 : rd h 3 0 9 = nI q := h9
  unfold fX5_isWord
  rw [ck_p (by simpa using hi), e7, e9, nI_sub hq, l1]
  by_cases hl : r - q = (wl' i).length
  · rw [if_pos (by rw [hl])]
    suffices hh : ∀ (m j : Nat), j ≤ r - q → r - q - j < m → (∀ k, k < j → b (q + k) = (wl' i).getD k 0) → itr1 (fX5_isWord_l20 i (fun h4 => ck (zk 1) (some (1, h4)))) m (nI j) h = some (if wd b q r = wl' i then 1 else 0, h) by
      exact hh FU 0 (by omega) (by unfold FU; omega) (fun k hk => absurd hk (Nat.not_lt_zero _))
    intro m
    induction m with
    | zero => intro j _ hm; exact absurd hm (Nat.not_lt_zero _)
    | succ m ih =>
      intro j hj hm hk
      rw [itr1_s]
      generalize itr1 (fX5_isWord_l20 i (fun h4 => ck (zk 1) (some (1, h4)))) m = R at ih ⊢
      unfold fX5_isWord_l20
      rw [ck_p (by simpa using hi), l1]
      by_cases hjl : j = r - q
      · have he : wd b q r = wl' i := by
          apply List.ext_getElem
          · rw [wd_len, hl]
          · intro k h1 h2
            have a1 := wd_get b q r k (by rw [wd_len] at h1; exact h1)
            have a2 := hk k (by rw [wd_len] at h1; omega)
            rw [gd_el h1] at a1
            rw [gd_el h2] at a2
            rw [a1, a2]
        rw [if_pos (nI_le (by omega) (by omega)), if_pos he]
        rfl
      · have hlt : j < r - q := by omega
        rw [if_neg (nI_ge (by omega) (by omega)), e9, nI_add, byteAt_eq c (show q + j ≤ n by omega), bnd_eq, if_pos (show q + j < n by omega), ck_p (by simpa using hi), ck_p (ib_nI (show j < (wl' i).length by omega) (by omega)), nI_clamp (show j < 2 ^ 31 by omega)]
        obtain ⟨w1, w2⟩ := wl_byt i hi j (by omega)
        have hb := (c.2.2.2.2.2 (q + j) (by omega)).2
        rw [w1]
        by_cases hbe : b (q + j) = (wl' i).getD j 0
        · rw [if_pos (by rw [hbe]), lt_eq, nI_1]
          refine ih (j + 1) (by omega) (by omega) (fun k hk' => ?_)
          rcases Nat.lt_or_ge k j with w | w
          · exact hk k w
          · have : k = j := by omega
            subst this; exact hbe
        · rw [if_neg (fun w => hbe ((eq_n (by omega) (by omega)).mp w)), if_neg (fun w => hbe (by rw [← w, wd_get _ _ _ _ hlt]))]
          rfl
  · rw [if_neg (fun w => hl ((eq_n (by omega) (by omega)).mp w)), if_neg (fun w => hl (by rw [← w, wd_len]))]
    rfl
theorem wordOf_eq (h : Hp) : ∀ i, i < 11 → fX5_wordOf (nI i) h = some (i, h) := by
  intro i hi
  unfold fX5_wordOf
  have : i = 0 ∨ i = 1 ∨ i = 2 ∨ i = 3 ∨ i = 4 ∨ i = 5 ∨ i = 6 ∨ i = 7 ∨ i = 8 ∨ i = 9 ∨ i = 10 := by omega
  rcases this with rfl | rfl | rfl | rfl | rfl | rfl | rfl | rfl | rfl | rfl | rfl <;> rfl
/-- the head of a line of a sort: the first word of it -/
def hdL : List Nat → List Nat → Option Nat
  | [], _ => none
  | i :: l, w => if w = wl' i then some i else hdL l w
def hds (s : Nat) : List Nat := if s = 0 then [0, 1, 2] else if s = 1 then [3, 4, 5, 6, 7] else [8, 9, 10]
def hd (s : Nat) (w : List Nat) : Option Nat := hdL (hds s) w
def oI : Option Nat → Int32
  | none => -1
  | some i => nI i
theorem hd_step {h : Hp} {b : Nat → Nat} {n q r i la m : Nat} {K : Hp → Option (Int32 × Hp)} (c : CT h b n r) (h9 : h.1 3 0 9 = nI q) (hq : q ≤ r) (hi : i ≤ la) (hla : la < 11) : itr1 (fX5_headOf_l54 (nI la) K) (m + 1) (nI i) h = if wd b q r = wl' i then some (nI i, h) else itr1 (fX5_headOf_l54 (nI la) K) m (nI (i + 1)) h := by
  rw [itr1_s]
  generalize itr1 (fX5_headOf_l54 (nI la) K) m = R
  unfold fX5_headOf_l54
  rw [if_neg (show ¬ nI la < nI i from fun w => by rw [lt_n (by omega) (by omega)] at w; omega), wordOf_eq h i (by omega), bnd_eq, isWord_eq c h9 hq (by omega), bnd_eq, lt_eq, nI_1]
  by_cases hw : wd b q r = wl' i
  · rw [if_pos hw, if_pos hw, if_neg (by decide)]
  · rw [if_neg hw, if_neg hw, if_pos rfl]
theorem hd_stop {h : Hp} {i la m : Nat} {K : Hp → Option (Int32 × Hp)} (hi : la < i) (hla : i < 12) : itr1 (fX5_headOf_l54 (nI la) K) (m + 1) (nI i) h = K h := by
  rw [itr1_s]
  unfold fX5_headOf_l54
  rw [if_pos (show nI la < nI i from by rw [lt_n (by omega) (by omega)]; exact hi)]
theorem headOf_no {h : Hp} {s k : Nat} (h8 : h.1 3 0 8 = nI k) (hk : k ≠ 1) (hk' : k < 5) : fX5_headOf (nI s) h = some (-1, h) := by
  unfold fX5_headOf
  rw [if_neg (show ¬ rd h 3 0 8 = 1 from fun w => by rw [show rd h 3 0 8 = nI k from h8] at w; exact hk ((eq_n (b := 1) (by omega) (by decide)).mp w))]
theorem headOf_eq {h : Hp} {b : Nat → Nat} {n q r s : Nat} (c : CT h b n r) (h9 : h.1 3 0 9 = nI q) (h8 : h.1 3 0 8 = 1) (hq : q ≤ r) (hs : s < 3) : fX5_headOf (nI s) h = some (oI (hd s (wd b q r)), h) := by
  unfold fX5_headOf
  rw [if_pos (show rd h 3 0 8 = 1 from h8)]
  simp only [jn_eq]
  rcases (show s = 0 ∨ s = 1 ∨ s = 2 by omega) with rfl | rfl | rfl
  · rw [if_pos (show nI 0 = 0 from rfl), if_pos (show nI 0 = 0 from rfl), show FU = 3999996 + 1 + 1 + 1 + 1 from rfl]
    have e1 := hd_step (K := fun h10 => some ((-1 : Int32), h10)) (m := 3999996 + 1 + 1 + 1) (i := 0) (la := 2) c h9 hq (by decide) (by decide)
    have e2 := hd_step (K := fun h10 => some ((-1 : Int32), h10)) (m := 3999996 + 1 + 1) (i := 1) (la := 2) c h9 hq (by decide) (by decide)
    have e3 := hd_step (K := fun h10 => some ((-1 : Int32), h10)) (m := 3999996 + 1) (i := 2) (la := 2) c h9 hq (by decide) (by decide)
    have e4 := hd_stop (h := h) (K := fun h10 => some ((-1 : Int32), h10)) (m := 3999996) (i := 3) (la := 2) (by decide) (by decide)
    rw [e4] at e3
    rw [e3] at e2
    rw [e2] at e1
    refine e1.trans ?_
    unfold hd hds
    rw [if_pos rfl]
    simp only [hdL]
    by_cases w0 : wd b q r = wl' 0
    · rw [if_pos w0, if_pos w0]; rfl
    · rw [if_neg w0, if_neg w0]
      by_cases w1 : wd b q r = wl' 1
      · rw [if_pos w1, if_pos w1]; rfl
      · rw [if_neg w1, if_neg w1]
        by_cases w2 : wd b q r = wl' 2
        · rw [if_pos w2, if_pos w2]; rfl
        · rw [if_neg w2, if_neg w2]; rfl
  · rw [if_neg (show ¬ nI 1 = 0 by decide), if_pos (show nI 1 = 1 from rfl), if_neg (show ¬ nI 1 = 0 by decide), if_pos (show nI 1 = 1 from rfl), show FU = 3999994 + 1 + 1 + 1 + 1 + 1 + 1 from rfl]
    have e1 := hd_step (K := fun h10 => some ((-1 : Int32), h10)) (m := 3999994 + 1 + 1 + 1 + 1 + 1) (i := 3) (la := 7) c h9 hq (by decide) (by decide)
    have e2 := hd_step (K := fun h10 => some ((-1 : Int32), h10)) (m := 3999994 + 1 + 1 + 1 + 1) (i := 4) (la := 7) c h9 hq (by decide) (by decide)
    have e3 := hd_step (K := fun h10 => some ((-1 : Int32), h10)) (m := 3999994 + 1 + 1 + 1) (i := 5) (la := 7) c h9 hq (by decide) (by decide)
    have e4 := hd_step (K := fun h10 => some ((-1 : Int32), h10)) (m := 3999994 + 1 + 1) (i := 6) (la := 7) c h9 hq (by decide) (by decide)
    have e5 := hd_step (K := fun h10 => some ((-1 : Int32), h10)) (m := 3999994 + 1) (i := 7) (la := 7) c h9 hq (by decide) (by decide)
    have e6 := hd_stop (h := h) (K := fun h10 => some ((-1 : Int32), h10)) (m := 3999994) (i := 8) (la := 7) (by decide) (by decide)
    rw [e6] at e5
    rw [e5] at e4
    rw [e4] at e3
    rw [e3] at e2
    rw [e2] at e1
    refine e1.trans ?_
    rw [show hd 1 (wd b q r) = hdL [3, 4, 5, 6, 7] (wd b q r) from rfl]
    simp only [hdL]
    by_cases w0 : wd b q r = wl' 3
    · rw [if_pos w0, if_pos w0]; rfl
    · rw [if_neg w0, if_neg w0]
      by_cases w1 : wd b q r = wl' 4
      · rw [if_pos w1, if_pos w1]; rfl
      · rw [if_neg w1, if_neg w1]
        by_cases w2 : wd b q r = wl' 5
        · rw [if_pos w2, if_pos w2]; rfl
        · rw [if_neg w2, if_neg w2]
          by_cases w3 : wd b q r = wl' 6
          · rw [if_pos w3, if_pos w3]; rfl
          · rw [if_neg w3, if_neg w3]
            by_cases w4 : wd b q r = wl' 7
            · rw [if_pos w4, if_pos w4]; rfl
            · rw [if_neg w4, if_neg w4]; rfl
  · rw [if_neg (show ¬ nI 2 = 0 by decide), if_neg (show ¬ nI 2 = 1 by decide), if_neg (show ¬ nI 2 = 0 by decide), if_neg (show ¬ nI 2 = 1 by decide), show FU = 3999996 + 1 + 1 + 1 + 1 from rfl]
    have e1 := hd_step (K := fun h10 => some ((-1 : Int32), h10)) (m := 3999996 + 1 + 1 + 1) (i := 8) (la := 10) c h9 hq (by decide) (by decide)
    have e2 := hd_step (K := fun h10 => some ((-1 : Int32), h10)) (m := 3999996 + 1 + 1) (i := 9) (la := 10) c h9 hq (by decide) (by decide)
    have e3 := hd_step (K := fun h10 => some ((-1 : Int32), h10)) (m := 3999996 + 1) (i := 10) (la := 10) c h9 hq (by decide) (by decide)
    have e4 := hd_stop (h := h) (K := fun h10 => some ((-1 : Int32), h10)) (m := 3999996) (i := 11) (la := 10) (by decide) (by decide)
    rw [e4] at e3
    rw [e3] at e2
    rw [e2] at e1
    refine e1.trans ?_
    rw [show hd 2 (wd b q r) = hdL [8, 9, 10] (wd b q r) from rfl]
    simp only [hdL]
    by_cases w0 : wd b q r = wl' 8
    · rw [if_pos w0, if_pos w0]; rfl
    · rw [if_neg w0, if_neg w0]
      by_cases w1 : wd b q r = wl' 9
      · rw [if_pos w1, if_pos w1]; rfl
      · rw [if_neg w1, if_neg w1]
        by_cases w2 : wd b q r = wl' 10
        · rw [if_pos w2, if_pos w2]; rfl
        · rw [if_neg w2, if_neg w2]; rfl
/-! the reference's codes of words -/
def enc (w : List Nat) : Nat := w.foldl (fun a c => a * 256 + c) 0
theorem enc_snoc (w : List Nat) (c : Nat) : enc (w ++ [c]) = enc w * 256 + c := by simp [enc, List.foldl_append]
theorem cd_enc (b : Nat → Nat) (q : Nat) : ∀ k, cd b q k = enc (wd b q (q + k)) := by
  intro k
  induction k with
  | zero => simp [cd, wd, enc]
  | succ k ih =>
    have : wd b q (q + (k + 1)) = wd b q (q + k) ++ [b (q + k)] := by
      unfold wd
      rw [show q + (k + 1) - q = k + 1 by omega, show q + k - q = k by omega, List.range_succ, List.map_append]
      rfl
    rw [this, enc_snoc, ← ih]
    rfl
theorem enc_inj : ∀ (v w : List Nat), (∀ c ∈ v, 0 < c ∧ c < 256) → (∀ c ∈ w, 0 < c ∧ c < 256) → enc v = enc w → v = w := by
  intro v
  induction hv : v.length generalizing v with
  | zero =>
    intro w h1 h2 e
    have : v = [] := List.length_eq_zero_iff.mp hv
    subst this
    rcases List.eq_nil_or_concat w with rfl | ⟨w', c, rfl⟩
    · rfl
    · rw [List.concat_eq_append, enc_snoc] at e
      have := (h2 c (by simp)).1
      have e0 : enc [] = 0 := rfl
      omega
  | succ k ih =>
    intro w h1 h2 e
    rcases List.eq_nil_or_concat v with rfl | ⟨v', a, rfl⟩
    · cases hv
    · rw [List.concat_eq_append] at *
      have a1 := h1 a (by simp)
      rcases List.eq_nil_or_concat w with rfl | ⟨w', c, rfl⟩
      · rw [enc_snoc] at e
        have e0 : enc [] = 0 := rfl
        omega
      · rw [List.concat_eq_append] at *
        have a2 := h2 c (by simp)
        rw [enc_snoc, enc_snoc] at e
        have e1 : a = c := by omega
        have e2 : enc v' = enc w' := by omega
        have := ih v' (by simpa using hv) w' (fun x hx => h1 x (by simp [hx])) (fun x hx => h2 x (by simp [hx])) e2
        rw [this, e1]
theorem wl_pos : ∀ i, i < 11 → (∀ c ∈ wl' i, 0 < c ∧ c < 256) ∧ enc (wl' i) < 2 ^ 40 ∧ 0 < enc (wl' i) := by decide
theorem code_iff {b : Nat → Nat} {q r i : Nat} (hi : i < 11) (hb : ∀ j, q ≤ j → j < r → 0 < b j ∧ b j < 256) (hqr : q ≤ r) : (wcode b q r = Int64.ofNat (enc (wl' i))) ↔ wd b q r = wl' i := by
  obtain ⟨p1, p2, p3⟩ := wl_pos i hi
  obtain ⟨-, l2, -⟩ := wl_len i hi
  have inj : ∀ x y, x < 2 ^ 64 → y < 2 ^ 64 → Int64.ofNat x = Int64.ofNat y → x = y := by
    intro x y hx hy e
    have := congrArg (fun z => z.toBitVec.toNat) e
    have e1 : ∀ y, (Int64.ofNat y).toBitVec.toNat = y % 2 ^ 64 := fun y => BitVec.toNat_ofNat _ _
    simp only [e1] at this
    omega
  unfold wcode
  have hc := cd_enc b q (r - q)
  rw [show q + (r - q) = r by omega] at hc
  by_cases h8 : r - q ≤ 8
  · rw [if_pos h8, hc]
    constructor
    · intro e
      have hlt : enc (wd b q r) < 2 ^ 64 := by
        rw [← hc]
        exact Nat.lt_of_lt_of_le (cd_lt b q (r - q) (fun j hj => (hb (q + j) (by omega) (by omega)).2)) (Nat.le_trans (Nat.pow_le_pow_right (by decide) h8) (by decide))
      refine enc_inj _ _ (fun c hc => ?_) p1 (inj _ _ hlt (by omega) e)
      unfold wd at hc
      rw [List.mem_map] at hc
      obtain ⟨j, hj, rfl⟩ := hc
      rw [List.mem_range] at hj
      exact hb (q + j) (by omega) (by omega)
    · intro e; rw [e]
  · rw [if_neg h8]
    constructor
    · intro e
      have := inj 0 _ (by decide) (by omega) e
      omega
    · intro e
      have := congrArg List.length e
      rw [wd_len] at this
      omega
theorem wc_vals : Int64.ofNat (enc (wl' 0)) = 495806932324 ∧ Int64.ofNat (enc (wl' 1)) = 495873782388 ∧ Int64.ofNat (enc (wl' 2)) = 482854663269 ∧ Int64.ofNat (enc (wl' 3)) = 2002872692 ∧ Int64.ofNat (enc (wl' 4)) = 7501166 ∧ Int64.ofNat (enc (wl' 5)) = 7562612 ∧ Int64.ofNat (enc (wl' 6)) = 1735750516 ∧ Int64.ofNat (enc (wl' 7)) = 7301484 ∧ Int64.ofNat (enc (wl' 8)) = 1920298611 ∧ Int64.ofNat (enc (wl' 9)) = 495874699108 ∧ Int64.ofNat (enc (wl' 10)) = 7102841 := by decide
