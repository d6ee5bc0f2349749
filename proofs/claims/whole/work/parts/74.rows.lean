/-! ROWS OF RUNS, pure: a stand of plates is told by when each falls -/
abbrev FB : Type := (Nat → Nat) × Nat × Nat
abbrev AR : Type := List ((Nat → Nat) × (Nat → Nat) × Nat)
def mkS (n sp : Nat) (pl li : Nat → Nat) (s : FB) (p : Nat) : Option FB := if p < n ∧ s.2.1 < s.1 p then some ((if s.2.1 + wayN sp s.2.2 (pl p) < s.1 p then updN s.1 p (s.2.1 + wayN sp s.2.2 (pl p) + 1 + li p) else s.1), s.2.1 + wayN sp s.2.2 (pl p) + 1, pl p) else none
def smS (n sp st : Nat) (pl li le rw' : Nat → Nat) : Nat → Option FB
  | 0 => some (le, 0, st)
  | i + 1 => (smS n sp st pl li le rw' i).bind fun s => mkS n sp pl li s (rw' i)
def okS (n : Nat) (sd pt bt F : Nat → Nat) : Nat → Bool
  | 0 => true
  | k + 1 => okS n sd pt bt F k && (decide (pt k < n) && (decide (bt k < F (pt k)) == decide (sd k = 1)))
def cnS (F : Nat → Nat) (b : Nat) : Nat → Nat
  | 0 => 0
  | k + 1 => cnS F b k + (if b < F k then 1 else 0)
def codeN (w : Nat → Nat) : Nat → Nat
  | 0 => 1
  | i + 1 => codeN w i * 10 + w i
def askN (r : Nat) (k : Int32) : AR → Int32
  | [] => -2
  | x :: l => if nI l.length = k then nI (codeN x.1 r) else askN r k l
def fewN : AR → Nat
  | [] => 0
  | x :: l => if l.length = 0 then x.2.2 else min (fewN l) x.2.2
def mosN : AR → Nat
  | [] => 0
  | x :: l => max (mosN l) x.2.2
def upsN (n : Nat) : AR → Nat
  | [] => 0
  | x :: l => max (upsN n l) (cnS x.2.1 x.2.2 n)
def vvN (i : Nat) : AR → Nat
  | [] => 0
  | x :: l => vvN i l ||| 2 ^ (x.1 i)
def stN (n j : Nat) : AR → Nat
  | [] => 0
  | x :: l => stN n j l + (if j % 5 < n ∧ j / 5 < x.2.1 (j % 5) then 1 else 0)
def stepA (n sp st r m : Nat) (pl li le sd pt bt : Nat → Nat) (A : AR) (w : Nat → Nat) : AR := match smS n sp st pl li le w r with
  | none => A
  | some s => if okS n sd pt bt s.1 m = true then (w, s.1, s.2.1) :: A else A
def rwN (b r c : Nat) : Nat → Nat := fun i => if i < r then c / b ^ (r - 1 - i) % b else 0
def rowL (b r c : Nat) : List Nat := (List.range r).map (rwN b r c)
theorem rows_eq : ∀ n, n ≤ 5 → ∀ r, r ≤ 4 → ((List.range (5 ^ r)).map (rowL 5 r)).filter (fun l => l.all fun d => decide (d < n)) = (List.range (n ^ r)).map (rowL n r) := by decide +kernel
theorem rowL_get (b r c : Nat) : (fun i => (rowL b r c).getD i 0) = rwN b r c := by
  funext i
  unfold rowL
  rw [List.getD_eq_getElem?_getD, List.getElem?_map]
  by_cases h : i < r
  · rw [List.getElem?_range h]; rfl
  · rw [List.getElem?_eq_none (by rw [List.length_range]; omega)]
    unfold rwN
    rw [if_neg h]; rfl
def foldA (n sp st r m : Nat) (pl li le sd pt bt : Nat → Nat) (b c : Nat) : AR := ((List.range c).map (rowL b r)).foldl (fun A l => stepA n sp st r m pl li le sd pt bt A (fun i => l.getD i 0)) []
theorem foldA_s {n sp st r m : Nat} {pl li le sd pt bt : Nat → Nat} {b c : Nat} : foldA n sp st r m pl li le sd pt bt b (c + 1) = stepA n sp st r m pl li le sd pt bt (foldA n sp st r m pl li le sd pt bt b c) (rwN b r c) := by
  unfold foldA
  rw [List.range_succ, List.map_append, List.foldl_append]
  show stepA n sp st r m pl li le sd pt bt _ (fun i => (rowL b r c).getD i 0) = _
  rw [rowL_get]
theorem smS_bad {n sp st : Nat} {pl li le w : Nat → Nat} : ∀ i j, j < i → ¬ w j < n → smS n sp st pl li le w i = none := by
  intro i
  induction i with
  | zero => intro j hj; exact absurd hj (Nat.not_lt_zero _)
  | succ i ih =>
    intro j hj hw
    show (smS n sp st pl li le w i).bind _ = none
    by_cases h : j = i
    · subst h
      cases smS n sp st pl li le w j with
      | none => rfl
      | some s =>
        show mkS n sp pl li s (w j) = none
        unfold mkS
        rw [if_neg (fun q => hw q.1)]
    · rw [ih j (by omega) hw]; rfl
theorem foldl_filter {α β : Type} (f : β → α → β) (P : α → Bool) (h : ∀ b a, P a = false → f b a = b) : ∀ (l : List α) (b : β), l.foldl f b = (l.filter P).foldl f b := by
  intro l
  induction l with
  | nil => intro b; rfl
  | cons a l ih =>
    intro b
    rw [List.foldl_cons, ih]
    cases hp : P a with
    | false => rw [h b a hp, List.filter_cons_of_neg (by rw [hp]; decide)]
    | true => rw [List.filter_cons_of_pos hp, List.foldl_cons]
/-- all rows of fives give what the rows of plates give -/
theorem foldA_eq {n sp st r m : Nat} {pl li le sd pt bt : Nat → Nat} (hn : n ≤ 5) (hr : r ≤ 4) : foldA n sp st r m pl li le sd pt bt 5 (5 ^ r) = foldA n sp st r m pl li le sd pt bt n (n ^ r) := by
  unfold foldA
  have hb : ∀ (A : AR) (l : List Nat), (fun l : List Nat => decide (l.length = r)) l = true → (l.all fun d => decide (d < n)) = false → stepA n sp st r m pl li le sd pt bt A (fun i => l.getD i 0) = A := by
    intro A l hl hp
    have hl : l.length = r := by simpa using hl
    rw [List.all_eq_false] at hp
    obtain ⟨d, hd, hd2⟩ := hp
    obtain ⟨j, hj, e⟩ := List.getElem_of_mem hd
    unfold stepA
    rw [smS_bad r j (by omega) (by
      rw [List.getD_eq_getElem?_getD, List.getElem?_eq_getElem hj, e]
      simpa using hd2)]
  rw [← rows_eq n hn r hr]
  have key : ∀ (ls : List (List Nat)), (∀ l ∈ ls, l.length = r) → ∀ A : AR, ls.foldl (fun A l => stepA n sp st r m pl li le sd pt bt A (fun i => l.getD i 0)) A = (ls.filter (fun l => l.all fun d => decide (d < n))).foldl (fun A l => stepA n sp st r m pl li le sd pt bt A (fun i => l.getD i 0)) A := by
    intro ls
    induction ls with
    | nil => intro _ A; rfl
    | cons l ls ih =>
      intro hl A
      rw [List.foldl_cons, ih (fun x hx => hl x (List.mem_cons_of_mem _ hx))]
      cases hp : (l.all fun d => decide (d < n)) with
      | false => rw [hb A l (by simpa using hl l List.mem_cons_self) hp, List.filter_cons_of_neg (by rw [hp]; decide)]
      | true => rw [List.filter_cons, if_pos hp, List.foldl_cons]
  refine key _ (fun l hl => ?_) []
  obtain ⟨c, -, rfl⟩ := List.mem_map.mp hl
  unfold rowL
  rw [List.length_map, List.length_range]
theorem foldA_len {n sp st r m : Nat} {pl li le sd pt bt : Nat → Nat} {b : Nat} : ∀ c, (foldA n sp st r m pl li le sd pt bt b c).length ≤ c := by
  intro c
  induction c with
  | zero => exact Nat.le_refl _
  | succ c ih =>
    rw [foldA_s]
    unfold stepA
    split
    · omega
    · split
      · rw [List.length_cons]; omega
      · omega
theorem okS_mono {n : Nat} {sd pt bt F : Nat → Nat} {i : Nat} (h : okS n sd pt bt F i = false) : ∀ m, i ≤ m → okS n sd pt bt F m = false := by
  intro m hm
  induction m with
  | zero => rw [← h]; congr 1; omega
  | succ m ih =>
    by_cases q : i = m + 1
    · rw [← q]; exact h
    · show (okS n sd pt bt F m && _) = false
      rw [ih (by omega), Bool.false_and]
/-- what a state of the runs may be -/
def VB (n i : Nat) (s : FB) : Prop := s.2.1 ≤ 10 * i ∧ s.2.2 ≤ 9 ∧ ∀ p, p < n → s.1 p ≤ 10 * i + 6
theorem mkS_VB {n sp i p : Nat} {pl li : Nat → Nat} {s s' : FB} (hp : VP n sp pl) (hli : ∀ p, p < n → li p ≤ 6) (h : VB n i s) (e : mkS n sp pl li s p = some s') : VB n (i + 1) s' := by
  unfold mkS at e
  by_cases g : p < n ∧ s.2.1 < s.1 p
  · rw [if_pos g] at e
    cases e
    have hw := wayN_le hp.2.1 h.2.1 (hp.2.2.2 p g.1)
    obtain ⟨h1, h2, h3⟩ := h
    refine ⟨by show s.2.1 + _ + 1 ≤ _; omega, hp.2.2.2 p g.1, fun q hq => ?_⟩
    show (if s.2.1 + wayN sp s.2.2 (pl p) < s.1 p then updN s.1 p (s.2.1 + wayN sp s.2.2 (pl p) + 1 + li p) else s.1) q ≤ _
    have := h3 q hq
    have := hli p g.1
    split
    · unfold updN
      split <;> omega
    · omega
  · rw [if_neg g] at e; cases e
theorem smS_VB {n sp st : Nat} {pl li le w : Nat → Nat} (hv : SV sp st n pl li le) : ∀ i s, smS n sp st pl li le w i = some s → VB n i s := by
  intro i
  induction i with
  | zero =>
    intro s e
    cases e
    exact ⟨Nat.zero_le _, hv.2.2.1, fun p hp => by have := hv.2.2.2.2 p hp; show le p ≤ _; omega⟩
  | succ i ih =>
    intro s e
    have e' : (smS n sp st pl li le w i).bind (fun s => mkS n sp pl li s (w i)) = some s := e
    cases hs : smS n sp st pl li le w i with
    | none => rw [hs] at e'; cases e'
    | some s0 =>
      rw [hs] at e'
      exact mkS_VB hv.vp (fun p hp => (hv.2.2.2.2 p hp).2.2.1) (ih s0 hs) e'
theorem smS_none {n sp st : Nat} {pl li le w : Nat → Nat} {i : Nat} (h : smS n sp st pl li le w i = none) : ∀ r, i ≤ r → smS n sp st pl li le w r = none := by
  intro r hr
  induction r with
  | zero => rw [← h]; congr 1; omega
  | succ r ih =>
    by_cases q : i = r + 1
    · rw [← q]; exact h
    · show (smS n sp st pl li le w r).bind _ = none
      rw [ih (by omega)]; rfl
