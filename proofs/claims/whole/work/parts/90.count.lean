/-! HOW MANY STANDS: spun plates differ in how long ago, the others share the beats gone by -/
def enN (T : Nat) : List Nat → Nat → List (List Nat)
  | _, 0 => [[]]
  | used, k + 1 => (9 :: ((List.range T).filter fun v => decide (1 ≤ v) && !used.contains v)).flatMap fun v => (enN T (v :: used) k).map fun l => v :: l
def en6 : List Nat → Nat → List (List Nat)
  | _, 0 => [[]]
  | used, k + 1 => ((List.range 6).filter fun v => decide (1 ≤ v) && !used.contains v).flatMap fun v => (en6 (v :: used) k).map fun l => v :: l
theorem enN_mem {T : Nat} (hT : T ≤ 9) : ∀ (l : List Nat) (used : List Nat), (∀ v ∈ l, v = 9 ∨ (1 ≤ v ∧ v < T ∧ v ∉ used)) → l.Pairwise (fun a b => a = 9 ∨ a ≠ b) → l ∈ enN T used l.length := by
  intro l
  induction l with
  | nil => intro used _ _; exact List.mem_singleton.mpr rfl
  | cons v l ih =>
    intro used h1 h2
    rw [List.pairwise_cons] at h2
    show v :: l ∈ (9 :: ((List.range T).filter fun v => decide (1 ≤ v) && !used.contains v)).flatMap fun v => (enN T (v :: used) l.length).map fun l => v :: l
    refine List.mem_flatMap.mpr ⟨v, ?_, List.mem_map.mpr ⟨l, ih (v :: used) (fun w hw => ?_) h2.2, rfl⟩⟩
    · rcases h1 v List.mem_cons_self with e | ⟨a1, a2, a3⟩
      · rw [e]; exact List.mem_cons_self
      · refine List.mem_cons_of_mem _ (List.mem_filter.mpr ⟨List.mem_range.mpr a2, ?_⟩)
        rw [Bool.and_eq_true, decide_eq_true_eq, Bool.not_eq_true', List.contains_eq_mem, decide_eq_false_iff_not]
        exact ⟨a1, a3⟩
    · rcases h1 w (List.mem_cons_of_mem _ hw) with e | ⟨a1, a2, a3⟩
      · exact Or.inl e
      · refine Or.inr ⟨a1, a2, fun hm => ?_⟩
        rcases List.mem_cons.mp hm with e | e
        · rcases h2.1 w hw with q | q
          · omega
          · exact q e.symm
        · exact a3 e
theorem en6_mem : ∀ (l : List Nat) (used : List Nat), (∀ v ∈ l, 1 ≤ v ∧ v < 6 ∧ v ∉ used) → l.Pairwise (fun a b => a ≠ b) → l ∈ en6 used l.length := by
  intro l
  induction l with
  | nil => intro used _ _; exact List.mem_singleton.mpr rfl
  | cons v l ih =>
    intro used h1 h2
    rw [List.pairwise_cons] at h2
    show v :: l ∈ ((List.range 6).filter fun v => decide (1 ≤ v) && !used.contains v).flatMap fun v => (en6 (v :: used) l.length).map fun l => v :: l
    refine List.mem_flatMap.mpr ⟨v, ?_, List.mem_map.mpr ⟨l, ih (v :: used) (fun w hw => ?_) h2.2, rfl⟩⟩
    · obtain ⟨a1, a2, a3⟩ := h1 v List.mem_cons_self
      refine List.mem_filter.mpr ⟨List.mem_range.mpr a2, ?_⟩
      rw [Bool.and_eq_true, decide_eq_true_eq, Bool.not_eq_true', List.contains_eq_mem, decide_eq_false_iff_not]
      exact ⟨a1, a3⟩
    · obtain ⟨a1, a2, a3⟩ := h1 w (List.mem_cons_of_mem _ hw)
      refine ⟨a1, a2, fun hm => ?_⟩
      rcases List.mem_cons.mp hm with e | e
      · exact h2.1 w hw e.symm
      · exact a3 e
abbrev DS : Type := Nat × Nat × List Nat
def xsN (r : Nat) (l : List Nat) (e : Nat) : Nat := if e = r then 0 else l.getD (if e < r then e else e - 1) 9
def opN (r i : Nat) : Nat := if i < r then i else i + 1
def lsN (x : Nat → Nat) (r : Nat) : List Nat := [x (opN r 0), x (opN r 1), x (opN r 2), x (opN r 3)]
theorem xs_ls {x : Nat → Nat} {r e : Nat} (hr : r < 5) (he : e < 5) (h0 : x r = 0) : xsN r (lsN x r) e = x e := by
  rcases (show r = 0 ∨ r = 1 ∨ r = 2 ∨ r = 3 ∨ r = 4 by omega) with rfl | rfl | rfl | rfl | rfl <;> rcases (show e = 0 ∨ e = 1 ∨ e = 2 ∨ e = 3 ∨ e = 4 by omega) with rfl | rfl | rfl | rfl | rfl <;> first | rfl | exact h0.symm
def DA : List DS := ((List.range 5).flatMap fun r => ((List.range 5).flatMap fun t => (enN (t + 1) [] 4).map fun l => (r, t + 1, l)) ++ (en6 [] 4).map fun l => (r, 6, l))
def DB (e0 : Nat) : List DS := (List.range 5).flatMap fun r => (List.range 6).flatMap fun t => ((enN (t + 1) [] 4).filter fun l => xsN r l e0 == 9).map fun l => (r, t + 1, l)
theorem DA_len : DA.length ≤ 2190 := by decide +kernel
theorem DB_len : ∀ e0, e0 < 5 → (DB e0).length ≤ 2190 := by decide +kernel
def fG (G : KG) (d : DS) : Nat := cdN d.1 (fun e => if G.1 e = true then (if xsN d.1 d.2.2 e = 9 then G.2.2.2.2.2 e - d.2.1 else G.2.2.2.2.1 e - xsN d.1 d.2.2 e) - 1 else 0)
/-- what kept rows lead to -/
def Dsc (G : KG) (c : Nat) : Prop := ∃ (x : Nat → Nat) (T r : Nat), r < 5 ∧ G.1 r = true ∧ x r = 0 ∧ 1 ≤ T ∧ c = cdN r (fun e => if G.1 e = true then (if x e = 9 then G.2.2.2.2.2 e - T else G.2.2.2.2.1 e - x e) - 1 else 0) ∧ (∀ e, e < 5 → G.1 e = true → x e ≠ 9 → x e < T ∧ x e < G.2.2.2.2.1 e) ∧ (∀ e, e < 5 → G.1 e = true → x e = 9 → T < G.2.2.2.2.2 e) ∧ ∀ e e', e < 5 → e' < 5 → G.1 e = true → G.1 e' = true → x e ≠ 9 → x e = x e' → e = e'
theorem dsc_dig {G : KG} (hG : VG G) (x : Nat → Nat) (T : Nat) : ∀ e, e < 5 → (fun e => if G.1 e = true then (if x e = 9 then G.2.2.2.2.2 e - T else G.2.2.2.2.1 e - x e) - 1 else 0) e ≤ 5 := by
  intro e he
  show (if G.1 e = true then (if x e = 9 then G.2.2.2.2.2 e - T else G.2.2.2.2.1 e - x e) - 1 else 0) ≤ 5
  by_cases g : G.1 e = true
  · rw [if_pos g]
    have := hG.2.2.2 e he g
    split <;> omega
  · rw [if_neg g]; omega
theorem cdN_congr {r : Nat} {f g : Nat → Nat} (h : ∀ e, e < 5 → f e = g e) : cdN r f = cdN r g := by
  unfold cdN dgt
  rw [h 0 (by decide), h 1 (by decide), h 2 (by decide), h 3 (by decide), h 4 (by decide)]
theorem dsc_first {G : KG} (hG : VG G) {p : Nat} (hp : p < 5) (hk : kpN G (c0N G) p = true) : Dsc G (nxN G (c0N G) p) := by
  obtain ⟨hs, k1, k2⟩ := kp_le hk
  have htb := tmN_b hG (c0_VN hG) hp hs
  have hlf : ∀ e, e < 5 → G.1 e = true → lfN (c0N G) e = G.2.2.2.2.2 e := fun e he hse => by
    unfold c0N
    rw [cdN_dig (c0_dig hG) he]
    show (if G.1 e = true then _ else 0) + 1 = _
    have := hG.2.2.2 e he hse
    rw [if_pos hse]; omega
  refine ⟨fun e => if e = p then 0 else 9, tmN G (c0N G) p, p, hp, hs, by show (if p = p then 0 else 9) = 0; rw [if_pos rfl], htb.1, ?_, fun e he hse hx => ?_, fun e he hse hx => ?_, fun e e' he he' hse hse' hx hxx => ?_⟩
  · unfold nxN
    refine cdN_congr (fun e he => ?_)
    show (if G.1 e = true then (if e = p then G.2.2.2.2.1 e - 1 else lfN (c0N G) e - tmN G (c0N G) p - 1) else 0) = (if G.1 e = true then (if (if e = p then 0 else 9) = 9 then G.2.2.2.2.2 e - tmN G (c0N G) p else G.2.2.2.2.1 e - (if e = p then 0 else 9)) - 1 else 0)
    by_cases hse : G.1 e = true
    · rw [if_pos hse, if_pos hse]
      by_cases q : e = p
      · simp only [if_pos q]
        rw [if_neg (by decide)]; omega
      · simp only [if_neg q]
        rw [if_pos trivial, hlf e he hse]
    · rw [if_neg hse, if_neg hse]
  · have : e = p := by
      apply Classical.byContradiction
      intro q
      exact hx (by show (if e = p then 0 else 9) = 9; rw [if_neg q])
    show (if e = p then 0 else 9) < _ ∧ (if e = p then 0 else 9) < _
    rw [if_pos this]
    have := hG.2.2.2 e he hse
    omega
  · have q : e ≠ p := fun w => by
      have : (if e = p then 0 else 9) = 9 := hx
      rw [if_pos w] at this
      omega
    have := k2 e he q hse
    rw [hlf e he hse] at this
    exact this
  · have a1 : e = p := by
      apply Classical.byContradiction
      intro q
      exact hx (by show (if e = p then 0 else 9) = 9; rw [if_neg q])
    have a2 : (if e = p then 0 else 9) = (if e' = p then 0 else 9) := hxx
    rw [if_pos a1] at a2
    by_cases q : e' = p
    · omega
    · rw [if_neg q] at a2; omega
theorem dsc_step {G : KG} (hG : VG G) {c p : Nat} (hc : VN G c) (d : Dsc G c) (hp : p < 5) (hk : kpN G c p = true) : Dsc G (nxN G c p) := by
  obtain ⟨x, T, r, hr, hsr, hx0, hT, ec, d1, d2, d3⟩ := d
  obtain ⟨hs, k1, k2⟩ := kp_le hk
  have htb := tmN_b hG hc hp hs
  have hlf : ∀ e, e < 5 → G.1 e = true → lfN c e = (if x e = 9 then G.2.2.2.2.2 e - T else G.2.2.2.2.1 e - x e) := fun e he hse => by
    rw [ec, cdN_dig (dsc_dig hG x T) he]
    show (if G.1 e = true then (if x e = 9 then G.2.2.2.2.2 e - T else G.2.2.2.2.1 e - x e) - 1 else 0) + 1 = _
    rw [if_pos hse]
    by_cases q : x e = 9
    · have := d2 e he hse q
      rw [if_pos q]; omega
    · have := (d1 e he hse q).2
      rw [if_neg q]; omega
  have hX : ∀ e, e < 5 → G.1 e = true → e ≠ p → x e ≠ 9 → x e + tmN G c p < G.2.2.2.2.1 e := fun e he hse q1 q2 => by
    have := k2 e he q1 hse
    rw [hlf e he hse, if_neg q2] at this
    omega
  have hb6 : ∀ e, e < 5 → G.1 e = true → G.2.2.2.2.1 e ≤ 6 := fun e he hse => (hG.2.2.2 e he hse).2.2.1
  refine ⟨fun e => if e = p then 0 else if x e = 9 then 9 else x e + tmN G c p, T + tmN G c p, p, hp, hs, by show (if p = p then 0 else _) = 0; rw [if_pos rfl], by omega, ?_, fun e he hse hx => ?_, fun e he hse hx => ?_, fun e e' he he' hse hse' hx hxx => ?_⟩
  · unfold nxN
    refine cdN_congr (fun e he => ?_)
    show (if G.1 e = true then (if e = p then G.2.2.2.2.1 e - 1 else lfN c e - tmN G c p - 1) else 0) = (if G.1 e = true then (if (if e = p then 0 else if x e = 9 then 9 else x e + tmN G c p) = 9 then G.2.2.2.2.2 e - (T + tmN G c p) else G.2.2.2.2.1 e - (if e = p then 0 else if x e = 9 then 9 else x e + tmN G c p)) - 1 else 0)
    by_cases hse : G.1 e = true
    · rw [if_pos hse, if_pos hse]
      by_cases q : e = p
      · rw [if_pos q, if_pos q, if_neg (by decide)]; omega
      · rw [if_neg q, if_neg q, hlf e he hse]
        by_cases q2 : x e = 9
        · rw [if_pos q2, if_pos q2, if_pos rfl]; omega
        · have h1 := hX e he hse q q2
          have h2 := hb6 e he hse
          rw [if_neg q2, if_neg q2, if_neg (by omega)]; omega
    · rw [if_neg hse, if_neg hse]
  · have hx' : (if e = p then 0 else if x e = 9 then 9 else x e + tmN G c p) ≠ 9 := hx
    show (if e = p then 0 else if x e = 9 then 9 else x e + tmN G c p) < T + tmN G c p ∧ (if e = p then 0 else if x e = 9 then 9 else x e + tmN G c p) < G.2.2.2.2.1 e
    by_cases q : e = p
    · rw [if_pos q]
      have := (hG.2.2.2 e he hse).2.1
      omega
    · rw [if_neg q] at hx' ⊢
      by_cases q2 : x e = 9
      · rw [if_pos q2] at hx'; exact absurd rfl hx'
      · rw [if_neg q2]
        have h1 := hX e he hse q q2
        have h2 := (d1 e he hse q2).1
        omega
  · have hx' : (if e = p then 0 else if x e = 9 then 9 else x e + tmN G c p) = 9 := hx
    by_cases q : e = p
    · rw [if_pos q] at hx'; omega
    · rw [if_neg q] at hx'
      by_cases q2 : x e = 9
      · have := k2 e he q hse
        rw [hlf e he hse, if_pos q2] at this
        omega
      · rw [if_neg q2] at hx'
        have h1 := hX e he hse q q2
        have h2 := hb6 e he hse
        omega
  · have hx1 : (if e = p then 0 else if x e = 9 then 9 else x e + tmN G c p) ≠ 9 := hx
    have hx2 : (if e = p then 0 else if x e = 9 then 9 else x e + tmN G c p) = (if e' = p then 0 else if x e' = 9 then 9 else x e' + tmN G c p) := hxx
    by_cases q : e = p
    · by_cases q' : e' = p
      · omega
      · rw [if_pos q, if_neg q'] at hx2
        by_cases q2 : x e' = 9
        · rw [if_pos q2] at hx2; omega
        · rw [if_neg q2] at hx2; omega
    · rw [if_neg q] at hx1 hx2
      by_cases q2 : x e = 9
      · rw [if_pos q2] at hx1; exact absurd rfl hx1
      · rw [if_neg q2] at hx2
        by_cases q' : e' = p
        · rw [if_pos q'] at hx2; omega
        · rw [if_neg q'] at hx2
          by_cases q3 : x e' = 9
          · rw [if_pos q3] at hx2
            have h1 := hX e he hse q q2
            have h2 := hb6 e he hse
            omega
          · rw [if_neg q3] at hx2
            exact d3 e e' he he' hse hse' q2 (by omega)
theorem rc_dsc {G : KG} (hG : VG G) : ∀ m c, rcN G m c → c = c0N G ∨ Dsc G c := by
  intro m
  induction m with
  | zero => intro c h; exact Or.inl h
  | succ m ih =>
    rintro c ⟨d, p, hd, hp, hk, rfl⟩
    right
    rcases ih d hd with rfl | q
    · exact dsc_first hG hp hk
    · exact dsc_step hG (Rc.vn hG ⟨m, hd⟩) q hp hk
theorem ls_pw {x : Nat → Nat} {r : Nat} {R : Nat → Nat → Prop} (h : ∀ e e', e < 5 → e' < 5 → e ≠ e' → e ≠ r → e' ≠ r → R (x e) (x e')) : (lsN x r).Pairwise R := by
  unfold lsN
  have hop : ∀ i j, i < 4 → j < 4 → i ≠ j → R (x (opN r i)) (x (opN r j)) := fun i j hi hj hij => by
    refine h _ _ ?_ ?_ ?_ ?_ ?_ <;> unfold opN <;> split <;> first | omega | (split <;> omega)
  refine List.Pairwise.cons (fun b hb => ?_) (List.Pairwise.cons (fun b hb => ?_) (List.Pairwise.cons (fun b hb => ?_) (List.Pairwise.cons (fun b hb => ?_) List.Pairwise.nil)))
  · simp at hb
    rcases hb with rfl | rfl | rfl
    · exact hop 0 1 (by decide) (by decide) (by decide)
    · exact hop 0 2 (by decide) (by decide) (by decide)
    · exact hop 0 3 (by decide) (by decide) (by decide)
  · simp at hb
    rcases hb with rfl | rfl
    · exact hop 1 2 (by decide) (by decide) (by decide)
    · exact hop 1 3 (by decide) (by decide) (by decide)
  · simp at hb
    rw [hb]
    exact hop 2 3 (by decide) (by decide) (by decide)
  · cases hb
theorem ls_all {x : Nat → Nat} {r : Nat} {P : Nat → Prop} (h : ∀ e, e < 5 → e ≠ r → P (x e)) : ∀ v ∈ lsN x r, P v := by
  intro v hv
  unfold lsN at hv
  have hop : ∀ i, i < 4 → P (x (opN r i)) := fun i hi => by
    refine h _ ?_ ?_ <;> unfold opN <;> split <;> omega
  simp at hv
  rcases hv with rfl | rfl | rfl | rfl
  · exact hop 0 (by decide)
  · exact hop 1 (by decide)
  · exact hop 2 (by decide)
  · exact hop 3 (by decide)
/-- each is one of a list that is not long -/
theorem dsc_mem {G : KG} (hG : VG G) {c : Nat} (d : Dsc G c) : ∃ L : List DS, L.length ≤ 2190 ∧ ((∀ e, e < 5 → G.1 e = true) → L = DA) ∧ (∀ e0, e0 < 5 → G.1 e0 = false → (∀ e, e < e0 → G.1 e = true) → L = DB e0) ∧ ∃ q ∈ L, c = fG G q := by
  obtain ⟨x0, T, r, hr, hsr, hx0, hT, ec, d1, d2, d3⟩ := d
  let x : Nat → Nat := fun e => if G.1 e = true then x0 e else 9
  have hxS : ∀ e, G.1 e = true → x e = x0 e := fun e he => by show (if G.1 e = true then x0 e else 9) = _; rw [if_pos he]
  have hxr : x r = 0 := (hxS r hsr).trans hx0
  have code : ∀ T', (∀ e, e < 5 → G.1 e = true → x0 e = 9 → T' = T) → c = fG G (r, T', lsN x r) := fun T' hT' => by
    rw [ec]
    unfold fG
    refine cdN_congr (fun e he => ?_)
    show (if G.1 e = true then (if x0 e = 9 then G.2.2.2.2.2 e - T else G.2.2.2.2.1 e - x0 e) - 1 else 0) = (if G.1 e = true then (if xsN r (lsN x r) e = 9 then G.2.2.2.2.2 e - T' else G.2.2.2.2.1 e - xsN r (lsN x r) e) - 1 else 0)
    by_cases g : G.1 e = true
    · rw [if_pos g, if_pos g, xs_ls hr he hxr, hxS e g]
      by_cases q : x0 e = 9
      · rw [if_pos q, if_pos q, hT' e he g q]
      · rw [if_neg q, if_neg q]
    · rw [if_neg g, if_neg g]
  have b5 : ∀ e, e < 5 → G.1 e = true → x0 e ≠ 9 → x0 e ≤ 5 := fun e he hs q => by
    have := (d1 e he hs q).2
    have := (hG.2.2.2 e he hs).2.2.1
    omega
  have pos : ∀ e, e < 5 → G.1 e = true → e ≠ r → x0 e ≠ 9 → 1 ≤ x0 e := fun e he hs q1 q2 => by
    rcases Nat.eq_zero_or_pos (x0 e) with h | h
    · exact absurd (d3 e r he hr hs hsr q2 (by rw [h, hx0])) q1
    · exact h
  have pw : (lsN x r).Pairwise (fun a b => a = 9 ∨ a ≠ b) := ls_pw (fun e e' he he' hne _ _ => by
    by_cases q : x e = 9
    · exact Or.inl q
    · right
      intro hh
      have g : G.1 e = true := by
        apply Classical.byContradiction
        intro g
        exact q (by show (if G.1 e = true then x0 e else 9) = 9; rw [if_neg g])
      have q0 : x0 e ≠ 9 := by rw [← hxS e g]; exact q
      have g' : G.1 e' = true := by
        apply Classical.byContradiction
        intro g'
        have : x e' = 9 := by show (if G.1 e' = true then x0 e' else 9) = 9; rw [if_neg g']
        rw [this] at hh
        exact q hh
      exact hne (d3 e e' he he' g g' q0 (by rw [← hxS e g, ← hxS e' g']; exact hh)))
  have mem : ∀ T', T' ≤ 6 → (∀ e, e < 5 → G.1 e = true → x0 e ≠ 9 → x0 e < T') → lsN x r ∈ enN T' [] 4 := fun T' h6 hlt => by
    refine enN_mem (by omega) (lsN x r) [] (ls_all (P := fun v => v = 9 ∨ (1 ≤ v ∧ v < T' ∧ v ∉ [])) (fun e he hne => ?_)) pw
    by_cases g : G.1 e = true
    · rw [hxS e g]
      by_cases q : x0 e = 9
      · exact Or.inl q
      · exact Or.inr ⟨pos e he g hne q, hlt e he g q, fun w => by cases w⟩
    · exact Or.inl (by show (if G.1 e = true then x0 e else 9) = 9; rw [if_neg g])
  have hmem : ∀ T', 1 ≤ T' → T' ≤ 6 → (T' - 1) ∈ List.range 6 := fun T' h1 h6 => List.mem_range.mpr (by omega)
  by_cases full : ∀ e, e < 5 → G.1 e = true
  · refine ⟨DA, DA_len, fun _ => rfl, fun e0 he0 hf _ => absurd (full e0 he0) (by rw [hf]; decide), ?_⟩
    by_cases un : ∃ e, e < 5 ∧ x0 e = 9
    · obtain ⟨e1, he1, hx1⟩ := un
      have hT5 : T ≤ 5 := by
        have := d2 e1 he1 (full e1 he1) hx1
        have := (hG.2.2.2 e1 he1 (full e1 he1)).2.2.2.2
        omega
      refine ⟨(r, T, lsN x r), ?_, code T (fun _ _ _ _ => rfl)⟩
      unfold DA
      refine List.mem_flatMap.mpr ⟨r, List.mem_range.mpr hr, List.mem_append.mpr (Or.inl (List.mem_flatMap.mpr ⟨T - 1, List.mem_range.mpr (by omega), List.mem_map.mpr ⟨lsN x r, ?_, ?_⟩⟩))⟩
      · rw [show T - 1 + 1 = T by omega]
        exact mem T (by omega) (fun e he g q => (d1 e he g q).1)
      · rw [show T - 1 + 1 = T by omega]
    · refine ⟨(r, 6, lsN x r), ?_, code 6 (fun e he _ q => absurd ⟨e, he, q⟩ un)⟩
      unfold DA
      refine List.mem_flatMap.mpr ⟨r, List.mem_range.mpr hr, List.mem_append.mpr (Or.inr (List.mem_map.mpr ⟨lsN x r, ?_, rfl⟩))⟩
      refine en6_mem (lsN x r) [] (ls_all (P := fun v => 1 ≤ v ∧ v < 6 ∧ v ∉ []) (fun e he hne => ?_)) (ls_pw (fun e e' he he' hne _ _ hh => ?_))
      · have q : x0 e ≠ 9 := fun q => un ⟨e, he, q⟩
        rw [hxS e (full e he)]
        have := b5 e he (full e he) q
        exact ⟨pos e he (full e he) hne q, by omega, fun w => by cases w⟩
      · have q : x0 e ≠ 9 := fun q => un ⟨e, he, q⟩
        exact hne (d3 e e' he he' (full e he) (full e' he') q (by rw [← hxS e (full e he), ← hxS e' (full e' he')]; exact hh))
  · have hex : ∃ e0, e0 < 5 ∧ G.1 e0 = false ∧ ∀ e, e < e0 → G.1 e = true := by
      by_cases g0 : G.1 0 = true
      · by_cases g1 : G.1 1 = true
        · by_cases g2 : G.1 2 = true
          · by_cases g3 : G.1 3 = true
            · refine ⟨4, by decide, ?_, fun e he => by rcases (show e = 0 ∨ e = 1 ∨ e = 2 ∨ e = 3 by omega) with rfl | rfl | rfl | rfl <;> assumption⟩
              cases g4 : G.1 4 with
              | false => rfl
              | true => exact absurd (fun e he => by rcases (show e = 0 ∨ e = 1 ∨ e = 2 ∨ e = 3 ∨ e = 4 by omega) with rfl | rfl | rfl | rfl | rfl <;> assumption) full
            · exact ⟨3, by decide, Bool.not_eq_true _ |>.mp g3, fun e he => by rcases (show e = 0 ∨ e = 1 ∨ e = 2 by omega) with rfl | rfl | rfl <;> assumption⟩
          · exact ⟨2, by decide, Bool.not_eq_true _ |>.mp g2, fun e he => by rcases (show e = 0 ∨ e = 1 by omega) with rfl | rfl <;> assumption⟩
        · exact ⟨1, by decide, Bool.not_eq_true _ |>.mp g1, fun e he => by rw [show e = 0 by omega]; exact g0⟩
      · exact ⟨0, by decide, Bool.not_eq_true _ |>.mp g0, fun e he => absurd he (Nat.not_lt_zero _)⟩
    obtain ⟨e0, he0, hf0, hlow⟩ := hex
    have hT' : ∃ T', 1 ≤ T' ∧ T' ≤ 6 ∧ (∀ e, e < 5 → G.1 e = true → x0 e = 9 → T' = T) ∧ ∀ e, e < 5 → G.1 e = true → x0 e ≠ 9 → x0 e < T' := by
      by_cases un : ∃ e, e < 5 ∧ G.1 e = true ∧ x0 e = 9
      · obtain ⟨e1, he1, hs1, hx1⟩ := un
        have := d2 e1 he1 hs1 hx1
        have := (hG.2.2.2 e1 he1 hs1).2.2.2.2
        exact ⟨T, hT, by omega, fun _ _ _ _ => rfl, fun e he g q => (d1 e he g q).1⟩
      · exact ⟨6, by decide, by decide, fun e he g q => absurd ⟨e, he, g, q⟩ un, fun e he g q => by have := b5 e he g q; omega⟩
    obtain ⟨T', t1, t6, te, tl⟩ := hT'
    refine ⟨DB e0, DB_len e0 he0, fun w => absurd w full, fun e1 he1 hf1 hl1 => ?_, (r, T', lsN x r), ?_, code T' te⟩
    · have : e1 = e0 := by
        rcases Nat.lt_trichotomy e1 e0 with w | w | w
        · exact absurd (hlow e1 w) (by rw [hf1]; decide)
        · exact w
        · exact absurd (hl1 e0 w) (by rw [hf0]; decide)
      rw [this]
    · unfold DB
      refine List.mem_flatMap.mpr ⟨r, List.mem_range.mpr hr, List.mem_flatMap.mpr ⟨T' - 1, hmem T' t1 t6, List.mem_map.mpr ⟨lsN x r, List.mem_filter.mpr ⟨?_, ?_⟩, ?_⟩⟩⟩
      · rw [show T' - 1 + 1 = T' by omega]; exact mem T' t6 tl
      · rw [xs_ls hr he0 hxr]
        show ((if G.1 e0 = true then x0 e0 else 9) == 9) = true
        rw [if_neg (by rw [hf0]; decide)]; rfl
      · rw [show T' - 1 + 1 = T' by omega]
/-- so there are not many -/
theorem stands_le {G : KG} (hG : VG G) {f : Nat} {s : Nat → Nat} (h1 : ∀ i, i < f → Rc G (s i)) (h2 : ∀ i j, i < f → j < f → s i = s j → i = j) : f ≤ 2191 := by
  have hL : ∃ L : List DS, L.length ≤ 2190 ∧ ∀ c, Dsc G c → ∃ q ∈ L, c = fG G q := by
    by_cases full : ∀ e, e < 5 → G.1 e = true
    · refine ⟨DA, DA_len, fun c hc => ?_⟩
      obtain ⟨L, -, hl, -, q⟩ := dsc_mem hG hc
      rw [hl full] at q; exact q
    · have hex : ∃ e0, e0 < 5 ∧ G.1 e0 = false ∧ ∀ e, e < e0 → G.1 e = true := by
        apply Classical.byContradiction
        intro hno
        have key : ∀ e, (∀ e', e' < e → G.1 e' = true) ∨ 5 < e := by
          intro e
          induction e with
          | zero => exact Or.inl (fun e' h => absurd h (Nat.not_lt_zero _))
          | succ e ih =>
            rcases ih with ih | ih
            · by_cases h5 : e < 5
              · left
                intro e' he'
                by_cases q : e' = e
                · rw [q]
                  cases hb : G.1 e with
                  | true => rfl
                  | false => exact absurd ⟨e, h5, hb, ih⟩ hno
                · exact ih e' (by omega)
              · right; omega
            · right; omega
        rcases key 5 with w | w
        · exact full w
        · omega
      obtain ⟨e0, he0, hf0, hlow⟩ := hex
      refine ⟨DB e0, DB_len e0 he0, fun c hc => ?_⟩
      obtain ⟨L, -, -, hl, q⟩ := dsc_mem hG hc
      rw [hl e0 he0 hf0 hlow] at q; exact q
  obtain ⟨L, hlen, hmem⟩ := hL
  have hq : ∀ i, ∃ q, i < f → q < 2191 ∧ s i = (if q = 2190 then c0N G else fG G (L.getD q (0, 0, []))) := by
    intro i
    by_cases hi : i < f
    · obtain ⟨m, hm⟩ := h1 i hi
      rcases rc_dsc hG m (s i) hm with e | e
      · exact ⟨2190, fun _ => ⟨by omega, by rw [if_pos rfl]; exact e⟩⟩
      · obtain ⟨q, hq, e⟩ := hmem _ e
        obtain ⟨k, hk, ek⟩ := List.getElem_of_mem hq
        refine ⟨k, fun _ => ⟨by omega, ?_⟩⟩
        rw [if_neg (by omega), List.getD_eq_getElem?_getD, List.getElem?_eq_getElem hk, ek]
        exact e
    · exact ⟨0, fun w => absurd w hi⟩
  obtain ⟨Q, hQ⟩ := Classical.axiomOfChoice hq
  exact pig 2191 f Q (fun i hi => (hQ i hi).1) (fun i j hi hj e => h2 i j hi hj (by rw [(hQ i hi).2, (hQ j hj).2, e]))
