section Rows3
variable {ρ : Type} {cv : ρ → Option Value} {u : Nat} {g : GE} {M : MI} {d pc : Nat} {ls : List (Nat × Value)} {st : List Value} {h : Hp} {o : Option (ρ × Hp)}
theorem s_iald {s0 kd n : Nat} {i : Int32} (hk : KA u kd 0 n) (hd : decode M.2.1 pc = .ok (.iaload, 1)) (k : Sim cv u g M d (pc + 1) ls (.int (ra h kd s0 i) :: st) h o) : Sim cv u g M d pc ls (.int i :: rv g kd s0 :: st) h (ck (ib i n) o) := by
  intro r h' ho p e s m args below meth c H locs lsA C hP hS hl
  obtain ⟨hb, ho⟩ := ck_some ho
  obtain ⟨q0, hi, hq⟩ := ws_at (g := g) (h := h) hk.1 (Nat.mod_lt s0 (cnt_pos kd))
  rw [cellOf_arr hk] at hq
  exact va_iald C.1 C.2.1 C.2.2.2.2.2.2.1 hP q0 0 hq rfl (ib_in hb) hd (k r h' ho p e s m args below meth c H locs lsA C hP hS hl)
theorem s_bald {s0 kd n : Nat} {i : Int32} (hk : KA u kd 1 n) (hd : decode M.2.1 pc = .ok (.baload, 1)) (k : Sim cv u g M d (pc + 1) ls (.int (ra h kd s0 i) :: st) h o) : Sim cv u g M d pc ls (.int i :: rv g kd s0 :: st) h (ck (ib i n) o) := by
  intro r h' ho p e s m args below meth c H locs lsA C hP hS hl
  obtain ⟨hb, ho⟩ := ck_some ho
  obtain ⟨q0, hi, hq⟩ := ws_at (g := g) (h := h) hk.1 (Nat.mod_lt s0 (cnt_pos kd))
  rw [cellOf_arr hk] at hq
  exact va_bald C.1 C.2.1 C.2.2.2.2.2.2.1 hP q0 1 hq rfl (ib_in hb) hd (k r h' ho p e s m args below meth c H locs lsA C hP hS hl)
theorem s_sald {s0 kd n : Nat} {i : Int32} (hk : KA u kd 2 n) (hd : decode M.2.1 pc = .ok (.saload, 1)) (k : Sim cv u g M d (pc + 1) ls (.int (ra h kd s0 i) :: st) h o) : Sim cv u g M d pc ls (.int i :: rv g kd s0 :: st) h (ck (ib i n) o) := by
  intro r h' ho p e s m args below meth c H locs lsA C hP hS hl
  obtain ⟨hb, ho⟩ := ck_some ho
  obtain ⟨q0, hi, hq⟩ := ws_at (g := g) (h := h) hk.1 (Nat.mod_lt s0 (cnt_pos kd))
  rw [cellOf_arr hk] at hq
  exact va_sald C.1 C.2.1 C.2.2.2.2.2.2.1 hP q0 2 hq rfl (ib_in hb) hd (k r h' ho p e s m args below meth c H locs lsA C hP hS hl)
theorem s_zald {s0 kd n : Nat} {i : Int32} (hk : KA u kd 3 n) (hd : decode M.2.1 pc = .ok (.baload, 1)) (k : Sim cv u g M d (pc + 1) ls (.int (ra h kd s0 i) :: st) h o) : Sim cv u g M d pc ls (.int i :: rv g kd s0 :: st) h (ck (ib i n) o) := by
  intro r h' ho p e s m args below meth c H locs lsA C hP hS hl
  obtain ⟨hb, ho⟩ := ck_some ho
  obtain ⟨q0, hi, hq⟩ := ws_at (g := g) (h := h) hk.1 (Nat.mod_lt s0 (cnt_pos kd))
  rw [cellOf_arr hk] at hq
  exact va_zald C.1 C.2.1 C.2.2.2.2.2.2.1 hP q0 3 hq rfl (ib_in hb) hd (k r h' ho p e s m args below meth c H locs lsA C hP hS hl)
theorem s_iast {s0 kd n : Nat} {i x : Int32} {f : Hp → Option (ρ × Hp)} (hk : KA u kd 0 n) (hd : decode M.2.1 pc = .ok (.iastore, 1)) (k : ∀ h1, Sim cv u g M d (pc + 1) ls st h1 (f h1)) : Sim cv u g M d pc ls (.int x :: .int i :: rv g kd s0 :: st) h (ck (ib i n) (lt (wa h kd s0 i x) f)) := by
  intro r h' ho p e s m args below meth c H locs lsA C hP hS hl
  obtain ⟨hb, ho⟩ := ck_some ho
  obtain ⟨q0, hi, hq⟩ := ws_at (g := g) (h := h) hk.1 (Nat.mod_lt s0 (cnt_pos kd))
  rw [cellOf_arr hk] at hq
  refine va_iast C.1 C.2.1 C.2.2.2.2.2.2.1 hP (ws_D C.2.2.2.2.2.2.2.2.1) hS q0 0 hq rfl (ib_in hb) hd (fun H1 locs1 hP1 _ hS1 => ?_)
  rw [ws_set (h2 := wa h kd s0 i x) hi (wa_cell hk) (fun x _ hx => wr_cell hx)] at hP1
  exact k _ r h' ho p e s m args below meth c H1 locs1 lsA C hP1 hS1 hl
theorem s_bast {s0 kd n : Nat} {i x : Int32} {f : Hp → Option (ρ × Hp)} (hk : KA u kd 1 n) (hd : decode M.2.1 pc = .ok (.bastore, 1)) (k : ∀ h1, Sim cv u g M d (pc + 1) ls st h1 (f h1)) : Sim cv u g M d pc ls (.int x :: .int i :: rv g kd s0 :: st) h (ck (ib i n) (lt (wa h kd s0 i (vp_nar .byte x)) f)) := by
  intro r h' ho p e s m args below meth c H locs lsA C hP hS hl
  obtain ⟨hb, ho⟩ := ck_some ho
  obtain ⟨q0, hi, hq⟩ := ws_at (g := g) (h := h) hk.1 (Nat.mod_lt s0 (cnt_pos kd))
  rw [cellOf_arr hk] at hq
  refine va_bast C.1 C.2.1 C.2.2.2.2.2.2.1 hP (ws_D C.2.2.2.2.2.2.2.2.1) hS q0 1 hq rfl (ib_in hb) hd (fun H1 locs1 hP1 _ hS1 => ?_)
  rw [ws_set (h2 := wa h kd s0 i (vp_nar .byte x)) hi (wa_cell hk) (fun x _ hx => wr_cell hx)] at hP1
  exact k _ r h' ho p e s m args below meth c H1 locs1 lsA C hP1 hS1 hl
theorem s_sast {s0 kd n : Nat} {i x : Int32} {f : Hp → Option (ρ × Hp)} (hk : KA u kd 2 n) (hd : decode M.2.1 pc = .ok (.sastore, 1)) (k : ∀ h1, Sim cv u g M d (pc + 1) ls st h1 (f h1)) : Sim cv u g M d pc ls (.int x :: .int i :: rv g kd s0 :: st) h (ck (ib i n) (lt (wa h kd s0 i (vp_nar .short x)) f)) := by
  intro r h' ho p e s m args below meth c H locs lsA C hP hS hl
  obtain ⟨hb, ho⟩ := ck_some ho
  obtain ⟨q0, hi, hq⟩ := ws_at (g := g) (h := h) hk.1 (Nat.mod_lt s0 (cnt_pos kd))
  rw [cellOf_arr hk] at hq
  refine va_sast C.1 C.2.1 C.2.2.2.2.2.2.1 hP (ws_D C.2.2.2.2.2.2.2.2.1) hS q0 2 hq rfl (ib_in hb) hd (fun H1 locs1 hP1 _ hS1 => ?_)
  rw [ws_set (h2 := wa h kd s0 i (vp_nar .short x)) hi (wa_cell hk) (fun x _ hx => wr_cell hx)] at hP1
  exact k _ r h' ho p e s m args below meth c H1 locs1 lsA C hP1 hS1 hl
theorem s_zast {s0 kd n : Nat} {i x : Int32} {f : Hp → Option (ρ × Hp)} (hk : KA u kd 3 n) (hd : decode M.2.1 pc = .ok (.bastore, 1)) (k : ∀ h1, Sim cv u g M d (pc + 1) ls st h1 (f h1)) : Sim cv u g M d pc ls (.int x :: .int i :: rv g kd s0 :: st) h (ck (ib i n) (lt (wa h kd s0 i (vp_nar .boolean x)) f)) := by
  intro r h' ho p e s m args below meth c H locs lsA C hP hS hl
  obtain ⟨hb, ho⟩ := ck_some ho
  obtain ⟨q0, hi, hq⟩ := ws_at (g := g) (h := h) hk.1 (Nat.mod_lt s0 (cnt_pos kd))
  rw [cellOf_arr hk] at hq
  refine va_zast C.1 C.2.1 C.2.2.2.2.2.2.1 hP (ws_D C.2.2.2.2.2.2.2.2.1) hS q0 3 hq rfl (ib_in hb) hd (fun H1 locs1 hP1 _ hS1 => ?_)
  rw [ws_set (h2 := wa h kd s0 i (vp_nar .boolean x)) hi (wa_cell hk) (fun x _ hx => wr_cell hx)] at hP1
  exact k _ r h' ho p e s m args below meth c H1 locs1 lsA C hP1 hS1 hl
theorem s_alen0 {s0 kd n : Nat} {v : Int32} (hk : KA u kd 0 n) (hv : Int32.ofNat n = v) (hd : decode M.2.1 pc = .ok (.arraylength, 1)) (k : Sim cv u g M d (pc + 1) ls (.int v :: st) h o) : Sim cv u g M d pc ls (rv g kd s0 :: st) h o := by
  intro r h' ho p e s m args below meth c H locs lsA C hP hS hl
  obtain ⟨q0, hi, hq⟩ := ws_at (g := g) (h := h) hk.1 (Nat.mod_lt s0 (cnt_pos kd))
  rw [cellOf_arr hk] at hq
  exact va_alen C.1 C.2.1 C.2.2.2.2.2.2.1 hP q0 0 hq rfl hv hd (k r h' ho p e s m args below meth c H locs lsA C hP hS hl)
theorem s_alen1 {s0 kd n : Nat} {v : Int32} (hk : KA u kd 1 n) (hv : Int32.ofNat n = v) (hd : decode M.2.1 pc = .ok (.arraylength, 1)) (k : Sim cv u g M d (pc + 1) ls (.int v :: st) h o) : Sim cv u g M d pc ls (rv g kd s0 :: st) h o := by
  intro r h' ho p e s m args below meth c H locs lsA C hP hS hl
  obtain ⟨q0, hi, hq⟩ := ws_at (g := g) (h := h) hk.1 (Nat.mod_lt s0 (cnt_pos kd))
  rw [cellOf_arr hk] at hq
  exact va_alen C.1 C.2.1 C.2.2.2.2.2.2.1 hP q0 1 hq rfl hv hd (k r h' ho p e s m args below meth c H locs lsA C hP hS hl)
theorem s_alen2 {s0 kd n : Nat} {v : Int32} (hk : KA u kd 2 n) (hv : Int32.ofNat n = v) (hd : decode M.2.1 pc = .ok (.arraylength, 1)) (k : Sim cv u g M d (pc + 1) ls (.int v :: st) h o) : Sim cv u g M d pc ls (rv g kd s0 :: st) h o := by
  intro r h' ho p e s m args below meth c H locs lsA C hP hS hl
  obtain ⟨q0, hi, hq⟩ := ws_at (g := g) (h := h) hk.1 (Nat.mod_lt s0 (cnt_pos kd))
  rw [cellOf_arr hk] at hq
  exact va_alen C.1 C.2.1 C.2.2.2.2.2.2.1 hP q0 2 hq rfl hv hd (k r h' ho p e s m args below meth c H locs lsA C hP hS hl)
theorem s_alen3 {s0 kd n : Nat} {v : Int32} (hk : KA u kd 3 n) (hv : Int32.ofNat n = v) (hd : decode M.2.1 pc = .ok (.arraylength, 1)) (k : Sim cv u g M d (pc + 1) ls (.int v :: st) h o) : Sim cv u g M d pc ls (rv g kd s0 :: st) h o := by
  intro r h' ho p e s m args below meth c H locs lsA C hP hS hl
  obtain ⟨q0, hi, hq⟩ := ws_at (g := g) (h := h) hk.1 (Nat.mod_lt s0 (cnt_pos kd))
  rw [cellOf_arr hk] at hq
  exact va_alen C.1 C.2.1 C.2.2.2.2.2.2.1 hP q0 3 hq rfl hv hd (k r h' ho p e s m args below meth c H locs lsA C hP hS hl)
/-- arrays of references: the element at i of array number s0 is number a * s0 + b * i + c of kind k2 -/
def KR (u k t n k2 a b c : Nat) : Prop := k ∈ ktab u ∧ kobj k = none ∧ kra k = some (t, n, k2, a, b, c)
theorem cellOf_ra {g : GE} {h : Hp} {u k s t n k2 a b c : Nat} (hk : KR u k t n k2 a b c) : cellOf g h k s = .inl (g.2.1 t, n, .inr (.inr (.inr (.inr (fun i => some (g.1 k2 ((a * s + b * i + c) % cnt k2))))))) := by
  unfold cellOf; rw [hk.2.1]; dsimp only; rw [hk.2.2]
theorem s_aald4 {s0 kd n k2 a b c : Nat} {i : Int32} (hk : KR u kd 4 n k2 a b c) (hd : decode M.2.1 pc = .ok (.aaload, 1)) (k : Sim cv u g M d (pc + 1) ls (rv g k2 (a * (s0 % cnt kd) + b * i.toNatClampNeg + c) :: st) h o) : Sim cv u g M d pc ls (.int i :: rv g kd s0 :: st) h (ck (ib i n) o) := by
  intro r h' ho p e s m args below meth cc H locs lsA C hP hS hl
  obtain ⟨hb, ho⟩ := ck_some ho
  obtain ⟨q0, hi, hq⟩ := ws_at (g := g) (h := h) hk.1 (Nat.mod_lt s0 (cnt_pos kd))
  rw [cellOf_ra hk] at hq
  exact va_aldq C.1 C.2.1 C.2.2.2.2.2.2.1 hP q0 4 hq rfl (ib_in hb) hd (k r h' ho p e s m args below meth cc H locs lsA C hP hS hl)
theorem s_ralen4 {s0 kd n k2 a b c : Nat} {v : Int32} (hk : KR u kd 4 n k2 a b c) (hv : Int32.ofNat n = v) (hd : decode M.2.1 pc = .ok (.arraylength, 1)) (k : Sim cv u g M d (pc + 1) ls (.int v :: st) h o) : Sim cv u g M d pc ls (rv g kd s0 :: st) h o := by
  intro r h' ho p e s m args below meth cc H locs lsA C hP hS hl
  obtain ⟨q0, hi, hq⟩ := ws_at (g := g) (h := h) hk.1 (Nat.mod_lt s0 (cnt_pos kd))
  rw [cellOf_ra hk] at hq
  exact va_alen C.1 C.2.1 C.2.2.2.2.2.2.1 hP q0 4 hq rfl hv hd (k r h' ho p e s m args below meth cc H locs lsA C hP hS hl)
theorem s_aald5 {s0 kd n k2 a b c : Nat} {i : Int32} (hk : KR u kd 5 n k2 a b c) (hd : decode M.2.1 pc = .ok (.aaload, 1)) (k : Sim cv u g M d (pc + 1) ls (rv g k2 (a * (s0 % cnt kd) + b * i.toNatClampNeg + c) :: st) h o) : Sim cv u g M d pc ls (.int i :: rv g kd s0 :: st) h (ck (ib i n) o) := by
  intro r h' ho p e s m args below meth cc H locs lsA C hP hS hl
  obtain ⟨hb, ho⟩ := ck_some ho
  obtain ⟨q0, hi, hq⟩ := ws_at (g := g) (h := h) hk.1 (Nat.mod_lt s0 (cnt_pos kd))
  rw [cellOf_ra hk] at hq
  exact va_aldq C.1 C.2.1 C.2.2.2.2.2.2.1 hP q0 5 hq rfl (ib_in hb) hd (k r h' ho p e s m args below meth cc H locs lsA C hP hS hl)
theorem s_ralen5 {s0 kd n k2 a b c : Nat} {v : Int32} (hk : KR u kd 5 n k2 a b c) (hv : Int32.ofNat n = v) (hd : decode M.2.1 pc = .ok (.arraylength, 1)) (k : Sim cv u g M d (pc + 1) ls (.int v :: st) h o) : Sim cv u g M d pc ls (rv g kd s0 :: st) h o := by
  intro r h' ho p e s m args below meth cc H locs lsA C hP hS hl
  obtain ⟨q0, hi, hq⟩ := ws_at (g := g) (h := h) hk.1 (Nat.mod_lt s0 (cnt_pos kd))
  rw [cellOf_ra hk] at hq
  exact va_alen C.1 C.2.1 C.2.2.2.2.2.2.1 hP q0 5 hq rfl hv hd (k r h' ho p e s m args below meth cc H locs lsA C hP hS hl)
theorem s_aald6 {s0 kd n k2 a b c : Nat} {i : Int32} (hk : KR u kd 6 n k2 a b c) (hd : decode M.2.1 pc = .ok (.aaload, 1)) (k : Sim cv u g M d (pc + 1) ls (rv g k2 (a * (s0 % cnt kd) + b * i.toNatClampNeg + c) :: st) h o) : Sim cv u g M d pc ls (.int i :: rv g kd s0 :: st) h (ck (ib i n) o) := by
  intro r h' ho p e s m args below meth cc H locs lsA C hP hS hl
  obtain ⟨hb, ho⟩ := ck_some ho
  obtain ⟨q0, hi, hq⟩ := ws_at (g := g) (h := h) hk.1 (Nat.mod_lt s0 (cnt_pos kd))
  rw [cellOf_ra hk] at hq
  exact va_aldq C.1 C.2.1 C.2.2.2.2.2.2.1 hP q0 6 hq rfl (ib_in hb) hd (k r h' ho p e s m args below meth cc H locs lsA C hP hS hl)
theorem s_ralen6 {s0 kd n k2 a b c : Nat} {v : Int32} (hk : KR u kd 6 n k2 a b c) (hv : Int32.ofNat n = v) (hd : decode M.2.1 pc = .ok (.arraylength, 1)) (k : Sim cv u g M d (pc + 1) ls (.int v :: st) h o) : Sim cv u g M d pc ls (rv g kd s0 :: st) h o := by
  intro r h' ho p e s m args below meth cc H locs lsA C hP hS hl
  obtain ⟨q0, hi, hq⟩ := ws_at (g := g) (h := h) hk.1 (Nat.mod_lt s0 (cnt_pos kd))
  rw [cellOf_ra hk] at hq
  exact va_alen C.1 C.2.1 C.2.2.2.2.2.2.1 hP q0 6 hq rfl hv hd (k r h' ho p e s m args below meth cc H locs lsA C hP hS hl)
theorem s_aald7 {s0 kd n k2 a b c : Nat} {i : Int32} (hk : KR u kd 7 n k2 a b c) (hd : decode M.2.1 pc = .ok (.aaload, 1)) (k : Sim cv u g M d (pc + 1) ls (rv g k2 (a * (s0 % cnt kd) + b * i.toNatClampNeg + c) :: st) h o) : Sim cv u g M d pc ls (.int i :: rv g kd s0 :: st) h (ck (ib i n) o) := by
  intro r h' ho p e s m args below meth cc H locs lsA C hP hS hl
  obtain ⟨hb, ho⟩ := ck_some ho
  obtain ⟨q0, hi, hq⟩ := ws_at (g := g) (h := h) hk.1 (Nat.mod_lt s0 (cnt_pos kd))
  rw [cellOf_ra hk] at hq
  exact va_aldq C.1 C.2.1 C.2.2.2.2.2.2.1 hP q0 7 hq rfl (ib_in hb) hd (k r h' ho p e s m args below meth cc H locs lsA C hP hS hl)
theorem s_ralen7 {s0 kd n k2 a b c : Nat} {v : Int32} (hk : KR u kd 7 n k2 a b c) (hv : Int32.ofNat n = v) (hd : decode M.2.1 pc = .ok (.arraylength, 1)) (k : Sim cv u g M d (pc + 1) ls (.int v :: st) h o) : Sim cv u g M d pc ls (rv g kd s0 :: st) h o := by
  intro r h' ho p e s m args below meth cc H locs lsA C hP hS hl
  obtain ⟨q0, hi, hq⟩ := ws_at (g := g) (h := h) hk.1 (Nat.mod_lt s0 (cnt_pos kd))
  rw [cellOf_ra hk] at hq
  exact va_alen C.1 C.2.1 C.2.2.2.2.2.2.1 hP q0 7 hq rfl hv hd (k r h' ho p e s m args below meth cc H locs lsA C hP hS hl)
end Rows3
section Rows4
variable {ρ : Type} {cv : ρ → Option Value} {u : Nat} {g : GE} {M : MI} {d pc : Nat} {ls : List (Nat × Value)} {st : List Value} {h : Hp} {o : Option (ρ × Hp)}
/-! returns -/
theorem s_iret {x : Int32} (hr : M.2.2.2 = some .int) (hd : decode M.2.1 pc = .ok (.ireturn, 1)) : Sim cvi u g M d pc ls [.int x] h (some (x, h)) := by
  intro r h' ho p e s m args below meth c H locs lsA C hP hS hl
  cases ho
  exact W.iret (Qc := QC cvi u g x h) C.1 C.2.1 (C.2.2.1.trans hr) (fun t ht hW => ⟨rfl, by rw [ht]; exact hP, hS.F ht⟩) hS.2.2 hd C.2.2.2.2.2.2.2.1
theorem s_zret {x : Int32} (hr : M.2.2.2 = some .boolean) (hd : decode M.2.1 pc = .ok (.ireturn, 1)) : Sim cvi u g M d pc ls [.int x] h (ck (zk x) (some (x, h))) := by
  intro r h' ho p e s m args below meth c H locs lsA C hP hS hl
  obtain ⟨hb, ho⟩ := ck_some ho
  cases ho
  exact W.zret (Qc := QC cvi u g x h) C.1 C.2.1 (C.2.2.1.trans hr) (zk_nar hb) (fun t ht hW => ⟨rfl, by rw [ht]; exact hP, hS.F ht⟩) hS.2.2 hd C.2.2.2.2.2.2.2.1
theorem s_vret (hr : M.2.2.2 = none) (hd : decode M.2.1 pc = .ok (.return_, 1)) : Sim cvv u g M d pc ls [] h (some ((), h)) := by
  intro r h' ho p e s m args below meth c H locs lsA C hP hS hl
  cases ho
  exact W.vret (Qc := QC cvv u g () h) C.1 C.2.1 (C.2.2.1.trans hr) (fun t ht hW => ⟨rfl, by rw [ht]; exact hP, hS.F ht⟩) hS.2.2 hd C.2.2.2.2.2.2.2.1
theorem s_aret {kd : Nat} {q : Option Nat} {rt : FieldType} (hr : M.2.2.2 = some rt) (hrt : (∃ n, rt = .object n) ∨ ∃ t, rt = .array t) (hd : decode M.2.1 pc = .ok (.areturn, 1)) : Sim (cvr g kd) u g M d pc ls [rq g kd q] h (some (q, h)) := by
  intro r h' ho p e s m args below meth c H locs lsA C hP hS hl
  cases ho
  exact W.aret (Qc := QC (cvr g kd) u g q h) C.1 C.2.1 (C.2.2.1.trans hr) hrt (va_rf_or _) (fun t ht hW => ⟨rfl, by rw [ht]; exact hP, hS.F ht⟩) hS.2.2 hd C.2.2.2.2.2.2.2.1
theorem s_sret {i : Nat} {rt : FieldType} (hr : M.2.2.2 = some rt) (hrt : (∃ n, rt = .object n) ∨ ∃ t, rt = .array t) (hd : decode M.2.1 pc = .ok (.areturn, 1)) : Sim (cvs g) u g M d pc ls [.ref (g.2.2.2.2.1 i)] h (some (i, h)) := by
  intro r h' ho p e s m args below meth c H locs lsA C hP hS hl
  cases ho
  exact W.aret (Qc := QC (cvs g) u g i h) C.1 C.2.1 (C.2.2.1.trans hr) hrt (Or.inr ⟨_, rfl⟩) (fun t ht hW => ⟨rfl, by rw [ht]; exact hP, hS.F ht⟩) hS.2.2 hd C.2.2.2.2.2.2.2.1
/-! switches: a case at a time -/
theorem s_tab (k32 : Int32) {x : Int32} {dflt lo hi off : Int} {offs : Array Int} {len tgt : Nat} {o1 o2 : Option (ρ × Hp)} (hd : decode M.2.1 pc = .ok (.tableswitch dflt lo hi offs, len)) (h1 : ¬ k32.toInt < lo) (h2 : ¬ hi < k32.toInt) (hf : offs[(k32.toInt - lo).toNat]? = some off) (ht : (pc : Int) + off = (tgt : Int)) (kt : Sim cv u g M d tgt ls st h o1) (kf : ¬ x = k32 → Sim cv u g M d pc ls (.int x :: st) h o2) : Sim cv u g M d pc ls (.int x :: st) h (if x = k32 then o1 else o2) := by
  intro r h' ho p e s m args below meth c H locs lsA C hP hS hl
  by_cases hx : x = k32
  · rw [if_pos hx] at ho
    subst hx
    exact lv_tableIn C.1 C.2.1 hd h1 h2 hf ht (kt r h' ho p e s m args below meth c H locs lsA C hP hS hl)
  · rw [if_neg hx] at ho
    exact kf hx r h' ho p e s m args below meth c H locs lsA C hP hS hl
theorem s_tabd {x : Int32} {dflt lo hi : Int} {offs : Array Int} {len tgt : Nat} (hd : decode M.2.1 pc = .ok (.tableswitch dflt lo hi offs, len)) (h1 : x.toInt < lo ∨ hi < x.toInt) (ht : (pc : Int) + dflt = (tgt : Int)) (k : Sim cv u g M d tgt ls st h o) : Sim cv u g M d pc ls (.int x :: st) h o := by
  intro r h' ho p e s m args below meth c H locs lsA C hP hS hl
  exact lv_tableOut C.1 C.2.1 hd h1 ht (k r h' ho p e s m args below meth c H locs lsA C hP hS hl)
theorem s_lk (k32 : Int32) {x : Int32} {dflt off : Int} {ps : Array (Int × Int)} {len tgt : Nat} {o1 o2 : Option (ρ × Hp)} (hd : decode M.2.1 pc = .ok (.lookupswitch dflt ps, len)) (hp : (ps.toList.zip (ps.toList.drop 1)).all (fun (a, next) => a.1 < next.1) = true) (hf : Op.lookupswitch.offset ps.toList dflt k32.toInt = off) (ht : (pc : Int) + off = (tgt : Int)) (kt : Sim cv u g M d tgt ls st h o1) (kf : ¬ x = k32 → Sim cv u g M d pc ls (.int x :: st) h o2) : Sim cv u g M d pc ls (.int x :: st) h (if x = k32 then o1 else o2) := by
  intro r h' ho p e s m args below meth c H locs lsA C hP hS hl
  by_cases hx : x = k32
  · rw [if_pos hx] at ho
    subst hx
    exact lv_lookup C.1 C.2.1 hd hp hf ht (kt r h' ho p e s m args below meth c H locs lsA C hP hS hl)
  · rw [if_neg hx] at ho
    exact kf hx r h' ho p e s m args below meth c H locs lsA C hP hS hl
theorem s_lkd {x : Int32} {dflt : Int} {ps : Array (Int × Int)} {len tgt : Nat} (hd : decode M.2.1 pc = .ok (.lookupswitch dflt ps, len)) (hp : (ps.toList.zip (ps.toList.drop 1)).all (fun (a, next) => a.1 < next.1) = true) (hf : Op.lookupswitch.offset ps.toList dflt x.toInt = dflt) (ht : (pc : Int) + dflt = (tgt : Int)) (k : Sim cv u g M d tgt ls st h o) : Sim cv u g M d pc ls (.int x :: st) h o := by
  intro r h' ho p e s m args below meth c H locs lsA C hP hS hl
  exact lv_lookup C.1 C.2.1 hd hp hf ht (k r h' ho p e s m args below meth c H locs lsA C hP hS hl)
/-! Math -/
theorem s_mmax {x y : Int32} {ix : Nat} (hw : Cond.methodLink M.1.cls ix Lib.Math.max.name ∈ UW) (hw2 : (Cond.static Lib.Math.max.name ∈ UW ∧ Cond.initialized "java/lang/Math" ∈ UW) ∧ Cond.code Lib.Math.max.name Lib.Math.max.code 2 (some .int) ∈ UW) (hdd : 1 ≤ d) (hr : (st.map fun v => v.category).sum ≤ 40) (hd : decode M.2.1 pc = .ok (.invokestatic ix, 3)) (k : Sim cv u g M d (pc + 3) ls (.int (if x < y then y else x) :: st) h o) : Sim cv u g M d pc ls (.int y :: .int x :: st) h o := by
  intro r h' ho p e s m args below meth c H locs lsA C hP hS hl
  exact va_mmax C.1 C.2.1 (C.2.2.2.1.trans hl.1.symm) C.2.2.2.2.1 (C.2.2.2.2.2.1 _ hw) (C.2.2.2.2.2.1 _ hw2.1.1) (C.2.2.2.2.2.1 _ hw2.1.2) (C.2.2.2.2.2.1 _ hw2.2) hdd (by show _ ≤ 64 * d; omega) (Nat.zero_le _) (Nat.zero_le _) hd (k r h' ho p e s m args below meth c H locs lsA C hP hS hl)
theorem s_mmin {x y : Int32} {ix : Nat} (hw : Cond.methodLink M.1.cls ix Lib.Math.min.name ∈ UW) (hw2 : (Cond.static Lib.Math.min.name ∈ UW ∧ Cond.initialized "java/lang/Math" ∈ UW) ∧ Cond.code Lib.Math.min.name Lib.Math.min.code 2 (some .int) ∈ UW) (hdd : 1 ≤ d) (hr : (st.map fun v => v.category).sum ≤ 40) (hd : decode M.2.1 pc = .ok (.invokestatic ix, 3)) (k : Sim cv u g M d (pc + 3) ls (.int (if y < x then y else x) :: st) h o) : Sim cv u g M d pc ls (.int y :: .int x :: st) h o := by
  intro r h' ho p e s m args below meth c H locs lsA C hP hS hl
  exact va_mmin C.1 C.2.1 (C.2.2.2.1.trans hl.1.symm) C.2.2.2.2.1 (C.2.2.2.2.2.1 _ hw) (C.2.2.2.2.2.1 _ hw2.1.1) (C.2.2.2.2.2.1 _ hw2.1.2) (C.2.2.2.2.2.1 _ hw2.2) hdd (by show _ ≤ 64 * d; omega) (Nat.zero_le _) (Nat.zero_le _) hd (k r h' ho p e s m args below meth c H locs lsA C hP hS hl)
theorem s_mabs {x : Int32} {ix : Nat} (hw : Cond.methodLink M.1.cls ix Lib.Math.abs.name ∈ UW) (hw2 : (Cond.static Lib.Math.abs.name ∈ UW ∧ Cond.initialized "java/lang/Math" ∈ UW) ∧ Cond.code Lib.Math.abs.name Lib.Math.abs.code 1 (some .int) ∈ UW) (hdd : 1 ≤ d) (hr : (st.map fun v => v.category).sum ≤ 40) (hd : decode M.2.1 pc = .ok (.invokestatic ix, 3)) (k : Sim cv u g M d (pc + 3) ls (.int (if 0 ≤ x then x else 0 - x) :: st) h o) : Sim cv u g M d pc ls (.int x :: st) h o := by
  intro r h' ho p e s m args below meth c H locs lsA C hP hS hl
  exact va_mabs C.1 C.2.1 (C.2.2.2.1.trans hl.1.symm) C.2.2.2.2.1 (C.2.2.2.2.2.1 _ hw) (C.2.2.2.2.2.1 _ hw2.1.1) (C.2.2.2.2.2.1 _ hw2.1.2) (C.2.2.2.2.2.1 _ hw2.2) hdd (by show _ ≤ 64 * d; omega) (Nat.zero_le _) (Nat.zero_le _) hd (k r h' ho p e s m args below meth c H locs lsA C hP hS hl)
/-! calls -/
theorem Strs.same {u : Nat} {g : GE} {U V : State} (h : Strs u g U) (hv : V.vm = U.vm) (hh : V.heap = U.heap) : Strs u g V := by
  refine ⟨⟨?_, fun i q hi => (h.1.2 i q hi).same hv⟩, ⟨h.2.1.1.same rfl hv.symm, h.2.1.2.same rfl hv.symm⟩, ?_⟩
  · rw [hh]
    exact h.1.1.moved (by rw [hv]; exact Vm.Alike.refl U.vm)
  · unfold SX
    rw [hh]
    exact ⟨h.2.2.1.moved (by rw [hv]; exact Vm.Alike.refl U.vm), h.2.2.2.moved (by rw [hv]; exact Vm.Alike.refl U.vm)⟩
def Bef (u : Nat) (g : GE) (h : Hp) : State → Prop := fun U => va_P g.2.2.1 vwCl (wsOf u g h) U.heap ∧ va_K g.2.2.1 vwCl (tysOf g) U ∧ Inj u g ∧ Strs u g U
theorem bef_blind (as : List Value) (u : Nat) (g : GE) (h : Hp) : FrameBlind (va_Pc as (Bef u g h)) := by
  intro a U fr mk q
  obtain ⟨q0, qP, qK, qI, qS⟩ := q
  exact ⟨q0, qP, va_K.moved (u := U) (U := U.calling fr mk a) (Vm.Alike.refl U.vm) qK, qI, qS.same rfl rfl⟩
/-- a method by its name: not a handle's, its parameters, its locals -/
def MD (M' : MI) (n : Nat) : Prop := M'.1.cls ≠ "java/lang/invoke/MethodHandle" ∧ M'.1.cls ≠ "java/lang/invoke/VarHandle" ∧ (parseMethodDescriptor M'.1.desc).map (fun d => d.parameters.length) = some n ∧ M'.2.2.1 ≤ 40 ∧ Cond.code M'.1 M'.2.1 M'.2.2.1 M'.2.2.2 ∈ UW ∧ Cond.initialized M'.1.cls ∈ UW
def VL (u : Nat) (own : String) (idx : Nat) (M' : MI) (kd n : Nat) : Prop := kd ∈ ktab u ∧ (∃ sl, kobj kd = some sl) ∧ (∃ (T : u_T) (N : Nat), vwCl[kd]? = some (M'.1.cls, T, N)) ∧ MD M' n ∧ Cond.methodLink own idx M'.1 ∈ UW ∧ Cond.instanceMethod M'.1 ∈ UW ∧ Cond.selects M'.1.cls M'.1 M'.1 ∈ UW
def SL (own : String) (idx : Nat) (M' : MI) (n : Nat) : Prop := MD M' n ∧ Cond.methodLink own idx M'.1 ∈ UW ∧ Cond.static M'.1 ∈ UW
theorem callb {u : Nat} {g : GE} {M M' : MI} {d d' idx n : Nat} {p : Program} {s : State} {m : MethodId} {args : Array Value} {meth : Method} {c : Code} (C : Cx u g M p s m args meth c) (hm : MD M' n) (hl : Cond.methodLink M.1.cls idx M'.1 ∈ UW) (hdd : d' + 1 ≤ d) : CallB (rm d) s args M.1.cls idx M'.1 M'.2.1 M'.2.2.1 M'.2.2.2 (Cond.code M'.1 M'.2.1 M'.2.2.1 M'.2.2.2 :: UW) (rm d') 0 0 n := by
  obtain ⟨m1, m2, m3, m4, m5, m6⟩ := hm
  refine callB_of n C.2.2.2.2.2.1 (fun w hw => ?_) rfl rfl rfl (C.2.2.2.2.2.1 _ m6) (C.2.2.2.2.2.1 _ hl) ⟨m1, m2, m3⟩ ⟨hdd, ?_⟩
  · rcases List.mem_cons.mp hw with rfl | hw
    · exact ⟨m5, UW_good m5⟩
    · exact ⟨hw, UW_good hw⟩
  · show 8 + (M'.2.2.1 + 11) + 64 * d' ≤ 64 * d
    omega
theorem s_after {ρ' : Type} {cv' : ρ' → Option Value} {p : Program} {e : Env} {s : State} {m : MethodId} {args : Array Value} {below : List Frame} {meth : Method} {c : Code} {H : Heap} {locs : List Loc} {lsA : Array Slot} {Q : State → Prop} {rest st0 : List Value} {a : Array Value} {r1 : ρ'} {h1 : Hp}
    (hrun : va_Run p g.2.2.2.1 e (rm d) s m args below meth c H locs 0 0 0 0 (F0 m pc lsA st0) rest (QC cv' u g r1 h1 a) (Au u g)) (hS : va_S (Au u g) s.heap H locs)
    (kk : ∀ (H1 : Heap) (locs1 : List Loc), va_P g.2.2.1 vwCl (wsOf u g h1) H1 → va_S (Au u g) s.heap H1 locs1 → W p g.2.2.2.1 e (rm d) s m args below meth c H1 locs1 0 0 Q (F0 m (pc + 3) lsA ((cv' r1).toList ++ rest))) : W p g.2.2.2.1 e (rm d) s m args below meth c H locs 0 0 Q (F0 m pc lsA st0) := by
  intro T hT X
  obtain ⟨v, st₀, t, T', L, h0, X', hL, e1, e2, ⟨hv, hPt, hz, hk⟩, stp⟩ := hrun T hT X
  have hv : v = cv' r1 := by injection hv
  subst hv
  rw [h0] at hz hk
  obtain ⟨t2, a1, b1⟩ := kk T'.heap (locs ++ L) (by rw [e1]; exact hPt)
    ⟨Nat.le_trans hS.1 (by rw [e1]; exact hz), fun q h1 h2 => by rw [e1, hk q (Nat.lt_of_lt_of_le h1 hS.1) h2]; exact hS.2.1 q h1 h2, fun q hq => by
      rcases List.mem_append.mp hq with h | h
      · exact hS.2.2 q h
      · exact hL q h⟩ T' rfl X'
  exact ⟨t2, stp t2 a1, b1⟩
theorem s_callV {ρ' : Type} {cv' : ρ' → Option Value} {M' : MI} {d' idx kd s0 n : Nat} {As rest st0 : List Value} {o' : Option (ρ' × Hp)} {f : ρ' → Hp → Option (ρ × Hp)} (hM : Con cv' u g M' d' (rv g kd s0 :: As) h o') (hv : VL u M.1.cls idx M' kd n) (hn : As.length = n) (hdd : d' + 1 ≤ d) (hr : (rest.map fun v => v.category).sum ≤ 8) (hd : decode M.2.1 pc = .ok (.invokevirtual idx, 3)) (hst : st0 = As.reverse ++ rv g kd s0 :: rest)
    (k : ∀ r1 h1, Sim cv u g M d (pc + 3) ls ((cv' r1).toList ++ rest) h1 (f r1 h1)) : Sim cv u g M d pc ls st0 h (bnd o' f) := by
  intro r h' ho p e s m args below meth c H locs lsA C hP hS hl
  obtain ⟨r1, h1, ho1, ho2⟩ := bnd_some ho
  obtain ⟨hk, ⟨sl, hsl⟩, ⟨T, N, hcl⟩, hm, hlk, hin, hse⟩ := hv
  obtain ⟨q0, hi, hq⟩ := ws_at (g := g) (h := h) hk (Nat.mod_lt s0 (cnt_pos kd))
  rw [cellOf_obj hsl] at hq
  refine s_after (a := (rv g kd s0 :: As).toArray) (va_runV (As := As) (rest := rest) (b := g.1 kd (s0 % cnt kd)) (Ts := UW) ⟨C.1, C.2.1, C.2.2.2.1, C.2.2.2.2.1, C.2.2.2.2.2.1⟩ (hM r1 h1 ho1) ⟨callb C hm hlk hdd, C.2.2.2.2.2.1 _ hin, C.2.2.2.2.2.1 _ hse⟩ ⟨bef_blind _ u g h, va_recv C.2.2.2.2.2.2.1 hP hcl hq, fun U hU hW => ⟨rfl, by rw [hU]; exact hP, va_K.moved hW.alike C.2.2.2.2.2.2.1, C.2.2.2.2.2.2.2.2.1, C.2.2.2.2.2.2.2.2.2.step hS hW hU⟩⟩ rfl hn hl.1 hst (by show 2 * 0 + _ ≤ 8; omega) hd ⟨Nat.le_refl _, Nat.le_refl _⟩) hS (fun H1 locs1 hP1 hS1 => ?_)
  exact k r1 h1 r h' ho2 p e s m args below meth c H1 locs1 lsA C hP1 hS1 hl
theorem s_callS {ρ' : Type} {cv' : ρ' → Option Value} {M' : MI} {d' idx n : Nat} {As rest st0 : List Value} {o' : Option (ρ' × Hp)} {f : ρ' → Hp → Option (ρ × Hp)} (hM : Con cv' u g M' d' As h o') (hv : SL M.1.cls idx M' n) (hn : As.length = n) (hdd : d' + 1 ≤ d) (hr : (rest.map fun v => v.category).sum ≤ 8) (hd : decode M.2.1 pc = .ok (.invokestatic idx, 3)) (hst : st0 = As.reverse ++ rest)
    (k : ∀ r1 h1, Sim cv u g M d (pc + 3) ls ((cv' r1).toList ++ rest) h1 (f r1 h1)) : Sim cv u g M d pc ls st0 h (bnd o' f) := by
  intro r h' ho p e s m args below meth c H locs lsA C hP hS hl
  obtain ⟨r1, h1, ho1, ho2⟩ := bnd_some ho
  obtain ⟨hm, hlk, hst0⟩ := hv
  refine s_after (a := As.toArray) (va_runS (As := As) (rest := rest) (Ts := UW) ⟨C.1, C.2.1, C.2.2.2.1, C.2.2.2.2.1, C.2.2.2.2.2.1⟩ (hM r1 h1 ho1) ⟨callb C hm hlk hdd, C.2.2.2.2.2.1 _ hst0⟩ ⟨bef_blind _ u g h, fun U hU hW => ⟨rfl, by rw [hU]; exact hP, va_K.moved hW.alike C.2.2.2.2.2.2.1, C.2.2.2.2.2.2.2.2.1, C.2.2.2.2.2.2.2.2.2.step hS hW hU⟩⟩ rfl hn hl.1 hst (by show 2 * 0 + _ ≤ 8; omega) hd ⟨Nat.le_refl _, Nat.le_refl _⟩) hS (fun H1 locs1 hP1 hS1 => ?_)
  exact k r1 h1 r h' ho2 p e s m args below meth c H1 locs1 lsA C hP1 hS1 hl
def NL (own : String) (idx : Nat) (M' : MI) (n : Nat) : Prop := MD M' n ∧ (∀ s, Nst s → va_Nw (.methodLinkNest own idx M'.1 "PlateRunner") s) ∧ Cond.static M'.1 ∈ UW
theorem s_callN {ρ' : Type} {cv' : ρ' → Option Value} {M' : MI} {d' idx n : Nat} {As rest st0 : List Value} {o' : Option (ρ' × Hp)} {f : ρ' → Hp → Option (ρ × Hp)} (hM : Con cv' u g M' d' As h o') (hv : NL M.1.cls idx M' n) (hn : As.length = n) (hdd : d' + 1 ≤ d) (hr : (rest.map fun v => v.category).sum ≤ 8) (hd : decode M.2.1 pc = .ok (.invokestatic idx, 3)) (hst : st0 = As.reverse ++ rest)
    (k : ∀ r1 h1, Sim cv u g M d (pc + 3) ls ((cv' r1).toList ++ rest) h1 (f r1 h1)) : Sim cv u g M d pc ls st0 h (bnd o' f) := by
  intro r h' ho p e s m args below meth c H locs lsA C hP hS hl
  obtain ⟨r1, h1, ho1, ho2⟩ := bnd_some ho
  obtain ⟨⟨m1, m2, m3, m4, m5, m6⟩, hlk, hst0⟩ := hv
  have hcn := va_cnB (R := rm d) (args := args) (s := s) (own := M.1.cls) (host := "PlateRunner") (index := idx) (maxL := M'.2.2.1) (y := M'.1) (bytes := M'.2.1) (ret := M'.2.2.2) (Ts := UW) (ws := Cond.code M'.1 M'.2.1 M'.2.2.1 M'.2.2.2 :: UW) (rm := rm d') (mc := 0) (ms := 0) n C.2.2.2.2.2.1 (fun w hw => by
    rcases List.mem_cons.mp hw with rfl | hw
    · exact ⟨m5, UW_good m5⟩
    · exact ⟨hw, UW_good hw⟩) rfl rfl rfl (hlk s C.2.2.2.2.2.2.2.2.2.2.1) (C.2.2.2.2.2.1 _ m6) ⟨m1, m2, m3⟩ ⟨hdd, by show 8 + (M'.2.2.1 + 11) + 64 * d' ≤ 64 * d; omega⟩
  refine s_after (a := As.toArray) (va_runSN (As := As) (rest := rest) (Ts := UW) ⟨C.1, C.2.1, C.2.2.2.1, C.2.2.2.2.1, C.2.2.2.2.2.1⟩ (hM r1 h1 ho1) ⟨hcn, C.2.2.2.2.2.1 _ hst0, trivial⟩ ⟨bef_blind _ u g h, fun U hU hW => ⟨rfl, by rw [hU]; exact hP, va_K.moved hW.alike C.2.2.2.2.2.2.1, C.2.2.2.2.2.2.2.2.1, C.2.2.2.2.2.2.2.2.2.step hS hW hU⟩⟩ rfl hn hl.1 hst (by show 2 * 0 + _ ≤ 8; omega) hd ⟨Nat.le_refl _, Nat.le_refl _⟩) hS (fun H1 locs1 hP1 hS1 => ?_)
  exact k r1 h1 r h' ho2 p e s m args below meth c H1 locs1 lsA C hP1 hS1 hl
/-! the one long, and arraycopy -/
theorem kobj_long : ∀ (k : Nat), k ≠ 10 → ∀ sl, kobj k = some sl → ∀ e ∈ sl, e.1 ≠ 1 := by
  intro k hk sl hs
  match k, hk, hs with
  | 0, _, hs => cases hs; decide
  | 1, _, hs => cases hs; decide
  | 2, _, hs => cases hs; decide
  | 3, _, hs => cases hs; decide
  | 4, _, hs => cases hs; decide
  | 5, _, hs => cases hs; decide
  | 6, _, hs => cases hs; decide
  | 7, _, hs => cases hs; decide
  | 8, _, hs => cases hs; decide
  | 9, _, hs => cases hs; decide
  | 10, hk, _ => exact absurd rfl hk
  | k + 11, _, hs => cases hs
theorem sv_wl {g : GE} {h : Hp} {w : Int64} {k s i : Nat} {e : Nat × Nat × Nat × Nat} (he : e.1 ≠ 1) : sv g (wl h w) k s i e = sv g h k s i e := by
  unfold sv
  rw [if_neg he, if_neg he]
  rfl
theorem slv_wl {g : GE} {h : Hp} {w : Int64} {k s : Nat} : ∀ (sl : List (Nat × Nat × Nat × Nat)) (i : Nat), (∀ e ∈ sl, e.1 ≠ 1) → slv g (wl h w) k s i sl = slv g h k s i sl := by
  intro sl
  induction sl with
  | nil => intro i _; rfl
  | cons a l ih => intro i he; show _ :: _ = _ :: _; rw [sv_wl (he a List.mem_cons_self), ih _ (fun e h => he e (List.mem_cons_of_mem _ h))]
theorem s_putl {s0 idx i : Nat} {x : Int64} {f : Hp → Option (ρ × Hp)} (hone : ∀ sl, kobj 10 = some sl → ∀ j e, j ≠ i → sl[j]? = some e → e.1 ≠ 1) (hd : decode M.2.1 pc = .ok (.putfield idx, 3)) (hf : FL u M.1.cls idx 10 i (1, 0, 0, 0) .long false) (kk : ∀ h1, Sim cv u g M d (pc + 3) ls st h1 (f h1)) : Sim cv u g M d pc ls (.long x :: rv g 10 s0 :: st) h (lt (wl h x) f) := by
  refine s_put (h2 := wl h x) (ty := .long) rfl rfl rfl (fun sl hs j e hj hje => sv_wl (hone sl hs j e hj hje)) (fun y hy hne => ?_) hd hf (kk _)
  obtain ⟨k2, s2⟩ := y
  by_cases hk : k2 = 10
  · subst hk
    exfalso
    obtain ⟨k3, h3, h4⟩ := List.mem_flatMap.mp hy
    obtain ⟨s3, h5, h6⟩ := List.mem_map.mp h4
    cases h6
    have h7 := List.mem_range.mp h5
    have : cnt 10 = 1 := rfl
    apply hne
    rw [this] at h7 ⊢
    rw [Nat.mod_one]
    have : s2 = 0 := by omega
    rw [this]
  · show cellOf g (wl h x) k2 s2 = cellOf g h k2 s2
    unfold cellOf
    split
    · rename_i sl hs
      rw [slv_wl sl 0 (kobj_long k2 hk sl hs)]
    · rfl
def cpy (h : Hp) (k0 s0 k1 s1 n : Nat) : Hp := (fun a b c => if a = k1 ∧ b = s1 % cnt k1 ∧ c < n then h.1 k0 (s0 % cnt k0) c else h.1 a b c, h.2)
theorem cpy_cell {g : GE} {h : Hp} {k0 s0 k1 s1 n k2 s2 : Nat} (hne : (k2, s2) ≠ (k1, s1 % cnt k1)) : cellOf g (cpy h k0 s0 k1 s1 n) k2 s2 = cellOf g h k2 s2 := by
  have hz : ∀ c, (cpy h k0 s0 k1 s1 n).1 k2 s2 c = h.1 k2 s2 c := by
    intro c
    show (if k2 = k1 ∧ s2 = s1 % cnt k1 ∧ c < n then _ else h.1 k2 s2 c) = h.1 k2 s2 c
    rw [if_neg]
    rintro ⟨rfl, rfl, -⟩
    exact hne rfl
  have hs : ∀ i0 ds, sv g (cpy h k0 s0 k1 s1 n) k2 s2 i0 ds = sv g h k2 s2 i0 ds := by
    intro i0 ds
    unfold sv
    rw [hz]
    rfl
  have hl : ∀ (sl : List (Nat × Nat × Nat × Nat)) (i0 : Nat), slv g (cpy h k0 s0 k1 s1 n) k2 s2 i0 sl = slv g h k2 s2 i0 sl := by
    intro sl
    induction sl with
    | nil => intro i0; rfl
    | cons a l ih => intro i0; show _ :: _ = _ :: _; rw [hs, ih]
  unfold cellOf
  split
  · rw [hl]
  · split
    · rfl
    · rw [show (cpy h k0 s0 k1 s1 n).1 k2 s2 = h.1 k2 s2 from funext hz]
def fitB (h : Hp) (k s n : Nat) : Bool := (List.range n).all fun j => fits .byte (.int (h.1 k (s % cnt k) j))
def ACP (own : String) (ix : Nat) : Prop := Cond.methodLink own ix arraycopyName ∈ UW ∧ Cond.native arraycopyName ∈ UW ∧ Cond.static arraycopyName ∈ UW ∧ Cond.initialized "java/lang/System" ∈ UW
theorem s_acopy {t n0 n1 k0 s0 k1 s1 n ix : Nat} {nn : Int32} {ty : FieldType} {f : Hp → Option (ρ × Hp)} (b : Bool) (hka : KA u k0 t n0) (hkb : KA u k1 t n1) (ht : (tysOf g)[t]? = some (g.2.1 t, ty)) (hprim : refKind ty = false) (hn : nn = nI n) (hsm : n < 2 ^ 31) (hn0 : n ≤ n0) (hn1 : n ≤ n1) (hfit : b = true → ∀ i, i < n → fits ty (.int (h.1 k0 (s0 % cnt k0) i)) = true) (ha : ACP M.1.cls ix) (hdd : 1 ≤ d) (hr : (st.map fun v => v.category).sum + (nativeFrameWords "java/lang/System" "arraycopy" 5 + 11) ≤ 64) (hd : decode M.2.1 pc = .ok (.invokestatic ix, 3)) (k : ∀ h1, Sim cv u g M d (pc + 3) ls st h1 (f h1)) : Sim cv u g M d pc ls (.int nn :: .int 0 :: rv g k1 s1 :: .int 0 :: rv g k0 s0 :: st) h (ck b (lt (cpy h k0 s0 k1 s1 n) f)) := by
  intro r h' ho p e s m args below meth c H locs lsA C hP hS hl
  obtain ⟨hb, ho⟩ := ck_some ho
  obtain ⟨q0, hi0, hq0⟩ := ws_at (g := g) (h := h) hka.1 (Nat.mod_lt s0 (cnt_pos k0))
  obtain ⟨q1, hi1, hq1⟩ := ws_at (g := g) (h := h) hkb.1 (Nat.mod_lt s1 (cnt_pos k1))
  rw [cellOf_arr hka] at hq0
  rw [cellOf_arr hkb] at hq1
  subst hn
  have e0 : (0 : Int32).toNatClampNeg = 0 := rfl
  have en : (nI n).toNatClampNeg = n := nI_clamp hsm
  refine va_copyi C.1 C.2.1 (C.2.2.2.1.trans hl.1.symm) C.2.2.2.2.1 (C.2.2.2.2.2.1 _ ha.1) (C.2.2.2.2.2.1 _ ha.2.1) (C.2.2.2.2.2.1 _ ha.2.2.1) (C.2.2.2.2.2.1 _ ha.2.2.2) C.2.2.2.2.2.2.1 hP (ws_D C.2.2.2.2.2.2.2.2.1) hS q0 q1 t t (ty := ty) hq0 hq1 ht ht hprim (by decide) (by decide) (nI_pos hsm) (by rw [e0, en]; omega) (by rw [e0, en]; omega) (fun i hi => by rw [e0, Nat.zero_add]; exact hfit hb i (by rw [en] at hi; exact hi)) hdd (by show _ ≤ 64 * d; omega) hd (fun H1 locs1 hP1 _ hS1 => ?_)
  rw [ws_set (h2 := cpy h k0 s0 k1 s1 n) hi1 ?_ (fun x _ hx => cpy_cell hx)] at hP1
  · exact k _ r h' ho p e s m args below meth c H1 locs1 lsA C hP1 hS1 hl
  · rw [cellOf_arr hkb]
    have : (cpy h k0 s0 k1 s1 n).1 k1 (s1 % cnt k1) = va_cpy (h.1 k0 (s0 % cnt k0)) (h.1 k1 (s1 % cnt k1)) (0 : Int32).toNatClampNeg (0 : Int32).toNatClampNeg (nI n).toNatClampNeg := by
      funext j
      show (if k1 = k1 ∧ s1 % cnt k1 = s1 % cnt k1 ∧ j < n then h.1 k0 (s0 % cnt k0) j else h.1 k1 (s1 % cnt k1) j) = (if (0 : Int32).toNatClampNeg ≤ j ∧ j < (0 : Int32).toNatClampNeg + (nI n).toNatClampNeg then _ else _)
      rw [e0, en, Nat.zero_add, Nat.sub_zero, Nat.zero_add]
      by_cases hj : j < n
      · rw [if_pos ⟨rfl, rfl, hj⟩, if_pos ⟨Nat.zero_le _, hj⟩]
      · rw [if_neg (fun q => hj q.2.2), if_neg (fun q => hj q.2)]
    rw [this]
end Rows4

