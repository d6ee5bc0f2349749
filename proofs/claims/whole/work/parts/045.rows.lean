section Rows5
variable {ρ : Type} {cv : ρ → Option Value} {u : Nat} {g : GE} {M : MI} {d pc : Nat} {ls : List (Nat × Value)} {st : List Value} {h : Hp} {o : Option (ρ × Hp)}
def FU : Nat := 4000000
def jn {κ α : Type} (k : κ) (b : κ → α) : α := b k
theorem s_none : Sim cv u g M d pc ls st h none := fun _ _ ho => by cases ho
theorem s_jn {κ : Type} (Pk : κ → Prop) {k : κ} {b : κ → Option (ρ × Hp)} (h1 : Pk k) (h2 : ∀ k, Pk k → Sim cv u g M d pc ls st h (b k)) : Sim cv u g M d pc ls st h (jn k b) := h2 k h1
def itr0 {α : Type} (body : (Hp → Option α) → Hp → Option α) : Nat → Hp → Option α
  | 0 => fun _  => none
  | n + 1 => body (itr0 body n)
theorem s_itr0 (Pk : Hp → Option (ρ × Hp) → Prop) {body : (Hp → Option (ρ × Hp)) → Hp → Option (ρ × Hp)} (h0 : ∀ (h : Hp), Pk  h none) (hs : ∀ rec, (∀ (h : Hp), Pk  h (rec  h)) → ∀ (h : Hp), Pk  h (body rec  h)) : ∀ (n : Nat) (h : Hp), Pk  h (itr0 body n  h) := by
  intro n
  induction n with
  | zero => exact h0
  | succ n ih => exact hs _ ih
def itr1 {α : Type} (body : (Int32 → Hp → Option α) → Int32 → Hp → Option α) : Nat → Int32 → Hp → Option α
  | 0 => fun _ _  => none
  | n + 1 => body (itr1 body n)
theorem s_itr1 (Pk : Int32 → Hp → Option (ρ × Hp) → Prop) {body : (Int32 → Hp → Option (ρ × Hp)) → Int32 → Hp → Option (ρ × Hp)} (h0 : ∀ (x0 : Int32) (h : Hp), Pk x0 h none) (hs : ∀ rec, (∀ (x0 : Int32) (h : Hp), Pk x0 h (rec x0 h)) → ∀ (x0 : Int32) (h : Hp), Pk x0 h (body rec x0 h)) : ∀ (n : Nat) (x0 : Int32) (h : Hp), Pk x0 h (itr1 body n x0 h) := by
  intro n
  induction n with
  | zero => exact h0
  | succ n ih => exact hs _ ih
def itr2 {α : Type} (body : (Int32 → Int32 → Hp → Option α) → Int32 → Int32 → Hp → Option α) : Nat → Int32 → Int32 → Hp → Option α
  | 0 => fun _ _ _  => none
  | n + 1 => body (itr2 body n)
theorem s_itr2 (Pk : Int32 → Int32 → Hp → Option (ρ × Hp) → Prop) {body : (Int32 → Int32 → Hp → Option (ρ × Hp)) → Int32 → Int32 → Hp → Option (ρ × Hp)} (h0 : ∀ (x0 x1 : Int32) (h : Hp), Pk x0 x1 h none) (hs : ∀ rec, (∀ (x0 x1 : Int32) (h : Hp), Pk x0 x1 h (rec x0 x1 h)) → ∀ (x0 x1 : Int32) (h : Hp), Pk x0 x1 h (body rec x0 x1 h)) : ∀ (n : Nat) (x0 x1 : Int32) (h : Hp), Pk x0 x1 h (itr2 body n x0 x1 h) := by
  intro n
  induction n with
  | zero => exact h0
  | succ n ih => exact hs _ ih
def itr3 {α : Type} (body : (Int32 → Int32 → Int32 → Hp → Option α) → Int32 → Int32 → Int32 → Hp → Option α) : Nat → Int32 → Int32 → Int32 → Hp → Option α
  | 0 => fun _ _ _ _  => none
  | n + 1 => body (itr3 body n)
theorem s_itr3 (Pk : Int32 → Int32 → Int32 → Hp → Option (ρ × Hp) → Prop) {body : (Int32 → Int32 → Int32 → Hp → Option (ρ × Hp)) → Int32 → Int32 → Int32 → Hp → Option (ρ × Hp)} (h0 : ∀ (x0 x1 x2 : Int32) (h : Hp), Pk x0 x1 x2 h none) (hs : ∀ rec, (∀ (x0 x1 x2 : Int32) (h : Hp), Pk x0 x1 x2 h (rec x0 x1 x2 h)) → ∀ (x0 x1 x2 : Int32) (h : Hp), Pk x0 x1 x2 h (body rec x0 x1 x2 h)) : ∀ (n : Nat) (x0 x1 x2 : Int32) (h : Hp), Pk x0 x1 x2 h (itr3 body n x0 x1 x2 h) := by
  intro n
  induction n with
  | zero => exact h0
  | succ n ih => exact hs _ ih
def itr4 {α : Type} (body : (Int32 → Int32 → Int32 → Int32 → Hp → Option α) → Int32 → Int32 → Int32 → Int32 → Hp → Option α) : Nat → Int32 → Int32 → Int32 → Int32 → Hp → Option α
  | 0 => fun _ _ _ _ _  => none
  | n + 1 => body (itr4 body n)
theorem s_itr4 (Pk : Int32 → Int32 → Int32 → Int32 → Hp → Option (ρ × Hp) → Prop) {body : (Int32 → Int32 → Int32 → Int32 → Hp → Option (ρ × Hp)) → Int32 → Int32 → Int32 → Int32 → Hp → Option (ρ × Hp)} (h0 : ∀ (x0 x1 x2 x3 : Int32) (h : Hp), Pk x0 x1 x2 x3 h none) (hs : ∀ rec, (∀ (x0 x1 x2 x3 : Int32) (h : Hp), Pk x0 x1 x2 x3 h (rec x0 x1 x2 x3 h)) → ∀ (x0 x1 x2 x3 : Int32) (h : Hp), Pk x0 x1 x2 x3 h (body rec x0 x1 x2 x3 h)) : ∀ (n : Nat) (x0 x1 x2 x3 : Int32) (h : Hp), Pk x0 x1 x2 x3 h (itr4 body n x0 x1 x2 x3 h) := by
  intro n
  induction n with
  | zero => exact h0
  | succ n ih => exact hs _ ih
def itr5 {α : Type} (body : (Int32 → Int32 → Int32 → Int32 → Int32 → Hp → Option α) → Int32 → Int32 → Int32 → Int32 → Int32 → Hp → Option α) : Nat → Int32 → Int32 → Int32 → Int32 → Int32 → Hp → Option α
  | 0 => fun _ _ _ _ _ _  => none
  | n + 1 => body (itr5 body n)
theorem s_itr5 (Pk : Int32 → Int32 → Int32 → Int32 → Int32 → Hp → Option (ρ × Hp) → Prop) {body : (Int32 → Int32 → Int32 → Int32 → Int32 → Hp → Option (ρ × Hp)) → Int32 → Int32 → Int32 → Int32 → Int32 → Hp → Option (ρ × Hp)} (h0 : ∀ (x0 x1 x2 x3 x4 : Int32) (h : Hp), Pk x0 x1 x2 x3 x4 h none) (hs : ∀ rec, (∀ (x0 x1 x2 x3 x4 : Int32) (h : Hp), Pk x0 x1 x2 x3 x4 h (rec x0 x1 x2 x3 x4 h)) → ∀ (x0 x1 x2 x3 x4 : Int32) (h : Hp), Pk x0 x1 x2 x3 x4 h (body rec x0 x1 x2 x3 x4 h)) : ∀ (n : Nat) (x0 x1 x2 x3 x4 : Int32) (h : Hp), Pk x0 x1 x2 x3 x4 h (itr5 body n x0 x1 x2 x3 x4 h) := by
  intro n
  induction n with
  | zero => exact h0
  | succ n ih => exact hs _ ih
def itr6 {α : Type} (body : (Int32 → Int32 → Int32 → Int32 → Int32 → Int32 → Hp → Option α) → Int32 → Int32 → Int32 → Int32 → Int32 → Int32 → Hp → Option α) : Nat → Int32 → Int32 → Int32 → Int32 → Int32 → Int32 → Hp → Option α
  | 0 => fun _ _ _ _ _ _ _  => none
  | n + 1 => body (itr6 body n)
theorem s_itr6 (Pk : Int32 → Int32 → Int32 → Int32 → Int32 → Int32 → Hp → Option (ρ × Hp) → Prop) {body : (Int32 → Int32 → Int32 → Int32 → Int32 → Int32 → Hp → Option (ρ × Hp)) → Int32 → Int32 → Int32 → Int32 → Int32 → Int32 → Hp → Option (ρ × Hp)} (h0 : ∀ (x0 x1 x2 x3 x4 x5 : Int32) (h : Hp), Pk x0 x1 x2 x3 x4 x5 h none) (hs : ∀ rec, (∀ (x0 x1 x2 x3 x4 x5 : Int32) (h : Hp), Pk x0 x1 x2 x3 x4 x5 h (rec x0 x1 x2 x3 x4 x5 h)) → ∀ (x0 x1 x2 x3 x4 x5 : Int32) (h : Hp), Pk x0 x1 x2 x3 x4 x5 h (body rec x0 x1 x2 x3 x4 x5 h)) : ∀ (n : Nat) (x0 x1 x2 x3 x4 x5 : Int32) (h : Hp), Pk x0 x1 x2 x3 x4 x5 h (itr6 body n x0 x1 x2 x3 x4 x5 h) := by
  intro n
  induction n with
  | zero => exact h0
  | succ n ih => exact hs _ ih
def itr7 {α : Type} (body : (Int32 → Int32 → Int32 → Int32 → Int32 → Int32 → Int32 → Hp → Option α) → Int32 → Int32 → Int32 → Int32 → Int32 → Int32 → Int32 → Hp → Option α) : Nat → Int32 → Int32 → Int32 → Int32 → Int32 → Int32 → Int32 → Hp → Option α
  | 0 => fun _ _ _ _ _ _ _ _  => none
  | n + 1 => body (itr7 body n)
theorem s_itr7 (Pk : Int32 → Int32 → Int32 → Int32 → Int32 → Int32 → Int32 → Hp → Option (ρ × Hp) → Prop) {body : (Int32 → Int32 → Int32 → Int32 → Int32 → Int32 → Int32 → Hp → Option (ρ × Hp)) → Int32 → Int32 → Int32 → Int32 → Int32 → Int32 → Int32 → Hp → Option (ρ × Hp)} (h0 : ∀ (x0 x1 x2 x3 x4 x5 x6 : Int32) (h : Hp), Pk x0 x1 x2 x3 x4 x5 x6 h none) (hs : ∀ rec, (∀ (x0 x1 x2 x3 x4 x5 x6 : Int32) (h : Hp), Pk x0 x1 x2 x3 x4 x5 x6 h (rec x0 x1 x2 x3 x4 x5 x6 h)) → ∀ (x0 x1 x2 x3 x4 x5 x6 : Int32) (h : Hp), Pk x0 x1 x2 x3 x4 x5 x6 h (body rec x0 x1 x2 x3 x4 x5 x6 h)) : ∀ (n : Nat) (x0 x1 x2 x3 x4 x5 x6 : Int32) (h : Hp), Pk x0 x1 x2 x3 x4 x5 x6 h (itr7 body n x0 x1 x2 x3 x4 x5 x6 h) := by
  intro n
  induction n with
  | zero => exact h0
  | succ n ih => exact hs _ ih
def itr8 {α : Type} (body : (Int32 → Int32 → Int32 → Int32 → Int32 → Int32 → Int32 → Int32 → Hp → Option α) → Int32 → Int32 → Int32 → Int32 → Int32 → Int32 → Int32 → Int32 → Hp → Option α) : Nat → Int32 → Int32 → Int32 → Int32 → Int32 → Int32 → Int32 → Int32 → Hp → Option α
  | 0 => fun _ _ _ _ _ _ _ _ _  => none
  | n + 1 => body (itr8 body n)
theorem s_itr8 (Pk : Int32 → Int32 → Int32 → Int32 → Int32 → Int32 → Int32 → Int32 → Hp → Option (ρ × Hp) → Prop) {body : (Int32 → Int32 → Int32 → Int32 → Int32 → Int32 → Int32 → Int32 → Hp → Option (ρ × Hp)) → Int32 → Int32 → Int32 → Int32 → Int32 → Int32 → Int32 → Int32 → Hp → Option (ρ × Hp)} (h0 : ∀ (x0 x1 x2 x3 x4 x5 x6 x7 : Int32) (h : Hp), Pk x0 x1 x2 x3 x4 x5 x6 x7 h none) (hs : ∀ rec, (∀ (x0 x1 x2 x3 x4 x5 x6 x7 : Int32) (h : Hp), Pk x0 x1 x2 x3 x4 x5 x6 x7 h (rec x0 x1 x2 x3 x4 x5 x6 x7 h)) → ∀ (x0 x1 x2 x3 x4 x5 x6 x7 : Int32) (h : Hp), Pk x0 x1 x2 x3 x4 x5 x6 x7 h (body rec x0 x1 x2 x3 x4 x5 x6 x7 h)) : ∀ (n : Nat) (x0 x1 x2 x3 x4 x5 x6 x7 : Int32) (h : Hp), Pk x0 x1 x2 x3 x4 x5 x6 x7 h (itr8 body n x0 x1 x2 x3 x4 x5 x6 x7 h) := by
  intro n
  induction n with
  | zero => exact h0
  | succ n ih => exact hs _ ih
theorem s_iincl (j : Nat) {i : Nat} {n : Int} {x w : Int32} {f : Int32 → Option (ρ × Hp)} (L : Int32 → List (Nat × Value)) (hd : decode M.2.1 pc = .ok (.iinc i n, 3)) (hj : ls[j]? = some (i, .int x)) (hw : Int32.ofInt n = w) (hn : i < M.2.2.1) (he : ∀ v, (i, Value.int v) :: ls.filter (fun q => !(q.1 == i) && !(q.1 + 1 == i && q.2.category == 2)) = L v) (k : ∀ v, Sim cv u g M d (pc + 3) (L v) st h (f v)) : Sim cv u g M d pc ls st h (lt (x + w) f) := s_iinc j hd hj hw rfl hn (he _) (k _)
theorem s_callVi {kd s0 : Nat} {M' : MI} {d' idx n : Nat} {As rest st0 : List Value} {o' : Option (Int32 × Hp)} {f : Int32 → Hp → Option (ρ × Hp)} (hM : Con cvi u g M' d' (rv g kd s0 :: As) h o') (hv : VL u M.1.cls idx M' kd n) (hn : As.length = n) (hdd : d' + 1 ≤ d) (hr : (rest.map fun v => v.category).sum ≤ 8) (hd : decode M.2.1 pc = .ok (.invokevirtual idx, 3)) (hst : st0 = As.reverse ++ rv g kd s0 :: rest) (k : ∀ (r1 : Int32) (h1 : Hp), Sim cv u g M d (pc + 3) ls (.int r1 :: rest) h1 (f r1 h1)) : Sim cv u g M d pc ls st0 h (bnd o' f) := s_callV hM hv hn hdd hr hd hst k
theorem s_callVv {kd s0 : Nat} {M' : MI} {d' idx n : Nat} {As rest st0 : List Value} {o' : Option (Unit × Hp)} {f : Unit → Hp → Option (ρ × Hp)} (hM : Con cvv u g M' d' (rv g kd s0 :: As) h o') (hv : VL u M.1.cls idx M' kd n) (hn : As.length = n) (hdd : d' + 1 ≤ d) (hr : (rest.map fun v => v.category).sum ≤ 8) (hd : decode M.2.1 pc = .ok (.invokevirtual idx, 3)) (hst : st0 = As.reverse ++ rv g kd s0 :: rest) (k : ∀ (h1 : Hp), Sim cv u g M d (pc + 3) ls (rest) h1 (f () h1)) : Sim cv u g M d pc ls st0 h (bnd o' f) := s_callV hM hv hn hdd hr hd hst (fun _ h1 => k h1)
theorem s_callVq {kd s0 : Nat} {kq : Nat} {M' : MI} {d' idx n : Nat} {As rest st0 : List Value} {o' : Option (Option Nat × Hp)} {f : Option Nat → Hp → Option (ρ × Hp)} (hM : Con (cvr g kq) u g M' d' (rv g kd s0 :: As) h o') (hv : VL u M.1.cls idx M' kd n) (hn : As.length = n) (hdd : d' + 1 ≤ d) (hr : (rest.map fun v => v.category).sum ≤ 8) (hd : decode M.2.1 pc = .ok (.invokevirtual idx, 3)) (hst : st0 = As.reverse ++ rv g kd s0 :: rest) (k : ∀ (r1 : Option Nat) (h1 : Hp), Sim cv u g M d (pc + 3) ls (rq g kq r1 :: rest) h1 (f r1 h1)) : Sim cv u g M d pc ls st0 h (bnd o' f) := s_callV hM hv hn hdd hr hd hst k
theorem s_callVs {kd s0 : Nat} {M' : MI} {d' idx n : Nat} {As rest st0 : List Value} {o' : Option (Nat × Hp)} {f : Nat → Hp → Option (ρ × Hp)} (hM : Con (cvs g) u g M' d' (rv g kd s0 :: As) h o') (hv : VL u M.1.cls idx M' kd n) (hn : As.length = n) (hdd : d' + 1 ≤ d) (hr : (rest.map fun v => v.category).sum ≤ 8) (hd : decode M.2.1 pc = .ok (.invokevirtual idx, 3)) (hst : st0 = As.reverse ++ rv g kd s0 :: rest) (k : ∀ (r1 : Nat) (h1 : Hp), Sim cv u g M d (pc + 3) ls (.ref (g.2.2.2.2.1 r1) :: rest) h1 (f r1 h1)) : Sim cv u g M d pc ls st0 h (bnd o' f) := s_callV hM hv hn hdd hr hd hst k
theorem s_callSi {M' : MI} {d' idx n : Nat} {As rest st0 : List Value} {o' : Option (Int32 × Hp)} {f : Int32 → Hp → Option (ρ × Hp)} (hM : Con cvi u g M' d' As h o') (hv : SL M.1.cls idx M' n) (hn : As.length = n) (hdd : d' + 1 ≤ d) (hr : (rest.map fun v => v.category).sum ≤ 8) (hd : decode M.2.1 pc = .ok (.invokestatic idx, 3)) (hst : st0 = As.reverse ++ rest) (k : ∀ (r1 : Int32) (h1 : Hp), Sim cv u g M d (pc + 3) ls (.int r1 :: rest) h1 (f r1 h1)) : Sim cv u g M d pc ls st0 h (bnd o' f) := s_callS hM hv hn hdd hr hd hst k
theorem s_callSv {M' : MI} {d' idx n : Nat} {As rest st0 : List Value} {o' : Option (Unit × Hp)} {f : Unit → Hp → Option (ρ × Hp)} (hM : Con cvv u g M' d' As h o') (hv : SL M.1.cls idx M' n) (hn : As.length = n) (hdd : d' + 1 ≤ d) (hr : (rest.map fun v => v.category).sum ≤ 8) (hd : decode M.2.1 pc = .ok (.invokestatic idx, 3)) (hst : st0 = As.reverse ++ rest) (k : ∀ (h1 : Hp), Sim cv u g M d (pc + 3) ls (rest) h1 (f () h1)) : Sim cv u g M d pc ls st0 h (bnd o' f) := s_callS hM hv hn hdd hr hd hst (fun _ h1 => k h1)
theorem s_callSq {kq : Nat} {M' : MI} {d' idx n : Nat} {As rest st0 : List Value} {o' : Option (Option Nat × Hp)} {f : Option Nat → Hp → Option (ρ × Hp)} (hM : Con (cvr g kq) u g M' d' As h o') (hv : SL M.1.cls idx M' n) (hn : As.length = n) (hdd : d' + 1 ≤ d) (hr : (rest.map fun v => v.category).sum ≤ 8) (hd : decode M.2.1 pc = .ok (.invokestatic idx, 3)) (hst : st0 = As.reverse ++ rest) (k : ∀ (r1 : Option Nat) (h1 : Hp), Sim cv u g M d (pc + 3) ls (rq g kq r1 :: rest) h1 (f r1 h1)) : Sim cv u g M d pc ls st0 h (bnd o' f) := s_callS hM hv hn hdd hr hd hst k
theorem s_callSs {M' : MI} {d' idx n : Nat} {As rest st0 : List Value} {o' : Option (Nat × Hp)} {f : Nat → Hp → Option (ρ × Hp)} (hM : Con (cvs g) u g M' d' As h o') (hv : SL M.1.cls idx M' n) (hn : As.length = n) (hdd : d' + 1 ≤ d) (hr : (rest.map fun v => v.category).sum ≤ 8) (hd : decode M.2.1 pc = .ok (.invokestatic idx, 3)) (hst : st0 = As.reverse ++ rest) (k : ∀ (r1 : Nat) (h1 : Hp), Sim cv u g M d (pc + 3) ls (.ref (g.2.2.2.2.1 r1) :: rest) h1 (f r1 h1)) : Sim cv u g M d pc ls st0 h (bnd o' f) := s_callS hM hv hn hdd hr hd hst k
theorem s_callNi {M' : MI} {d' idx n : Nat} {As rest st0 : List Value} {o' : Option (Int32 × Hp)} {f : Int32 → Hp → Option (ρ × Hp)} (hM : Con cvi u g M' d' As h o') (hv : NL M.1.cls idx M' n) (hn : As.length = n) (hdd : d' + 1 ≤ d) (hr : (rest.map fun v => v.category).sum ≤ 8) (hd : decode M.2.1 pc = .ok (.invokestatic idx, 3)) (hst : st0 = As.reverse ++ rest) (k : ∀ (r1 : Int32) (h1 : Hp), Sim cv u g M d (pc + 3) ls (.int r1 :: rest) h1 (f r1 h1)) : Sim cv u g M d pc ls st0 h (bnd o' f) := s_callN hM hv hn hdd hr hd hst k
theorem s_callNv {M' : MI} {d' idx n : Nat} {As rest st0 : List Value} {o' : Option (Unit × Hp)} {f : Unit → Hp → Option (ρ × Hp)} (hM : Con cvv u g M' d' As h o') (hv : NL M.1.cls idx M' n) (hn : As.length = n) (hdd : d' + 1 ≤ d) (hr : (rest.map fun v => v.category).sum ≤ 8) (hd : decode M.2.1 pc = .ok (.invokestatic idx, 3)) (hst : st0 = As.reverse ++ rest) (k : ∀ (h1 : Hp), Sim cv u g M d (pc + 3) ls (rest) h1 (f () h1)) : Sim cv u g M d pc ls st0 h (bnd o' f) := s_callN hM hv hn hdd hr hd hst (fun _ h1 => k h1)
theorem s_callNq {kq : Nat} {M' : MI} {d' idx n : Nat} {As rest st0 : List Value} {o' : Option (Option Nat × Hp)} {f : Option Nat → Hp → Option (ρ × Hp)} (hM : Con (cvr g kq) u g M' d' As h o') (hv : NL M.1.cls idx M' n) (hn : As.length = n) (hdd : d' + 1 ≤ d) (hr : (rest.map fun v => v.category).sum ≤ 8) (hd : decode M.2.1 pc = .ok (.invokestatic idx, 3)) (hst : st0 = As.reverse ++ rest) (k : ∀ (r1 : Option Nat) (h1 : Hp), Sim cv u g M d (pc + 3) ls (rq g kq r1 :: rest) h1 (f r1 h1)) : Sim cv u g M d pc ls st0 h (bnd o' f) := s_callN hM hv hn hdd hr hd hst k
theorem s_callNs {M' : MI} {d' idx n : Nat} {As rest st0 : List Value} {o' : Option (Nat × Hp)} {f : Nat → Hp → Option (ρ × Hp)} (hM : Con (cvs g) u g M' d' As h o') (hv : NL M.1.cls idx M' n) (hn : As.length = n) (hdd : d' + 1 ≤ d) (hr : (rest.map fun v => v.category).sum ≤ 8) (hd : decode M.2.1 pc = .ok (.invokestatic idx, 3)) (hst : st0 = As.reverse ++ rest) (k : ∀ (r1 : Nat) (h1 : Hp), Sim cv u g M d (pc + 3) ls (.ref (g.2.2.2.2.1 r1) :: rest) h1 (f r1 h1)) : Sim cv u g M d pc ls st0 h (bnd o' f) := s_callN hM hv hn hdd hr hd hst k
theorem fitB_get {h : Hp} {k s n : Nat} (hb : fitB h k s n = true) : ∀ i, i < n → fits .byte (.int (h.1 k (s % cnt k) i)) = true := fun i hi => List.all_eq_true.mp hb i (List.mem_range.mpr hi)
end Rows5
theorem one_long : ∀ sl, kobj 10 = some sl → ∀ j e, j ≠ 14 → sl[j]? = some e → e.1 ≠ 1 := by
  intro sl hs j e hj he h1
  cases hs
  have key : ∀ j < 62, j ≠ 14 → (([(0, 0, 0, 0), (2, 43, 0, 0), (2, 44, 0, 0), (2, 45, 0, 0), (2, 46, 0, 0), (2, 47, 0, 0), (2, 48, 0, 0), (2, 49, 0, 0), (2, 50, 0, 0), (0, 0, 0, 0), (0, 0, 0, 0), (0, 0, 0, 0), (0, 0, 0, 0), (0, 0, 0, 0), (1, 0, 0, 0), (0, 0, 0, 0), (0, 0, 0, 0), (0, 0, 0, 0), (2, 51, 0, 0), (2, 52, 0, 0), (0, 0, 0, 0), (0, 0, 0, 0), (0, 0, 0, 0), (0, 0, 0, 0), (0, 0, 0, 0), (0, 0, 0, 0), (2, 53, 0, 0), (2, 54, 0, 0), (2, 55, 0, 0), (0, 0, 0, 0), (0, 0, 0, 0), (0, 0, 0, 0), (0, 0, 0, 0), (0, 0, 0, 0), (0, 0, 0, 0), (0, 0, 0, 0), (0, 0, 0, 0), (0, 0, 0, 0), (2, 56, 0, 0), (2, 57, 0, 0), (0, 0, 0, 0), (2, 58, 0, 0), (2, 59, 0, 0), (2, 60, 0, 0), (2, 61, 0, 0), (2, 62, 0, 0), (0, 0, 0, 0), (0, 0, 0, 0), (2, 63, 0, 0), (0, 0, 0, 0), (2, 64, 0, 0), (0, 0, 0, 0), (0, 0, 0, 0), (0, 0, 0, 0), (0, 0, 0, 0), (0, 0, 0, 0), (0, 0, 0, 0), (0, 0, 0, 0), (2, 65, 0, 0), (2, 66, 0, 0), (0, 0, 0, 0), (2, 67, 0, 0)] : List (Nat × Nat × Nat × Nat))[j]?).map (fun q => q.1) ≠ some 1 := by decide +kernel
  have hl := (List.getElem?_eq_some_iff.mp he).1
  exact key j hl hj (by rw [he]; simp [h1])
