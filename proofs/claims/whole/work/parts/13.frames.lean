/-! FRAMES: what a method may write. An entry: kind, number (none: any), slot (none: any) -/
abbrev FE : Type := Nat × Option Nat × Option Nat
def cov (q : FE) (k s i : Nat) : Prop := q.1 = k ∧ (q.2.1 = none ∨ q.2.1 = some s) ∧ (q.2.2 = none ∨ q.2.2 = some i)
def Fr (L : List FE) (h h' : Hp) : Prop := ∀ k s i, (∀ q ∈ L, ¬ cov q k s i) → h'.1 k s i = h.1 k s i
def FrO {ρ : Type} (L : List FE) (h0 : Hp) (o : Option (ρ × Hp)) : Prop := ∀ r h', o = some (r, h') → Fr L h0 h'
theorem Fr.rf {L : List FE} {h : Hp} : Fr L h h := fun _ _ _ _ => rfl
theorem Fr.tr {L : List FE} {h h1 h2 : Hp} (a : Fr L h h1) (b : Fr L h1 h2) : Fr L h h2 := fun k s i hn => (b k s i hn).trans (a k s i hn)
theorem Fr.mono {L L' : List FE} {h h1 : Hp} (a : Fr L' h h1) (hs : ∀ q ∈ L', q ∈ L) : Fr L h h1 := fun k s i hn => a k s i (fun q hq => hn q (hs q hq))
theorem Fr.pick {L L' : List FE} {h h1 : Hp} (a : Fr L' h h1) (ps : List Nat) (hp : ps.map (fun i => L[i]?) = L'.map some) : Fr L h h1 := a.mono (fun q hq => by
  have : some q ∈ ps.map (fun i => L[i]?) := by rw [hp]; exact List.mem_map.mpr ⟨q, hq, rfl⟩
  obtain ⟨i, -, hi⟩ := List.mem_map.mp this
  exact List.mem_of_getElem? hi)
/-- an entry that covers, by its place, each entry of another list -/
def wid (q q' : FE) : Prop := q.1 = q'.1 ∧ (q.2.1 = none ∨ q.2.1 = q'.2.1) ∧ (q.2.2 = none ∨ q.2.2 = q'.2.2)
theorem Fr.wide {L L' : List FE} {h h1 : Hp} (a : Fr L' h h1) (hs : ∀ q' ∈ L', ∃ q ∈ L, wid q q') : Fr L h h1 := fun k s i hn => a k s i (fun q' hq' hc => by
  obtain ⟨q, hq, w1, w2, w3⟩ := hs q' hq'
  obtain ⟨c1, c2, c3⟩ := hc
  refine hn q hq ⟨w1.trans c1, ?_, ?_⟩
  · rcases w2 with w | w
    · exact Or.inl w
    · rw [w]; exact c2
  · rcases w3 with w | w
    · exact Or.inl w
    · rw [w]; exact c3)
section FrR
variable {ρ α : Type} {L : List FE} {h0 h : Hp} {o : Option (ρ × Hp)}
theorem fro_none : FrO L h0 (none : Option (ρ × Hp)) := fun _ _ ho => by cases ho
theorem fro_some {x : ρ} (c : Fr L h0 h) : FrO L h0 (some (x, h)) := fun _ _ ho => by cases ho; exact c
theorem fro_ck {b : Bool} (k : FrO L h0 o) : FrO L h0 (ck b o) := fun r h' ho => k r h' (ck_some ho).2
theorem fro_let {x : α} {f : α → Option (ρ × Hp)} (k : ∀ y, FrO L h0 (f y)) : FrO L h0 (lt x f) := k x
theorem fro_if {c : Prop} [Decidable c] {o1 o2 : Option (ρ × Hp)} (k1 : FrO L h0 o1) (k2 : FrO L h0 o2) : FrO L h0 (if c then o1 else o2) := by
  by_cases hc : c
  · rw [if_pos hc]; exact k1
  · rw [if_neg hc]; exact k2
theorem fro_nl {q : Option Nat} {o1 : Option (ρ × Hp)} {f : Nat → Option (ρ × Hp)} (k1 : FrO L h0 o1) (k2 : ∀ a, FrO L h0 (f a)) : FrO L h0 (nl q o1 f) := by
  cases q with
  | none => exact k1
  | some a => exact k2 a
theorem fro_jn {κ : Type} (Pk : κ → Prop) {k : κ} {b : κ → Option (ρ × Hp)} (h1 : Pk k) (h2 : ∀ k, Pk k → FrO L h0 (b k)) : FrO L h0 (jn k b) := h2 k h1
theorem fr_wr {k s i : Nat} {v : Int32} (p : Nat) (hm : L[p]? = some (k, some (s % cnt k), some i)) : Fr L h (wr h k s i v) := by
  intro a b c hn
  show (if a = k ∧ b = s % cnt k ∧ c = i then v else h.1 a b c) = h.1 a b c
  rw [if_neg]
  rintro ⟨rfl, rfl, rfl⟩
  exact hn _ (List.mem_of_getElem? hm) ⟨rfl, Or.inr rfl, Or.inr rfl⟩
theorem fr_wa {k s : Nat} {i v : Int32} (p : Nat) (hm : L[p]? = some (k, some (s % cnt k), none)) : Fr L h (wa h k s i v) := by
  intro a b c hn
  show (if a = k ∧ b = s % cnt k ∧ c = i.toNatClampNeg then v else h.1 a b c) = h.1 a b c
  rw [if_neg]
  rintro ⟨rfl, rfl, rfl⟩
  exact hn _ (List.mem_of_getElem? hm) ⟨rfl, Or.inr rfl, Or.inl rfl⟩
theorem fr_cpy {k0 s0 k s n : Nat} (p : Nat) (hm : L[p]? = some (k, some (s % cnt k), none)) : Fr L h (cpy h k0 s0 k s n) := by
  intro a b c hn
  show (if a = k ∧ b = s % cnt k ∧ c < n then _ else h.1 a b c) = h.1 a b c
  rw [if_neg]
  rintro ⟨rfl, rfl, -⟩
  exact hn _ (List.mem_of_getElem? hm) ⟨rfl, Or.inr rfl, Or.inl rfl⟩
theorem fro_h {h1 : Hp} {f : Hp → Option (ρ × Hp)} (a : Fr L h h1) (c : Fr L h0 h) (k : ∀ h1, Fr L h0 h1 → FrO L h0 (f h1)) : FrO L h0 (lt h1 f) := k h1 (c.tr a)
theorem fro_wl {w : Int64} {f : Hp → Option (ρ × Hp)} (c : Fr L h0 h) (k : ∀ h1, Fr L h0 h1 → FrO L h0 (f h1)) : FrO L h0 (lt (wl h w) f) := k _ (fun a b d hn => c a b d hn)
theorem fro_bnd {ρ' : Type} {L' : List FE} {o' : Option (ρ' × Hp)} {f : ρ' → Hp → Option (ρ × Hp)} (a : FrO L' h o') (hs : ∀ h1, Fr L' h h1 → Fr L h h1) (c : Fr L h0 h) (k : ∀ r h1, Fr L h0 h1 → FrO L h0 (f r h1)) : FrO L h0 (bnd o' f) := by
  intro r h' ho
  obtain ⟨r1, h1, e1, e2⟩ := bnd_some ho
  exact k r1 h1 (c.tr (hs h1 (a r1 h1 e1))) r h' e2
end FrR
theorem fro_itr0 {ρ : Type} {L : List FE} {h0 : Hp} {body : (Hp → Option (ρ × Hp)) → Hp → Option (ρ × Hp)} (hs : ∀ rec, (∀ (h : Hp), Fr L h0 h → FrO L h0 (rec  h)) → ∀ (h : Hp), Fr L h0 h → FrO L h0 (body rec  h)) : ∀ (n : Nat) (h : Hp), Fr L h0 h → FrO L h0 (itr0 body n  h) := by
  intro n
  induction n with
  | zero => intro  h _; exact fro_none
  | succ n ih => exact hs _ ih
theorem fro_itr1 {ρ : Type} {L : List FE} {h0 : Hp} {body : (Int32 → Hp → Option (ρ × Hp)) → Int32 → Hp → Option (ρ × Hp)} (hs : ∀ rec, (∀ (x0 : Int32) (h : Hp), Fr L h0 h → FrO L h0 (rec x0 h)) → ∀ (x0 : Int32) (h : Hp), Fr L h0 h → FrO L h0 (body rec x0 h)) : ∀ (n : Nat) (x0 : Int32) (h : Hp), Fr L h0 h → FrO L h0 (itr1 body n x0 h) := by
  intro n
  induction n with
  | zero => intro x0 h _; exact fro_none
  | succ n ih => exact hs _ ih
theorem fro_itr2 {ρ : Type} {L : List FE} {h0 : Hp} {body : (Int32 → Int32 → Hp → Option (ρ × Hp)) → Int32 → Int32 → Hp → Option (ρ × Hp)} (hs : ∀ rec, (∀ (x0 x1 : Int32) (h : Hp), Fr L h0 h → FrO L h0 (rec x0 x1 h)) → ∀ (x0 x1 : Int32) (h : Hp), Fr L h0 h → FrO L h0 (body rec x0 x1 h)) : ∀ (n : Nat) (x0 x1 : Int32) (h : Hp), Fr L h0 h → FrO L h0 (itr2 body n x0 x1 h) := by
  intro n
  induction n with
  | zero => intro x0 x1 h _; exact fro_none
  | succ n ih => exact hs _ ih
theorem fro_itr3 {ρ : Type} {L : List FE} {h0 : Hp} {body : (Int32 → Int32 → Int32 → Hp → Option (ρ × Hp)) → Int32 → Int32 → Int32 → Hp → Option (ρ × Hp)} (hs : ∀ rec, (∀ (x0 x1 x2 : Int32) (h : Hp), Fr L h0 h → FrO L h0 (rec x0 x1 x2 h)) → ∀ (x0 x1 x2 : Int32) (h : Hp), Fr L h0 h → FrO L h0 (body rec x0 x1 x2 h)) : ∀ (n : Nat) (x0 x1 x2 : Int32) (h : Hp), Fr L h0 h → FrO L h0 (itr3 body n x0 x1 x2 h) := by
  intro n
  induction n with
  | zero => intro x0 x1 x2 h _; exact fro_none
  | succ n ih => exact hs _ ih
theorem fro_itr4 {ρ : Type} {L : List FE} {h0 : Hp} {body : (Int32 → Int32 → Int32 → Int32 → Hp → Option (ρ × Hp)) → Int32 → Int32 → Int32 → Int32 → Hp → Option (ρ × Hp)} (hs : ∀ rec, (∀ (x0 x1 x2 x3 : Int32) (h : Hp), Fr L h0 h → FrO L h0 (rec x0 x1 x2 x3 h)) → ∀ (x0 x1 x2 x3 : Int32) (h : Hp), Fr L h0 h → FrO L h0 (body rec x0 x1 x2 x3 h)) : ∀ (n : Nat) (x0 x1 x2 x3 : Int32) (h : Hp), Fr L h0 h → FrO L h0 (itr4 body n x0 x1 x2 x3 h) := by
  intro n
  induction n with
  | zero => intro x0 x1 x2 x3 h _; exact fro_none
  | succ n ih => exact hs _ ih
theorem fro_itr5 {ρ : Type} {L : List FE} {h0 : Hp} {body : (Int32 → Int32 → Int32 → Int32 → Int32 → Hp → Option (ρ × Hp)) → Int32 → Int32 → Int32 → Int32 → Int32 → Hp → Option (ρ × Hp)} (hs : ∀ rec, (∀ (x0 x1 x2 x3 x4 : Int32) (h : Hp), Fr L h0 h → FrO L h0 (rec x0 x1 x2 x3 x4 h)) → ∀ (x0 x1 x2 x3 x4 : Int32) (h : Hp), Fr L h0 h → FrO L h0 (body rec x0 x1 x2 x3 x4 h)) : ∀ (n : Nat) (x0 x1 x2 x3 x4 : Int32) (h : Hp), Fr L h0 h → FrO L h0 (itr5 body n x0 x1 x2 x3 x4 h) := by
  intro n
  induction n with
  | zero => intro x0 x1 x2 x3 x4 h _; exact fro_none
  | succ n ih => exact hs _ ih
theorem fro_itr6 {ρ : Type} {L : List FE} {h0 : Hp} {body : (Int32 → Int32 → Int32 → Int32 → Int32 → Int32 → Hp → Option (ρ × Hp)) → Int32 → Int32 → Int32 → Int32 → Int32 → Int32 → Hp → Option (ρ × Hp)} (hs : ∀ rec, (∀ (x0 x1 x2 x3 x4 x5 : Int32) (h : Hp), Fr L h0 h → FrO L h0 (rec x0 x1 x2 x3 x4 x5 h)) → ∀ (x0 x1 x2 x3 x4 x5 : Int32) (h : Hp), Fr L h0 h → FrO L h0 (body rec x0 x1 x2 x3 x4 x5 h)) : ∀ (n : Nat) (x0 x1 x2 x3 x4 x5 : Int32) (h : Hp), Fr L h0 h → FrO L h0 (itr6 body n x0 x1 x2 x3 x4 x5 h) := by
  intro n
  induction n with
  | zero => intro x0 x1 x2 x3 x4 x5 h _; exact fro_none
  | succ n ih => exact hs _ ih
theorem fro_itr7 {ρ : Type} {L : List FE} {h0 : Hp} {body : (Int32 → Int32 → Int32 → Int32 → Int32 → Int32 → Int32 → Hp → Option (ρ × Hp)) → Int32 → Int32 → Int32 → Int32 → Int32 → Int32 → Int32 → Hp → Option (ρ × Hp)} (hs : ∀ rec, (∀ (x0 x1 x2 x3 x4 x5 x6 : Int32) (h : Hp), Fr L h0 h → FrO L h0 (rec x0 x1 x2 x3 x4 x5 x6 h)) → ∀ (x0 x1 x2 x3 x4 x5 x6 : Int32) (h : Hp), Fr L h0 h → FrO L h0 (body rec x0 x1 x2 x3 x4 x5 x6 h)) : ∀ (n : Nat) (x0 x1 x2 x3 x4 x5 x6 : Int32) (h : Hp), Fr L h0 h → FrO L h0 (itr7 body n x0 x1 x2 x3 x4 x5 x6 h) := by
  intro n
  induction n with
  | zero => intro x0 x1 x2 x3 x4 x5 x6 h _; exact fro_none
  | succ n ih => exact hs _ ih
theorem fro_itr8 {ρ : Type} {L : List FE} {h0 : Hp} {body : (Int32 → Int32 → Int32 → Int32 → Int32 → Int32 → Int32 → Int32 → Hp → Option (ρ × Hp)) → Int32 → Int32 → Int32 → Int32 → Int32 → Int32 → Int32 → Int32 → Hp → Option (ρ × Hp)} (hs : ∀ rec, (∀ (x0 x1 x2 x3 x4 x5 x6 x7 : Int32) (h : Hp), Fr L h0 h → FrO L h0 (rec x0 x1 x2 x3 x4 x5 x6 x7 h)) → ∀ (x0 x1 x2 x3 x4 x5 x6 x7 : Int32) (h : Hp), Fr L h0 h → FrO L h0 (body rec x0 x1 x2 x3 x4 x5 x6 x7 h)) : ∀ (n : Nat) (x0 x1 x2 x3 x4 x5 x6 x7 : Int32) (h : Hp), Fr L h0 h → FrO L h0 (itr8 body n x0 x1 x2 x3 x4 x5 x6 x7 h) := by
  intro n
  induction n with
  | zero => intro x0 x1 x2 x3 x4 x5 x6 x7 h _; exact fro_none
  | succ n ih => exact hs _ ih
theorem fr_wrW {L : List FE} {h : Hp} {k s i : Nat} {v : Int32} (p : Nat) (hm : L[p]? = some (k, none, none)) : Fr L h (wr h k s i v) := by
  intro a b c hn
  show (if a = k ∧ b = s % cnt k ∧ c = i then v else h.1 a b c) = h.1 a b c
  rw [if_neg]
  rintro ⟨rfl, rfl, rfl⟩
  exact hn _ (List.mem_of_getElem? hm) ⟨rfl, Or.inl rfl, Or.inl rfl⟩
theorem fr_waW {L : List FE} {h : Hp} {k s : Nat} {i v : Int32} (p : Nat) (hm : L[p]? = some (k, none, none)) : Fr L h (wa h k s i v) := fr_wrW p hm
