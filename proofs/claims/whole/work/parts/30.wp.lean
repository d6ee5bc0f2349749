/-! PURE: weakest preconditions over the L1 functions -/
def WP {ρ : Type} (o : Option (ρ × Hp)) (P : ρ → Hp → Prop) : Prop := ∃ r h, o = some (r, h) ∧ P r h
section WPR
variable {ρ α : Type} {o : Option (ρ × Hp)} {P Q : ρ → Hp → Prop} {h : Hp}
theorem wp_some {x : ρ} (hp : P x h) : WP (some (x, h)) P := ⟨x, h, rfl, hp⟩
theorem wp_ck {b : Bool} (hb : b = true) (k : WP o P) : WP (ck b o) P := by
  unfold ck; rw [if_pos hb]; exact k
theorem wp_lt {x : α} {f : α → Option (ρ × Hp)} (k : WP (f x) P) : WP (lt x f) P := k
theorem wp_jn {κ : Type} {k : κ} {b : κ → Option (ρ × Hp)} (kk : WP (b k) P) : WP (jn k b) P := kk
theorem wp_bnd {ρ' : Type} {o' : Option (ρ' × Hp)} {f : ρ' → Hp → Option (ρ × Hp)} (k : WP o' (fun r h => WP (f r h) P)) : WP (bnd o' f) P := by
  obtain ⟨r, h1, e, r2, h2, e2, hp⟩ := k
  exact ⟨r2, h2, by rw [e]; exact e2, hp⟩
theorem wp_mono (k : WP o P) (hpq : ∀ r h, P r h → Q r h) : WP o Q := by
  obtain ⟨r, h1, e, hp⟩ := k
  exact ⟨r, h1, e, hpq r h1 hp⟩
theorem wp_fr {L : List FE} {h0 : Hp} (k : WP o P) (hf : FrO L h0 o) : WP o (fun r h => P r h ∧ Fr L h0 h) := by
  obtain ⟨r, h1, e, hp⟩ := k
  exact ⟨r, h1, e, hp, hf r h1 e⟩
theorem wp_eq {r : ρ} (e : o = some (r, h)) (hp : P r h) : WP o P := ⟨r, h, e, hp⟩
theorem wp_if {c : Prop} [Decidable c] {o1 o2 : Option (ρ × Hp)} (h1 : c → WP o1 P) (h2 : ¬ c → WP o2 P) : WP (if c then o1 else o2) P := by
  by_cases hc : c
  · rw [if_pos hc]; exact h1 hc
  · rw [if_neg hc]; exact h2 hc
end WPR
theorem bnd_eq {ρ α : Type} (r : ρ) (h : Hp) (f : ρ → Hp → Option α) : bnd (some (r, h)) f = f r h := rfl
theorem lt_eq {α β : Type} (x : α) (f : α → β) : lt x f = f x := rfl
theorem jn_eq {κ α : Type} (k : κ) (b : κ → α) : jn k b = b k := rfl
theorem ck_t {α : Type} (o : Option α) : ck true o = o := rfl
theorem ck_p {α : Type} {b : Bool} (h : b = true) (o : Option α) : ck b o = o := by rw [h]; rfl
theorem nl_s {α : Type} (s : Nat) (a : α) (f : Nat → α) : nl (some s) a f = f s := rfl
theorem nl_n {α : Type} (a : α) (f : Nat → α) : nl none a f = a := rfl
theorem itr0_s {α : Type} (body : (Hp → Option α) → Hp → Option α) (n : Nat) : itr0 body (n + 1) = body (itr0 body n) := rfl
theorem itr1_s {α : Type} (body : (Int32 → Hp → Option α) → Int32 → Hp → Option α) (n : Nat) : itr1 body (n + 1) = body (itr1 body n) := rfl
theorem itr2_s {α : Type} (body : (Int32 → Int32 → Hp → Option α) → Int32 → Int32 → Hp → Option α) (n : Nat) : itr2 body (n + 1) = body (itr2 body n) := rfl
theorem itr3_s {α : Type} (body : (Int32 → Int32 → Int32 → Hp → Option α) → Int32 → Int32 → Int32 → Hp → Option α) (n : Nat) : itr3 body (n + 1) = body (itr3 body n) := rfl
theorem ib_nI {n N : Nat} (h : n < N) (hN : N < 2 ^ 31) : ib (nI n) N = true := by
  unfold ib
  rw [nI_clamp (by omega)]
  simp [h, nI_pos (show n < 2 ^ 31 by omega)]
theorem zk_0 : zk 0 = true := rfl
theorem zk_1 : zk 1 = true := rfl
/-! Int32 over Nat -/
theorem nI_mul (a b : Nat) : nI a * nI b = nI (a * b) := by
  unfold nI
  simp [Int32.ofNat_mul]
theorem nI_sub {a b : Nat} (h : b ≤ a) : nI a - nI b = nI (a - b) := by
  have : nI (a - b) + nI b = nI a := by rw [nI_add]; congr 1; omega
  rw [← this]
  simp
theorem nI_lit (n : Nat) : (OfNat.ofNat n : Int32) = nI n := rfl
theorem wr_g (h : Hp) (k s i : Nat) (v : Int32) (k' s' i' : Nat) : (wr h k s i v).1 k' s' i' = if k' = k ∧ s' = s % cnt k ∧ i' = i then v else h.1 k' s' i' := rfl
theorem wa_g (h : Hp) (k s : Nat) (i v : Int32) (k' s' i' : Nat) : (wa h k s i v).1 k' s' i' = if k' = k ∧ s' = s % cnt k ∧ i' = i.toNatClampNeg then v else h.1 k' s' i' := rfl
theorem cpy_g (h : Hp) (k0 s0 k s n : Nat) (k' s' i' : Nat) : (cpy h k0 s0 k s n).1 k' s' i' = if k' = k ∧ s' = s % cnt k ∧ i' < n then h.1 k0 (s0 % cnt k0) i' else h.1 k' s' i' := rfl
theorem rd_g (h : Hp) (k s i : Nat) : rd h k s i = h.1 k (s % cnt k) i := rfl
theorem ra_g (h : Hp) (k s : Nat) (i : Int32) : ra h k s i = h.1 k (s % cnt k) i.toNatClampNeg := rfl
theorem ra_n {h : Hp} {k s n : Nat} (hn : n < 2 ^ 31) : ra h k s (nI n) = h.1 k (s % cnt k) n := by rw [ra_g, nI_clamp hn]
theorem wr_s (h : Hp) (k s i : Nat) (v : Int32) (w : (wr h k s i v).1 k (s % cnt k) i = v) : True := trivial
theorem wp_itr0 {ρ : Type} {P : ρ → Hp → Prop} {body : (Hp → Option (ρ × Hp)) → Hp → Option (ρ × Hp)} (I : Nat → Hp → Prop) (step : ∀ (m : Nat) (h : Hp) rec, I m  h → (∀ (m' : Nat) (h' : Hp), m' < m → I m'  h' → WP (rec  h') P) → WP (body rec  h) P) : ∀ (n m : Nat) (h : Hp), m < n → I m  h → WP (itr0 body n  h) P := by
  intro n
  induction n with
  | zero => intro m  h hm; exact absurd hm (Nat.not_lt_zero _)
  | succ n ih => intro m  h hm hi; exact step m  h _ hi (fun m'  h' hlt hi' => ih m'  h' (by omega) hi')
theorem wp_itr1 {ρ : Type} {P : ρ → Hp → Prop} {body : (Int32 → Hp → Option (ρ × Hp)) → Int32 → Hp → Option (ρ × Hp)} (I : Nat → Int32 → Hp → Prop) (step : ∀ (m : Nat) (x0 : Int32) (h : Hp) rec, I m x0 h → (∀ (m' : Nat) (y0 : Int32) (h' : Hp), m' < m → I m' y0 h' → WP (rec y0 h') P) → WP (body rec x0 h) P) : ∀ (n m : Nat) (x0 : Int32) (h : Hp), m < n → I m x0 h → WP (itr1 body n x0 h) P := by
  intro n
  induction n with
  | zero => intro m x0 h hm; exact absurd hm (Nat.not_lt_zero _)
  | succ n ih => intro m x0 h hm hi; exact step m x0 h _ hi (fun m' y0 h' hlt hi' => ih m' y0 h' (by omega) hi')
theorem wp_itr2 {ρ : Type} {P : ρ → Hp → Prop} {body : (Int32 → Int32 → Hp → Option (ρ × Hp)) → Int32 → Int32 → Hp → Option (ρ × Hp)} (I : Nat → Int32 → Int32 → Hp → Prop) (step : ∀ (m : Nat) (x0 x1 : Int32) (h : Hp) rec, I m x0 x1 h → (∀ (m' : Nat) (y0 y1 : Int32) (h' : Hp), m' < m → I m' y0 y1 h' → WP (rec y0 y1 h') P) → WP (body rec x0 x1 h) P) : ∀ (n m : Nat) (x0 x1 : Int32) (h : Hp), m < n → I m x0 x1 h → WP (itr2 body n x0 x1 h) P := by
  intro n
  induction n with
  | zero => intro m x0 x1 h hm; exact absurd hm (Nat.not_lt_zero _)
  | succ n ih => intro m x0 x1 h hm hi; exact step m x0 x1 h _ hi (fun m' y0 y1 h' hlt hi' => ih m' y0 y1 h' (by omega) hi')
theorem wp_itr3 {ρ : Type} {P : ρ → Hp → Prop} {body : (Int32 → Int32 → Int32 → Hp → Option (ρ × Hp)) → Int32 → Int32 → Int32 → Hp → Option (ρ × Hp)} (I : Nat → Int32 → Int32 → Int32 → Hp → Prop) (step : ∀ (m : Nat) (x0 x1 x2 : Int32) (h : Hp) rec, I m x0 x1 x2 h → (∀ (m' : Nat) (y0 y1 y2 : Int32) (h' : Hp), m' < m → I m' y0 y1 y2 h' → WP (rec y0 y1 y2 h') P) → WP (body rec x0 x1 x2 h) P) : ∀ (n m : Nat) (x0 x1 x2 : Int32) (h : Hp), m < n → I m x0 x1 x2 h → WP (itr3 body n x0 x1 x2 h) P := by
  intro n
  induction n with
  | zero => intro m x0 x1 x2 h hm; exact absurd hm (Nat.not_lt_zero _)
  | succ n ih => intro m x0 x1 x2 h hm hi; exact step m x0 x1 x2 h _ hi (fun m' y0 y1 y2 h' hlt hi' => ih m' y0 y1 y2 h' (by omega) hi')
theorem wp_itr4 {ρ : Type} {P : ρ → Hp → Prop} {body : (Int32 → Int32 → Int32 → Int32 → Hp → Option (ρ × Hp)) → Int32 → Int32 → Int32 → Int32 → Hp → Option (ρ × Hp)} (I : Nat → Int32 → Int32 → Int32 → Int32 → Hp → Prop) (step : ∀ (m : Nat) (x0 x1 x2 x3 : Int32) (h : Hp) rec, I m x0 x1 x2 x3 h → (∀ (m' : Nat) (y0 y1 y2 y3 : Int32) (h' : Hp), m' < m → I m' y0 y1 y2 y3 h' → WP (rec y0 y1 y2 y3 h') P) → WP (body rec x0 x1 x2 x3 h) P) : ∀ (n m : Nat) (x0 x1 x2 x3 : Int32) (h : Hp), m < n → I m x0 x1 x2 x3 h → WP (itr4 body n x0 x1 x2 x3 h) P := by
  intro n
  induction n with
  | zero => intro m x0 x1 x2 x3 h hm; exact absurd hm (Nat.not_lt_zero _)
  | succ n ih => intro m x0 x1 x2 x3 h hm hi; exact step m x0 x1 x2 x3 h _ hi (fun m' y0 y1 y2 y3 h' hlt hi' => ih m' y0 y1 y2 y3 h' (by omega) hi')
theorem wp_itr5 {ρ : Type} {P : ρ → Hp → Prop} {body : (Int32 → Int32 → Int32 → Int32 → Int32 → Hp → Option (ρ × Hp)) → Int32 → Int32 → Int32 → Int32 → Int32 → Hp → Option (ρ × Hp)} (I : Nat → Int32 → Int32 → Int32 → Int32 → Int32 → Hp → Prop) (step : ∀ (m : Nat) (x0 x1 x2 x3 x4 : Int32) (h : Hp) rec, I m x0 x1 x2 x3 x4 h → (∀ (m' : Nat) (y0 y1 y2 y3 y4 : Int32) (h' : Hp), m' < m → I m' y0 y1 y2 y3 y4 h' → WP (rec y0 y1 y2 y3 y4 h') P) → WP (body rec x0 x1 x2 x3 x4 h) P) : ∀ (n m : Nat) (x0 x1 x2 x3 x4 : Int32) (h : Hp), m < n → I m x0 x1 x2 x3 x4 h → WP (itr5 body n x0 x1 x2 x3 x4 h) P := by
  intro n
  induction n with
  | zero => intro m x0 x1 x2 x3 x4 h hm; exact absurd hm (Nat.not_lt_zero _)
  | succ n ih => intro m x0 x1 x2 x3 x4 h hm hi; exact step m x0 x1 x2 x3 x4 h _ hi (fun m' y0 y1 y2 y3 y4 h' hlt hi' => ih m' y0 y1 y2 y3 y4 h' (by omega) hi')
theorem wp_itr6 {ρ : Type} {P : ρ → Hp → Prop} {body : (Int32 → Int32 → Int32 → Int32 → Int32 → Int32 → Hp → Option (ρ × Hp)) → Int32 → Int32 → Int32 → Int32 → Int32 → Int32 → Hp → Option (ρ × Hp)} (I : Nat → Int32 → Int32 → Int32 → Int32 → Int32 → Int32 → Hp → Prop) (step : ∀ (m : Nat) (x0 x1 x2 x3 x4 x5 : Int32) (h : Hp) rec, I m x0 x1 x2 x3 x4 x5 h → (∀ (m' : Nat) (y0 y1 y2 y3 y4 y5 : Int32) (h' : Hp), m' < m → I m' y0 y1 y2 y3 y4 y5 h' → WP (rec y0 y1 y2 y3 y4 y5 h') P) → WP (body rec x0 x1 x2 x3 x4 x5 h) P) : ∀ (n m : Nat) (x0 x1 x2 x3 x4 x5 : Int32) (h : Hp), m < n → I m x0 x1 x2 x3 x4 x5 h → WP (itr6 body n x0 x1 x2 x3 x4 x5 h) P := by
  intro n
  induction n with
  | zero => intro m x0 x1 x2 x3 x4 x5 h hm; exact absurd hm (Nat.not_lt_zero _)
  | succ n ih => intro m x0 x1 x2 x3 x4 x5 h hm hi; exact step m x0 x1 x2 x3 x4 x5 h _ hi (fun m' y0 y1 y2 y3 y4 y5 h' hlt hi' => ih m' y0 y1 y2 y3 y4 y5 h' (by omega) hi')
theorem wp_itr7 {ρ : Type} {P : ρ → Hp → Prop} {body : (Int32 → Int32 → Int32 → Int32 → Int32 → Int32 → Int32 → Hp → Option (ρ × Hp)) → Int32 → Int32 → Int32 → Int32 → Int32 → Int32 → Int32 → Hp → Option (ρ × Hp)} (I : Nat → Int32 → Int32 → Int32 → Int32 → Int32 → Int32 → Int32 → Hp → Prop) (step : ∀ (m : Nat) (x0 x1 x2 x3 x4 x5 x6 : Int32) (h : Hp) rec, I m x0 x1 x2 x3 x4 x5 x6 h → (∀ (m' : Nat) (y0 y1 y2 y3 y4 y5 y6 : Int32) (h' : Hp), m' < m → I m' y0 y1 y2 y3 y4 y5 y6 h' → WP (rec y0 y1 y2 y3 y4 y5 y6 h') P) → WP (body rec x0 x1 x2 x3 x4 x5 x6 h) P) : ∀ (n m : Nat) (x0 x1 x2 x3 x4 x5 x6 : Int32) (h : Hp), m < n → I m x0 x1 x2 x3 x4 x5 x6 h → WP (itr7 body n x0 x1 x2 x3 x4 x5 x6 h) P := by
  intro n
  induction n with
  | zero => intro m x0 x1 x2 x3 x4 x5 x6 h hm; exact absurd hm (Nat.not_lt_zero _)
  | succ n ih => intro m x0 x1 x2 x3 x4 x5 x6 h hm hi; exact step m x0 x1 x2 x3 x4 x5 x6 h _ hi (fun m' y0 y1 y2 y3 y4 y5 y6 h' hlt hi' => ih m' y0 y1 y2 y3 y4 y5 y6 h' (by omega) hi')
theorem wp_itr8 {ρ : Type} {P : ρ → Hp → Prop} {body : (Int32 → Int32 → Int32 → Int32 → Int32 → Int32 → Int32 → Int32 → Hp → Option (ρ × Hp)) → Int32 → Int32 → Int32 → Int32 → Int32 → Int32 → Int32 → Int32 → Hp → Option (ρ × Hp)} (I : Nat → Int32 → Int32 → Int32 → Int32 → Int32 → Int32 → Int32 → Int32 → Hp → Prop) (step : ∀ (m : Nat) (x0 x1 x2 x3 x4 x5 x6 x7 : Int32) (h : Hp) rec, I m x0 x1 x2 x3 x4 x5 x6 x7 h → (∀ (m' : Nat) (y0 y1 y2 y3 y4 y5 y6 y7 : Int32) (h' : Hp), m' < m → I m' y0 y1 y2 y3 y4 y5 y6 y7 h' → WP (rec y0 y1 y2 y3 y4 y5 y6 y7 h') P) → WP (body rec x0 x1 x2 x3 x4 x5 x6 x7 h) P) : ∀ (n m : Nat) (x0 x1 x2 x3 x4 x5 x6 x7 : Int32) (h : Hp), m < n → I m x0 x1 x2 x3 x4 x5 x6 x7 h → WP (itr8 body n x0 x1 x2 x3 x4 x5 x6 x7 h) P := by
  intro n
  induction n with
  | zero => intro m x0 x1 x2 x3 x4 x5 x6 x7 h hm; exact absurd hm (Nat.not_lt_zero _)
  | succ n ih => intro m x0 x1 x2 x3 x4 x5 x6 x7 h hm hi; exact step m x0 x1 x2 x3 x4 x5 x6 x7 h _ hi (fun m' y0 y1 y2 y3 y4 y5 y6 y7 h' hlt hi' => ih m' y0 y1 y2 y3 y4 y5 y6 y7 h' (by omega) hi')
theorem FU_big : 3999999 < FU := by decide
