/-! STANDS, pure: a stand is a number; its rows of kept runs, how long it lasts -/
abbrev KG : Type := (Nat → Bool) × Nat × Nat × (Nat → Nat) × (Nat → Nat) × (Nat → Nat)
def dgt (f : Nat → Nat) : Nat := f 0 + 6 * f 1 + 36 * f 2 + 216 * f 3 + 1296 * f 4
def cdN (r : Nat) (f : Nat → Nat) : Nat := 7776 * r + dgt f
def lfN (c p : Nat) : Nat := c / 6 ^ p % 6 + 1
def plN (G : KG) (c : Nat) : Nat := if c / 7776 = 5 then G.2.2.1 else G.2.2.2.1 (c / 7776)
def tmN (G : KG) (c p : Nat) : Nat := wayN G.2.1 (plN G c) (G.2.2.2.1 p) + 1
def kqN (G : KG) (c t p : Nat) : Nat → Bool
  | 0 => true
  | k + 1 => kqN G c t p k && (decide (k = p) || (!G.1 k || decide (t < lfN c k)))
def kpN (G : KG) (c p : Nat) : Bool := (G.1 p && decide (tmN G c p ≤ lfN c p)) && kqN G c (tmN G c p) p 5
def nxN (G : KG) (c p : Nat) : Nat := cdN p (fun e => if G.1 e = true then (if e = p then G.2.2.2.2.1 e - 1 else lfN c e - tmN G c p - 1) else 0)
def c0N (G : KG) : Nat := cdN 5 (fun e => if G.1 e = true then G.2.2.2.2.2 e - 1 else 0)
def VG (G : KG) : Prop := 1 ≤ G.2.1 ∧ G.2.1 ≤ 9 ∧ G.2.2.1 ≤ 9 ∧ ∀ p, p < 5 → G.1 p = true → G.2.2.2.1 p ≤ 9 ∧ 1 ≤ G.2.2.2.2.1 p ∧ G.2.2.2.2.1 p ≤ 6 ∧ 1 ≤ G.2.2.2.2.2 p ∧ G.2.2.2.2.2 p ≤ 6
/-- a stand that may be -/
def VN (G : KG) (c : Nat) : Prop := c < 46656 ∧ (c / 7776 = 5 ∨ (c / 7776 < 5 ∧ G.1 (c / 7776) = true))
theorem dgt_lt {f : Nat → Nat} (h : ∀ p, p < 5 → f p ≤ 5) : dgt f < 7776 := by
  have h0 := h 0 (by decide); have h1 := h 1 (by decide); have h2 := h 2 (by decide); have h3 := h 3 (by decide); have h4 := h 4 (by decide)
  unfold dgt
  omega
theorem cdN_run {r : Nat} {f : Nat → Nat} (h : ∀ p, p < 5 → f p ≤ 5) : cdN r f / 7776 = r := by
  have := dgt_lt h
  unfold cdN
  omega
theorem cdN_dig {r : Nat} {f : Nat → Nat} (h : ∀ p, p < 5 → f p ≤ 5) {p : Nat} (hp : p < 5) : lfN (cdN r f) p = f p + 1 := by
  have h0 := h 0 (by decide); have h1 := h 1 (by decide); have h2 := h 2 (by decide); have h3 := h 3 (by decide); have h4 := h 4 (by decide)
  unfold lfN cdN dgt
  rcases (show p = 0 ∨ p = 1 ∨ p = 2 ∨ p = 3 ∨ p = 4 by omega) with rfl | rfl | rfl | rfl | rfl
  · show (7776 * r + (f 0 + 6 * f 1 + 36 * f 2 + 216 * f 3 + 1296 * f 4)) / 1 % 6 + 1 = _; omega
  · show (7776 * r + (f 0 + 6 * f 1 + 36 * f 2 + 216 * f 3 + 1296 * f 4)) / 6 % 6 + 1 = _; omega
  · show (7776 * r + (f 0 + 6 * f 1 + 36 * f 2 + 216 * f 3 + 1296 * f 4)) / 36 % 6 + 1 = _; omega
  · show (7776 * r + (f 0 + 6 * f 1 + 36 * f 2 + 216 * f 3 + 1296 * f 4)) / 216 % 6 + 1 = _; omega
  · show (7776 * r + (f 0 + 6 * f 1 + 36 * f 2 + 216 * f 3 + 1296 * f 4)) / 1296 % 6 + 1 = _; omega
theorem lfN_b (c p : Nat) : 1 ≤ lfN c p ∧ lfN c p ≤ 6 := by
  unfold lfN
  have := Nat.mod_lt (c / 6 ^ p) (show 0 < 6 by decide)
  omega
theorem nx_dig {G : KG} (hG : VG G) (c p : Nat) : ∀ e, e < 5 → (fun e => if G.1 e = true then (if e = p then G.2.2.2.2.1 e - 1 else lfN c e - tmN G c p - 1) else 0) e ≤ 5 := by
  intro e he
  show (if G.1 e = true then (if e = p then G.2.2.2.2.1 e - 1 else lfN c e - tmN G c p - 1) else 0) ≤ 5
  have h1 := lfN_b c e
  by_cases g : G.1 e = true
  · rw [if_pos g]
    have h2 := hG.2.2.2 e he g
    split <;> omega
  · rw [if_neg g]; omega
theorem c0_dig {G : KG} (hG : VG G) : ∀ e, e < 5 → (fun e => if G.1 e = true then G.2.2.2.2.2 e - 1 else 0) e ≤ 5 := by
  intro e he
  show (if G.1 e = true then G.2.2.2.2.2 e - 1 else 0) ≤ 5
  by_cases g : G.1 e = true
  · rw [if_pos g]
    have h2 := hG.2.2.2 e he g
    omega
  · rw [if_neg g]; omega
theorem nx_VN {G : KG} (hG : VG G) {c p : Nat} (hp : p < 5) (hk : kpN G c p = true) : VN G (nxN G c p) := by
  have h1 := cdN_run (r := p) (nx_dig hG c p)
  have h2 := dgt_lt (nx_dig hG c p)
  unfold kpN at hk
  rw [Bool.and_eq_true, Bool.and_eq_true] at hk
  have hS := hk.1.1
  refine ⟨?_, Or.inr ⟨?_, ?_⟩⟩
  · unfold nxN cdN; omega
  · unfold nxN; omega
  · unfold nxN; rw [h1]; exact hS
theorem c0_VN {G : KG} (hG : VG G) : VN G (c0N G) := by
  have h1 := cdN_run (r := 5) (c0_dig hG)
  have h2 := dgt_lt (c0_dig hG)
  refine ⟨?_, Or.inl h1⟩
  unfold c0N cdN; omega
theorem plN_le {G : KG} (hG : VG G) {c : Nat} (hc : VN G c) : plN G c ≤ 9 := by
  unfold plN
  by_cases g : c / 7776 = 5
  · rw [if_pos g]; exact hG.2.2.1
  · rw [if_neg g]
    have := hc.2.resolve_left g
    exact (hG.2.2.2 _ this.1 this.2).1
theorem tmN_b {G : KG} (hG : VG G) {c p : Nat} (hc : VN G c) (hp : p < 5) (hs : G.1 p = true) : 1 ≤ tmN G c p ∧ tmN G c p ≤ 10 := by
  have := wayN_le hG.1 (plN_le hG hc) (hG.2.2.2 p hp hs).1
  unfold tmN
  omega
/-- rows of kept runs -/
def KP (G : KG) : Nat → Nat → Prop
  | 0, _ => True
  | m + 1, c => ∃ p, p < 5 ∧ kpN G c p = true ∧ KP G m (nxN G c p)
def Ev (G : KG) (c : Nat) : Prop := ∀ m, KP G m c
def mnN (G : KG) (c : Nat) : Nat → Nat
  | 0 => 1000000
  | k + 1 => if G.1 k = true then min (mnN G c k) (lfN c k) else mnN G c k
/-- how long, from how long those behind it last -/
def nxV (G : KG) (c : Nat) (f : Nat → Nat) : Nat → Nat
  | 0 => mnN G c 5
  | k + 1 => if kpN G c k = true then max (nxV G c f k) (tmN G c k + f k) else nxV G c f k
def lsF (G : KG) : Nat → Nat → Nat
  | 0, _ => 0
  | m + 1, c => nxV G c (fun p => lsF G m (nxN G c p)) 5
theorem nxV_congr {G : KG} {c : Nat} {f g : Nat → Nat} : ∀ n, (∀ p, p < n → kpN G c p = true → f p = g p) → nxV G c f n = nxV G c g n := by
  intro n
  induction n with
  | zero => intro _; rfl
  | succ n ih =>
    intro h
    show (if kpN G c n = true then _ else _) = (if kpN G c n = true then _ else _)
    rw [ih (fun p hp => h p (by omega))]
    by_cases q : kpN G c n = true
    · rw [if_pos q, if_pos q, h n (by omega) q]
    · rw [if_neg q, if_neg q]
theorem KP_mono {G : KG} : ∀ m c, KP G (m + 1) c → KP G m c := by
  intro m
  induction m with
  | zero => intro c _; trivial
  | succ m ih =>
    rintro c ⟨p, hp, hk, h⟩
    exact ⟨p, hp, hk, ih _ h⟩
theorem KP_le {G : KG} {m k c : Nat} (h : m ≤ k) (hk : KP G k c) : KP G m c := by
  induction k with
  | zero => rw [show m = 0 by omega]; trivial
  | succ k ih =>
    by_cases q : m = k + 1
    · rw [q]; exact hk
    · exact ih (by omega) (KP_mono k c hk)
/-- once no row is so long, how long it lasts is settled -/
theorem lsF_st {G : KG} : ∀ m c, ¬ KP G m c → ∀ k, m ≤ k → lsF G k c = lsF G m c := by
  intro m
  induction m with
  | zero => intro c h; exact absurd trivial h
  | succ m ih =>
    intro c h k hk
    obtain ⟨k, rfl⟩ : ∃ q, k = q + 1 := ⟨k - 1, by omega⟩
    show nxV G c (fun p => lsF G k (nxN G c p)) 5 = nxV G c (fun p => lsF G m (nxN G c p)) 5
    exact nxV_congr 5 (fun p hp g => ih _ (fun w => h ⟨p, hp, g, w⟩) k (by omega))
/-- it lasts so long -/
def Lst (G : KG) (c v : Nat) : Prop := ∃ m, ¬ KP G m c ∧ v = lsF G m c
theorem Lst.uniq {G : KG} {c v w : Nat} (h1 : Lst G c v) (h2 : Lst G c w) : v = w := by
  obtain ⟨m, a1, rfl⟩ := h1
  obtain ⟨k, b1, rfl⟩ := h2
  rcases Nat.le_total m k with h | h
  · exact (lsF_st m c a1 k h).symm
  · exact lsF_st k c b1 m h
theorem Lst.not_ev {G : KG} {c v : Nat} (h : Lst G c v) : ¬ Ev G c := by
  obtain ⟨m, a1, -⟩ := h
  exact fun w => a1 (w m)
theorem Ev.next {G : KG} {c : Nat} (h : Ev G c) : ∃ p, p < 5 ∧ kpN G c p = true ∧ Ev G (nxN G c p) := by
  apply Classical.byContradiction
  intro hn
  have hb : ∀ p, p < 5 → ∃ m, ∀ k, m ≤ k → ¬ (kpN G c p = true ∧ KP G k (nxN G c p)) := by
    intro p hp
    by_cases g : kpN G c p = true
    · have : ¬ Ev G (nxN G c p) := fun w => hn ⟨p, hp, g, w⟩
      obtain ⟨m, hm⟩ := Classical.not_forall.mp this
      exact ⟨m, fun k hk w => hm (KP_le hk w.2)⟩
    · exact ⟨0, fun k _ w => g w.1⟩
  obtain ⟨m0, h0⟩ := hb 0 (by decide)
  obtain ⟨m1, h1⟩ := hb 1 (by decide)
  obtain ⟨m2, h2⟩ := hb 2 (by decide)
  obtain ⟨m3, h3⟩ := hb 3 (by decide)
  obtain ⟨m4, h4⟩ := hb 4 (by decide)
  obtain ⟨p, hp, hk, hw⟩ := h (m0 + m1 + m2 + m3 + m4 + 1)
  rcases (show p = 0 ∨ p = 1 ∨ p = 2 ∨ p = 3 ∨ p = 4 by omega) with rfl | rfl | rfl | rfl | rfl
  · exact h0 _ (by omega) ⟨hk, hw⟩
  · exact h1 _ (by omega) ⟨hk, hw⟩
  · exact h2 _ (by omega) ⟨hk, hw⟩
  · exact h3 _ (by omega) ⟨hk, hw⟩
  · exact h4 _ (by omega) ⟨hk, hw⟩
/-- stands that all have a way on among themselves go on for ever -/
theorem ev_of {G : KG} (P : Nat → Prop) (h : ∀ c, P c → ∃ p, p < 5 ∧ kpN G c p = true ∧ P (nxN G c p)) : ∀ c, P c → Ev G c := by
  intro c hc m
  induction m generalizing c with
  | zero => trivial
  | succ m ih =>
    obtain ⟨p, hp, hk, hn⟩ := h c hc
    exact ⟨p, hp, hk, ih _ hn⟩
/-- if all behind it are known to last, so is it -/
theorem Lst.step {G : KG} {c : Nat} {f : Nat → Nat} (h : ∀ p, p < 5 → kpN G c p = true → Lst G (nxN G c p) (f p)) : Lst G c (nxV G c f 5) := by
  have hb : ∀ p, ∃ m, p < 5 → kpN G c p = true → ∀ k, m ≤ k → ¬ KP G k (nxN G c p) ∧ f p = lsF G k (nxN G c p) := by
    intro p
    by_cases g : p < 5 ∧ kpN G c p = true
    · obtain ⟨m, a1, a2⟩ := h p g.1 g.2
      exact ⟨m, fun _ _ k hk => ⟨fun w => a1 (KP_le hk w), by rw [a2, lsF_st m _ a1 k hk]⟩⟩
    · exact ⟨0, fun h1 h2 => absurd ⟨h1, h2⟩ g⟩
  obtain ⟨m0, h0⟩ := hb 0
  obtain ⟨m1, h1⟩ := hb 1
  obtain ⟨m2, h2⟩ := hb 2
  obtain ⟨m3, h3⟩ := hb 3
  obtain ⟨m4, h4⟩ := hb 4
  have all : ∀ p, p < 5 → kpN G c p = true → ¬ KP G (m0 + m1 + m2 + m3 + m4) (nxN G c p) ∧ f p = lsF G (m0 + m1 + m2 + m3 + m4) (nxN G c p) := by
    intro p hp hk
    rcases (show p = 0 ∨ p = 1 ∨ p = 2 ∨ p = 3 ∨ p = 4 by omega) with rfl | rfl | rfl | rfl | rfl
    · exact h0 hp hk _ (by omega)
    · exact h1 hp hk _ (by omega)
    · exact h2 hp hk _ (by omega)
    · exact h3 hp hk _ (by omega)
    · exact h4 hp hk _ (by omega)
  refine ⟨m0 + m1 + m2 + m3 + m4 + 1, ?_, ?_⟩
  · rintro ⟨p, hp, hk, hw⟩
    exact (all p hp hk).1 hw
  · exact nxV_congr 5 (fun p hp hk => (all p hp hk).2)
