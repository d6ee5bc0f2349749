/-! the row that goes on for ever, stand by stand; where it comes round -/
def WSn (G : KG) : Nat → Nat → Nat → Prop
  | 0, c, t => c = c0N G ∧ t = 0
  | k + 1, c, t => ∃ d u p, WSn G k d u ∧ p < 5 ∧ NR G d (nI p) ∧ c = nxN G d p ∧ t = u + tmN G d p
theorem WSn.uniq {G : KG} : ∀ k {c c' t t' : Nat}, WSn G k c t → WSn G k c' t' → c = c' ∧ t = t' := by
  intro k
  induction k with
  | zero => rintro c c' t t' ⟨rfl, rfl⟩ ⟨rfl, rfl⟩; exact ⟨rfl, rfl⟩
  | succ k ih =>
    rintro c c' t t' ⟨d, u, p, a1, a2, a3, rfl, rfl⟩ ⟨d', u', p', b1, b2, b3, rfl, rfl⟩
    obtain ⟨rfl, rfl⟩ := ih a1 b1
    have := (eq_n (by omega) (by omega)).mp (a3.uniq b3)
    rw [this]
    exact ⟨rfl, rfl⟩
theorem Ev.run {G : KG} {c : Nat} {r : Int32} (h : Ev G c) (n : NR G c r) : ∃ p, p < 5 ∧ r = nI p ∧ kpN G c p = true ∧ Ev G (nxN G c p) := by
  rcases n with ⟨-, a⟩ | ⟨p, hp, e, ok, -⟩
  · obtain ⟨p, hp, hk, hn⟩ := h.next
    exact absurd ⟨hk, Or.inl ⟨h, hn⟩⟩ (a p hp)
  · rcases ok.2 with ⟨-, b⟩ | ⟨w, v, b, -⟩
    · exact ⟨p, hp, e, ok.1, b⟩
    · exact absurd h b.not_ev
/-- first at place x and again at place q -/
def RDn (G : KG) (x q tx tq : Nat) : Prop := x < q ∧ (∃ c, WSn G x c tx ∧ WSn G q c tq) ∧ ∀ y z c t t', y < z → z < q → WSn G y c t → ¬ WSn G z c t'
theorem RDn.uniq {G : KG} {x q tx tq x' q' tx' tq' : Nat} (a : RDn G x q tx tq) (b : RDn G x' q' tx' tq') : x = x' ∧ q = q' ∧ tx = tx' ∧ tq = tq' := by
  obtain ⟨a1, ⟨c, a2, a3⟩, a4⟩ := a
  obtain ⟨b1, ⟨c', b2, b3⟩, b4⟩ := b
  have hq : q = q' := by
    rcases Nat.lt_trichotomy q q' with w | w | w
    · exact absurd a3 (b4 x q c tx tq a1 w a2)
    · exact w
    · exact absurd b3 (a4 x' q' c' tx' tq' b1 w b2)
  subst hq
  obtain ⟨rfl, rfl⟩ := WSn.uniq q a3 b3
  have hx : x = x' := by
    rcases Nat.lt_trichotomy x x' with w | w | w
    · exact absurd b2 (a4 x x' c tx tx' w b1 a2)
    · exact w
    · exact absurd a2 (a4 x' x c tx' tx w a1 b2)
  subst hx
  exact ⟨rfl, rfl, (WSn.uniq x a2 b2).2, rfl⟩
