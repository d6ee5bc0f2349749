/-! FROM THE ENTRY: the two objects are made, then the loop -/
theorem au_conv {b : Nat} {gg : (Nat → ClassId) × va_G × Launch × (Nat → Nat) × (Nat → Nat)} {u : Nat} {h : Hp} (hiw : ∀ x ∈ ids u, IW b (adB b, gg) h x.1 x.2) {D : va_G} {H : Heap} (hP : va_P D vwCl (wz b (blkPlateRunner (adB b, gg) b ++ blkModel (adB b, gg) (b + 160))) H) : va_P D vwCl (wsOf u (adB b, gg) h) H := by
  intro k q hq
  unfold wsOf at hq
  rw [List.getElem?_map] at hq
  cases hx : (ids u)[k]? with
  | none => rw [hx] at hq; cases hq
  | some x =>
    rw [hx] at hq
    cases hq
    obtain ⟨j, e1, ee, e2, e3⟩ := hiw x (List.mem_of_getElem? hx)
    have h1 := hP j _ (wz_at e2)
    have h2 := e3 D H h1
    show va_at D vwCl ((adB b, gg).1 x.1 x.2, cellOf (adB b, gg) h x.1 x.2) H
    rw [e1]
    exact h2
theorem adB_inj : (∀ x ∈ ids 0, ∀ y ∈ ids 0, (offT.getD x.1 []).getD x.2 0 = (offT.getD y.1 []).getD y.2 0 → x = y) ∧ (∀ x ∈ ids 1, ∀ y ∈ ids 1, (offT.getD x.1 []).getD x.2 0 = (offT.getD y.1 []).getD y.2 0 → x = y) ∧ (∀ x ∈ ids 0, ∀ y ∈ ids 1, (offT.getD x.1 []).getD x.2 0 ≠ (offT.getD y.1 []).getD y.2 0) := by
  refine ⟨?_, ?_, ?_⟩ <;> decide +kernel
