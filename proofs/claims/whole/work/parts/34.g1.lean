/-! deed, log -/
theorem has7_eq {h : Hp} {s n : Nat} (hs : s < 9) (hn : h.1 5 s 0 = nI n) (x : Int32) : fX7_has s x h = some (if x < 0 ∨ nI n ≤ x then 0 else 1, h) := by
  unfold fX7_has
  simp only [jn_eq, zk_0, zk_1, ck_t]
  have e : rd h 5 s 0 = nI n := by
    show h.1 5 (s % 9) 0 = _
    rw [Nat.mod_eq_of_lt hs]; exact hn
  rw [e]
  by_cases h1 : x < 0
  · simp [h1]
  · by_cases h2 : nI n ≤ x
    · simp [h1, h2]
    · simp [h1, h2]
def ddAns (n : Nat) (kd : Nat → Nat) (pt : Nat → Int32) (k w : Int32) : Int32 := if k = -1 then (if w = 0 then nI n else -2) else if k < 0 ∨ nI n ≤ k then -2 else if w = 0 then nI (kd k.toNatClampNeg) else if w = 1 then pt k.toNatClampNeg else -2
theorem deedC_eq {h : Hp} {j c n : Nat} {kd : Nat → Nat} {pt : Nat → Int32} (e0 : h.1 37 0 1 = nI c) (v0 : c ≤ 2) (hj : j < c) (hv : HV n kd pt) (hcs : CSh h j n kd pt) (k w : Int32) : fX11_deed (nI j) k w h = some (ddAns n kd pt k w, h) := by
  have hj9 : j < 9 := by omega
  have hn40 := hv.1
  unfold fX11_deed
  rw [showAt_yes e0 hj v0, bnd_eq, nl_s]
  have r0 : rd h 5 j 0 = nI n := by show h.1 5 (j % 9) 0 = _; rw [Nat.mod_eq_of_lt hj9]; exact hcs.1
  unfold ddAns
  by_cases hk : k = -1
  · rw [if_pos hk, if_pos hk, r0]
    by_cases hw : w = 0
    · rw [if_pos hw, if_pos hw]; rfl
    · rw [if_neg hw, if_neg hw]; rfl
  · rw [if_neg hk, if_neg hk, has7_eq hj9 hcs.1, bnd_eq]
    rcases int_cases k n (by omega) with hin | ⟨x, hx, rfl⟩
    · rw [if_pos hin, if_pos hin, if_pos rfl]
    · rw [if_neg (in_no hx (by omega)), if_neg (in_no hx (by omega)), if_neg ne10, nI_clamp (by omega)]
      have hib : ib (nI x) 40 = true := ib_nI (by omega) (by decide)
      have m31 : j % cnt 31 = j := Nat.mod_eq_of_lt hj9
      have m32 : j % cnt 32 = j := Nat.mod_eq_of_lt hj9
      rw [ck_p hib, ck_p hib, ra_n (by omega), ra_n (by omega), m31, m32, (hcs.2 x hx).1, (hcs.2 x hx).2]
      by_cases h0 : w = 0
      · rw [if_pos h0, if_pos h0]
      · rw [if_neg h0, if_neg h0]
        by_cases h1 : w = 1
        · rw [if_pos h1, if_pos h1]
        · rw [if_neg h1, if_neg h1]
