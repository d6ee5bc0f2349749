/-! lines, in step -/
def mW (h : Hp) (b : Nat → Nat) (n q : Nat) : Int64 := if tk b n q = 1 then h.2 else 0
theorem wcmp {h : Hp} {b : Nat → Nat} {n q i : Nat} (hi : i < 11) (c : MTk h b n q) : (lg_cmp (mW h b n q) (Int64.ofNat (enc (wl' i))) = 0) ↔ (tk b n q = 1 ∧ wd b q (tr b n q) = wl' i) := by
  rw [lg_cmp_eq]
  unfold mW
  by_cases h1 : tk b n q = 1
  · rw [if_pos h1, c.2.2.2.2.2.2.1 h1, code_iff hi (fun j a d => ?_) (tr_ge b n q)]
    · exact ⟨fun e => ⟨h1, e⟩, fun e => e.2⟩
    · have := (tk1 h1).2 j a d
      unfold pL at this
      simp only [Bool.and_eq_true, decide_eq_true_eq] at this
      omega
  · rw [if_neg h1]
    constructor
    · intro e
      obtain ⟨-, p2, p3⟩ := wl_pos i hi
      have := congrArg (fun z => z.toBitVec.toNat) e
      have e1 : ∀ y, (Int64.ofNat y).toBitVec.toNat = y % 2 ^ 64 := fun y => BitVec.toNat_ofNat _ _
      simp only [e1] at this
      have e0 : (0 : Int64).toBitVec.toNat = 0 := rfl
      rw [e0] at this
      omega
    · intro e; exact absurd e.1 h1
/-- what the class does behind the numbers of a line -/
def KL (hdn : Nat) (h23 : Hp) : Option (Int32 × Hp) := bnd (fX5_nextToken h23) fun _ h24 =>
  if (rd h24 3 0 8) = 3 then (bnd (fX5_tell (nI hdn) h24) fun _ h25 => ck (zk 1) (some (1, h25)))
  else (bnd (fX5_refuse h24) fun x27 h26 => ck (zk x27) (some (x27, h26)))
theorem readLine_unf {h : Hp} {s hdn : Nat} (bC : Bool) (hh : fX5_headOf (nI s) h = some (nI hdn, h)) (hd : hdn < 11) (hf : fX5_isFull (nI hdn) h = some (if bC = true then 1 else 0, h)) : fX5_readLine (nI s) h = bnd (if bC = true then fX5_blame 3 h else some ((), h)) fun _ h8 => itr1 (fX5_readLine_l31 (nI hdn) (KL hdn)) FU (nI 0) h8 := by
  unfold fX5_readLine
  rw [hh, bnd_eq, if_neg (fun q => neg_ne (show hdn < 2 ^ 31 by omega) q.symm), hf, bnd_eq, jn_eq]
  cases bC
  · rw [if_neg (show ¬ false = true by decide), if_pos rfl, if_neg (show ¬ false = true by decide), bnd_eq]
    rfl
  · rw [if_pos rfl, if_neg (show ¬ (1 : Int32) = 0 by decide), if_pos rfl]
    rfl
theorem readLine_no {h : Hp} {s q : Nat} (hh : fX5_headOf (nI s) h = some (-1, h)) (h9 : h.1 3 0 9 = nI q) : ∃ h', fX5_readLine (nI s) h = some (0, h') ∧ h'.1 3 0 3 = 1 ∧ h'.1 3 0 4 = nI q := by
  obtain ⟨hR, eR, r3, r4, -⟩ := refuse_eq h9
  refine ⟨hR, ?_, r3, r4⟩
  unfold fX5_readLine
  rw [hh, bnd_eq, if_pos rfl, eR, bnd_eq]
  rfl
theorem rl_end {h : Hp} {hdn c m : Nat} {K : Hp → Option (Int32 × Hp)} (hnum : ∀ h, fX5_numbersOf (nI hdn) h = some (nI c, h)) (hc : c ≤ 3) : itr1 (fX5_readLine_l31 (nI hdn) K) (m + 1) (nI c) h = K h := by
  rw [itr1_s]
  unfold fX5_readLine_l31
  rw [hnum, bnd_eq, if_pos (nI_le (Nat.le_refl c) (by omega))]
/-- the token behind a head, in the reference -/
theorem tok_next {h : Hp} {b : Nat → Nat} {n q : Nat} (c : MTk h b n q) (h4 : tk b n q ≠ 4) : ∃ h', fX12_token h = some ((), h') ∧ MTk h' b n (tq b n (tr b n q)) ∧ (∀ k s j, k ≠ 10 → h'.1 k s j = h.1 k s j) ∧ (∀ j, j = 16 ∨ j = 17 ∨ j = 20 → h'.1 10 0 j = h.1 10 0 j) := by
  obtain ⟨c1, c2, c3, c4, c5, c6, c7, c8, c9⟩ := c
  obtain ⟨u2, h5, e5, t5, fr5⟩ := token_wp (show MT h b n (tr b n q) from ⟨c1, c9 h4, c2, tr_le c3, c4⟩)
  exact ⟨h5, e5, t5, fun k s j hk => fr5 k s j (fun q hq hcov => by
      simp [wX12_token] at hq
      rcases hq with rfl | rfl | rfl | rfl <;> exact hk hcov.1.symm), fun j hj => by rcases hj with rfl | rfl | rfl <;> exact fr5.at 10 0 _ rfl⟩
/-- how a line ends, once class and reference have read its numbers; told: what the class then tells -/
theorem line_end {hC hM : Hp} {b : Nat → Nat} {n p f x hdn : Nat} {z : Option (Int32 × Hp)} (cC : CT hC b n p) (cM : MTk hM b n (tq b n p)) (fl : FLT hC hM f x) (hx : x ≤ p) (hz : z = some (1, hM)) (Co' : Hp → Hp → Prop)
    (htell : ∀ hA hM', (∀ k s j, k ≠ 3 → hA.1 k s j = hC.1 k s j) → (∀ k s j, k ≠ 10 → hM'.1 k s j = hM.1 k s j) → ∃ hB, fX5_tell (nI hdn) hA = some ((), hB) ∧ (∀ k s j, k = 3 ∨ k = 36 → hB.1 k s j = hA.1 k s j) ∧ Co' hB hM') :
    (∃ p2 hC' hM', KL hdn hC = some (1, hC') ∧ (bnd z fun z h6 => if z = 0 then some ((0 : Int32), h6) else if rd h6 10 0 12 = 4 then (bnd (fX12_token h6) fun _ h11 => some (1, h11)) else fX12_fails h6) = some (1, hM') ∧ p < p2 ∧ CT hC' b n p2 ∧ MTk hM' b n (tq b n p2) ∧ FLT hC' hM' f p2 ∧ Co' hC' hM') ∨
    (∃ a hC' hM', KL hdn hC = some (0, hC') ∧ (bnd z fun z h6 => if z = 0 then some ((0 : Int32), h6) else if rd h6 10 0 12 = 4 then (bnd (fX12_token h6) fun _ h11 => some (1, h11)) else fX12_fails h6) = some (0, hM') ∧ hC'.1 3 0 3 = 1 ∧ hC'.1 3 0 4 = nI a ∧ hM'.1 10 0 15 = nI a) := by
  have hn : n ≤ 600 := cC.2.2.2.1
  have hpn : p ≤ n := cC.2.2.2.2.1
  obtain ⟨hA, eA, kA, fA, hcase⟩ := end_both cC cM
  subst hz
  unfold KL
  rw [eA, bnd_eq, bnd_eq, if_neg (show ¬ (1 : Int32) = 0 by decide)]
  rcases hcase with ⟨a8, m12, cA, hlt, hM', eM', tM', kM', fM'⟩ | ⟨a8, m12, ⟨hR, eR, r3, r4⟩, hF, eF, f15⟩
  · left
    obtain ⟨hB, eB, kB, co⟩ := htell hA hM' kA kM'
    rw [if_pos a8, if_pos m12, eB, eM', bnd_eq, bnd_eq]
    have hge := tq_ge b n p
    refine ⟨_, hB, hM', rfl, rfl, by omega, ⟨(kB 3 0 5 (by omega)).trans cA.1, (kB 3 0 6 (by omega)).trans cA.2.1, (kB 3 0 7 (by omega)).trans cA.2.2.1, hn, cA.2.2.2.2.1, fun j hj => by rw [kB 36 0 j (by omega)]; exact cA.2.2.2.2.2 j hj⟩, tM', ?_, co⟩
    exact (fl.same ((kB 3 0 3 (by omega)).trans (fA 3 (by omega))) ((kB 3 0 4 (by omega)).trans (fA 4 (by omega))) (fM' 16 (by omega)) (fM' 17 (by omega))).mono (by omega) (by have := cA.2.2.2.2.1; omega)
  · right
    rw [if_neg a8, if_neg m12, eR, eF, bnd_eq]
    exact ⟨_, hR, hF, rfl, rfl, r3, r4, f15⟩
