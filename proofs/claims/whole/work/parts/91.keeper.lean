/-! THE KEEPER of the class: how it numbers stands -/
theorem sh_id {x : Nat} (hx : x < 32768) : (nI x).toInt16.toInt32 = nI x := by
  apply Int32.toInt_inj.mp
  rw [Int16.toInt_toInt32, Int32.toInt_toInt16, nI_toInt (by omega)]
  unfold Int.bmod
  dsimp only
  split <;> omega
theorem nar_s {x : Nat} (hx : x < 32768) : vp_nar .short ((nI x).toInt16.toInt32) = nI x := by rw [vp_nar_short, sh_id hx, sh_id hx]
theorem by_id {x : Nat} (hx : x < 128) : (nI x).toInt8.toInt32 = nI x := by
  apply Int32.toInt_inj.mp
  rw [Int8.toInt_toInt32, Int32.toInt_toInt8, nI_toInt (by omega)]
  unfold Int.bmod
  dsimp only
  split <;> omega
theorem nar_b {x : Nat} (hx : x < 128) : vp_nar .byte ((nI x).toInt8.toInt32) = nI x := by rw [vp_nar_byte, by_id hx, by_id hx]
theorem code_self {c : Nat} : c = cdN (c / 7776) (fun p => lfN c p - 1) := by
  unfold cdN dgt lfN
  show c = 7776 * (c / 7776) + ((c / 1 % 6 + 1 - 1) + 6 * (c / 6 % 6 + 1 - 1) + 36 * (c / 36 % 6 + 1 - 1) + 216 * (c / 216 % 6 + 1 - 1) + 1296 * (c / 1296 % 6 + 1 - 1))
  omega
theorem code_ext {c c' : Nat} (h1 : c / 7776 = c' / 7776) (h2 : ∀ p, p < 5 → lfN c p = lfN c' p) : c = c' := by
  rw [code_self (c := c), code_self (c := c'), h1]
  exact cdN_congr (fun e he => by show lfN c e - 1 = lfN c' e - 1; rw [h2 e he])
theorem rc_zero {G : KG} (hG : VG G) {c p : Nat} (h : Rc G c) (hp : p < 5) (hs : G.1 p = false) : lfN c p = 1 := by
  obtain ⟨m, hm⟩ := h
  cases m with
  | zero =>
    rw [show c = c0N G from hm]
    unfold c0N
    rw [cdN_dig (c0_dig hG) hp]
    show (if G.1 p = true then _ else 0) + 1 = 1
    rw [if_neg (by rw [hs]; decide)]
  | succ m =>
    obtain ⟨d, q, -, -, -, rfl⟩ := hm
    unfold nxN
    rw [cdN_dig (nx_dig hG d q) hp]
    show (if G.1 p = true then _ else 0) + 1 = 1
    rw [if_neg (by rw [hs]; decide)]
def GC (n sp st : Nat) (pl li le : Nat → Nat) : KG := (fun p => decide (p < n), sp, st, pl, li, le)
theorem GC_VG {sp st n : Nat} {pl li le : Nat → Nat} (hv : SV sp st n pl li le) : VG (GC n sp st pl li le) := by
  refine ⟨hv.1, hv.2.1, hv.2.2.1, fun p _ hs => ?_⟩
  have hp : p < n := of_decide_eq_true hs
  have := hv.2.2.2.2 p hp
  exact ⟨this.1, this.2.1, this.2.2.1, this.2.2.2.1, by show le p ≤ 6; omega⟩
def lpC (n c : Nat) : Nat → Nat := fun p => if p < n then lfN c p else 0
theorem lpC_D7 (n c : Nat) : D7 (lpC n c) := fun k _ => by
  unfold lpC
  have := lfN_b c k
  split <;> omega
theorem stand_ext {n sp st c c' : Nat} {pl li le : Nat → Nat} (hv : SV sp st n pl li le) (hc : Rc (GC n sp st pl li le) c) (hc' : Rc (GC n sp st pl li le) c') (h1 : c / 7776 = c' / 7776) (h2 : pkN (lpC n c) = pkN (lpC n c')) : c = c' :=
  code_ext h1 (fun p hp => by
    have a := pkN_dig (lpC_D7 n c) hp
    have b := pkN_dig (lpC_D7 n c') hp
    rw [h2, b] at a
    unfold lpC at a
    by_cases g : p < n
    · rw [if_pos g, if_pos g] at a; exact a.symm
    · rw [rc_zero (GC_VG hv) hc hp (decide_eq_false g), rc_zero (GC_VG hv) hc' hp (decide_eq_false g)])
theorem shr20 (s : Int32) : ∃ v, v < 4096 ∧ (s.toUInt32 >>> ((20 : Int32).toUInt32 &&& Int32.toUInt32 31)).toInt32 = nI v := by
  refine ⟨s.toUInt32.toNat >>> 20, ?_, ?_⟩
  · have := s.toUInt32.toNat_lt
    rw [Nat.shiftRight_eq_div_pow]
    omega
  · have h20 : ((20 : Int32).toUInt32 &&& Int32.toUInt32 31) = 20 := by decide
    rw [h20]
    apply Int32.toBitVec_inj.mp
    apply BitVec.eq_of_toNat_eq
    have e1 : (s.toUInt32 >>> 20).toInt32.toBitVec = (s.toUInt32 >>> 20).toBitVec := rfl
    have e2 : (nI (s.toUInt32.toNat >>> 20)).toBitVec = BitVec.ofNat 32 (s.toUInt32.toNat >>> 20) := rfl
    rw [e1, e2, BitVec.toNat_ofNat]
    have e3 : (s.toUInt32 >>> 20).toBitVec.toNat = (s.toUInt32 >>> 20).toNat := rfl
    rw [e3, UInt32.toNat_shiftRight]
    have e4 : (20 : UInt32).toNat % 32 = 20 := rfl
    rw [e4]
    have := s.toUInt32.toNat_lt
    rw [Nat.shiftRight_eq_div_pow]
    omega
/-- where the looking for a stand begins -/
theorem slot_home (l1 l2 : Int32) : ∃ m, m < 4096 ∧ ∀ h, fX2_slotOf l1 l2 h = itr2 (fX2_slotOf_l16 l1 l2 (fun y7 h8 => some (y7, h8))) FU (nI m) 0 h := by
  obtain ⟨m, hm, e⟩ := shr20 (((l1 <<< ((15 : Int32) &&& 31)) ||| l2) * (-1640531535 : Int32))
  refine ⟨m, hm, fun h => ?_⟩
  unfold fX2_slotOf
  rw [lt_eq, e]
noncomputable def hmI (l1 l2 : Int32) : Nat := Classical.choose (slot_home l1 l2)
theorem hmI_lt (l1 l2 : Int32) : hmI l1 l2 < 4096 := (Classical.choose_spec (slot_home l1 l2)).1
theorem hmI_eq (l1 l2 : Int32) (h : Hp) : fX2_slotOf l1 l2 h = itr2 (fX2_slotOf_l16 l1 l2 (fun y7 h8 => some (y7, h8))) FU (nI (hmI l1 l2)) 0 h := (Classical.choose_spec (slot_home l1 l2)).2 h
noncomputable def hmN (n c : Nat) : Nat := hmI (nI (c / 7776)) (nI (pkN (lpC n c)))
