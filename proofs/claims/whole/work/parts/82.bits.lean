/-! LEFT of all plates packed into one number -/
theorem nI_and (a b : Nat) : nI a &&& nI b = nI (a &&& b) := by
  apply Int32.toBitVec_inj.mp
  show BitVec.ofNat 32 a &&& BitVec.ofNat 32 b = BitVec.ofNat 32 (a &&& b)
  exact BitVec.ofNat_and.symm
theorem nI_or (a b : Nat) : nI a ||| nI b = nI (a ||| b) := by
  apply Int32.toBitVec_inj.mp
  show BitVec.ofNat 32 a ||| BitVec.ofNat 32 b = BitVec.ofNat 32 (a ||| b)
  exact BitVec.ofNat_or.symm
theorem nI_shl {a s : Nat} (hs : s ≤ 24) : nI a <<< (nI s &&& 31) = nI (a * 2 ^ s) := by
  apply Int32.toBitVec_inj.mp
  show BitVec.ofNat 32 a <<< ((nI s &&& 31).toBitVec.smod 32) = BitVec.ofNat 32 (a * 2 ^ s)
  rw [(sh_lo s hs).2, BitVec.shiftLeft_eq']
  apply BitVec.eq_of_toNat_eq
  rw [BitVec.toNat_shiftLeft, BitVec.toNat_ofNat, BitVec.toNat_ofNat, BitVec.toNat_ofNat, Nat.shiftLeft_eq, show s % 2 ^ 32 = s by omega, Nat.mod_mul_mod]
theorem nI_shr {a s : Nat} (ha : a < 2 ^ 31) (hs : s ≤ 24) : nI a >>> (nI s &&& 31) = nI (a / 2 ^ s) := by
  apply Int32.toBitVec_inj.mp
  show (BitVec.ofNat 32 a).sshiftRight' ((nI s &&& 31).toBitVec.smod 32) = BitVec.ofNat 32 (a / 2 ^ s)
  rw [(sh_lo s hs).2, BitVec.sshiftRight_eq', BitVec.toNat_ofNat, show s % 2 ^ 32 = s by omega]
  have hm : (BitVec.ofNat 32 a).msb = false := by
    rw [BitVec.msb_eq_decide, BitVec.toNat_ofNat]
    simp
    omega
  rw [BitVec.sshiftRight_eq_of_msb_false hm]
  apply BitVec.eq_of_toNat_eq
  rw [BitVec.toNat_ushiftRight, BitVec.toNat_ofNat, BitVec.toNat_ofNat, Nat.shiftRight_eq_div_pow, show a % 2 ^ 32 = a by omega]
  have : a / 2 ^ s ≤ a := Nat.div_le_self _ _
  exact (Nat.mod_eq_of_lt (Nat.lt_of_le_of_lt this (by omega))).symm
theorem land_split {m a b c e : Nat} (hb : b < 2 ^ m) (he : e < 2 ^ m) : (2 ^ m * a + b) &&& (2 ^ m * c + e) = 2 ^ m * (a &&& c) + (b &&& e) := by
  apply Nat.eq_of_testBit_eq
  intro i
  have hbe : b &&& e < 2 ^ m := Nat.and_lt_two_pow _ he
  rw [Nat.testBit_and, Nat.testBit_two_pow_mul_add _ hb, Nat.testBit_two_pow_mul_add _ he, Nat.testBit_two_pow_mul_add _ hbe]
  split <;> rw [Nat.testBit_and]
theorem lor_split {m a b c e : Nat} (hb : b < 2 ^ m) (he : e < 2 ^ m) : (2 ^ m * a + b) ||| (2 ^ m * c + e) = 2 ^ m * (a ||| c) + (b ||| e) := by
  apply Nat.eq_of_testBit_eq
  intro i
  have hbe : b ||| e < 2 ^ m := Nat.or_lt_two_pow hb he
  rw [Nat.testBit_or, Nat.testBit_two_pow_mul_add _ hb, Nat.testBit_two_pow_mul_add _ he, Nat.testBit_two_pow_mul_add _ hbe]
  split <;> rw [Nat.testBit_or]
def pkN (L : Nat → Nat) : Nat := L 0 + 8 * L 1 + 64 * L 2 + 512 * L 3 + 4096 * L 4
def D7 (L : Nat → Nat) : Prop := ∀ k, k < 5 → L k ≤ 7
theorem D7.five {L : Nat → Nat} (h : D7 L) : L 0 ≤ 7 ∧ L 1 ≤ 7 ∧ L 2 ≤ 7 ∧ L 3 ≤ 7 ∧ L 4 ≤ 7 := ⟨h 0 (by decide), h 1 (by decide), h 2 (by decide), h 3 (by decide), h 4 (by decide)⟩
theorem pkN_lt {L : Nat → Nat} (h : D7 L) : pkN L < 32768 := by
  have := h.five
  unfold pkN
  omega
theorem pkN_dig {L : Nat → Nat} (h : D7 L) {k : Nat} (hk : k < 5) : pkN L / 2 ^ (3 * k) % 8 = L k := by
  have := h.five
  unfold pkN
  rcases (show k = 0 ∨ k = 1 ∨ k = 2 ∨ k = 3 ∨ k = 4 by omega) with rfl | rfl | rfl | rfl | rfl
  · show (L 0 + 8 * L 1 + 64 * L 2 + 512 * L 3 + 4096 * L 4) / 1 % 8 = _; omega
  · show (L 0 + 8 * L 1 + 64 * L 2 + 512 * L 3 + 4096 * L 4) / 8 % 8 = _; omega
  · show (L 0 + 8 * L 1 + 64 * L 2 + 512 * L 3 + 4096 * L 4) / 64 % 8 = _; omega
  · show (L 0 + 8 * L 1 + 64 * L 2 + 512 * L 3 + 4096 * L 4) / 512 % 8 = _; omega
  · show (L 0 + 8 * L 1 + 64 * L 2 + 512 * L 3 + 4096 * L 4) / 4096 % 8 = _; omega
theorem m3 (k : Nat) : (3 : Int32) * nI k = nI (3 * k) := nI_mul 3 k
theorem leftOf_eq {L : Nat → Nat} (hd : D7 L) {k : Nat} (hk : k < 5) (h : Hp) : fX0_leftOf (nI (pkN L)) (nI k) h = some (nI (L k), h) := by
  unfold fX0_leftOf
  have := pkN_lt hd
  rw [m3, nI_shr (by omega) (by omega), show (7 : Int32) = nI 7 from rfl, nI_and, show (7 : Nat) = 2 ^ 3 - 1 from rfl, Nat.and_two_pow_sub_one_eq_mod, show (2 : Nat) ^ 3 = 8 from rfl, pkN_dig hd hk]
theorem maskI : ∀ k, k < 5 → ((7 : Int32) <<< (((3 : Int32) * nI k) &&& 31)) ^^^ (-1 : Int32) = nI (4294967295 - 7 * 2 ^ (3 * k)) := by decide +kernel
theorem with_core {m lo d hi v : Nat} (hm : m ≤ 12) (hl : lo < 2 ^ m) (hd : d < 8) (hh : hi < 2 ^ (29 - m)) (hv : v < 8) : ((2 ^ m * (8 * hi + d) + lo) &&& (4294967295 - 7 * 2 ^ m)) ||| (v * 2 ^ m) = 2 ^ m * (8 * hi + v) + lo := by
  have hp : 2 ^ m * 2 ^ (29 - m) = 2 ^ 29 := by rw [← Nat.pow_add]; congr 1; omega
  have hp1 : 1 ≤ 2 ^ m := Nat.one_le_two_pow
  have hp2 : 1 ≤ 2 ^ (29 - m) := Nat.one_le_two_pow
  have em : 4294967295 - 7 * 2 ^ m = 2 ^ m * (2 ^ 3 * (2 ^ (29 - m) - 1) + 0) + (2 ^ m - 1) := by
    have : 2 ^ m * (2 ^ 3 * (2 ^ (29 - m) - 1) + 0) = 2 ^ 32 - 8 * 2 ^ m := by
      rw [Nat.add_zero, Nat.mul_left_comm, Nat.mul_sub, hp, Nat.mul_one, Nat.mul_sub]
    rw [this]
    have hle : 2 ^ m ≤ 2 ^ 12 := Nat.pow_le_pow_right (by decide) hm
    omega
  have e8 : 8 * hi + d = 2 ^ 3 * hi + d := rfl
  rw [em, land_split hl (by omega), e8, land_split (m := 3) hd (by decide), Nat.and_two_pow_sub_one_eq_mod, Nat.mod_eq_of_lt hh, Nat.and_zero, Nat.add_zero, Nat.and_two_pow_sub_one_eq_mod, Nat.mod_eq_of_lt hl]
  have e1 : v * 2 ^ m = 2 ^ m * v + 0 := by rw [Nat.mul_comm]; rfl
  rw [e1, lor_split hl (by omega), Nat.or_zero]
  have e2 : 2 ^ 3 * hi ||| v = 2 ^ 3 * hi + v := (Nat.two_pow_add_eq_or_of_lt (i := 3) hv hi).symm
  rw [e2]
theorem with_eq {L : Nat → Nat} (hd : D7 L) {k v : Nat} (hk : k < 5) (hv : v ≤ 7) (h : Hp) : fX0_with (nI (pkN L)) (nI k) (nI v) h = some (nI (pkN (updN L k v)), h) := by
  unfold fX0_with
  have hp := pkN_lt hd
  obtain ⟨d0, d1, d2, d3, d4⟩ := hd.five
  rw [maskI k hk, nI_and, m3, nI_shl (by omega), nI_or]
  have key : (pkN L &&& 4294967295 - 7 * 2 ^ (3 * k) ||| v * 2 ^ (3 * k)) = pkN (updN L k v) := by
    have core := with_core (m := 3 * k) (lo := pkN L % 2 ^ (3 * k)) (d := pkN L / 2 ^ (3 * k) % 8) (hi := pkN L / 2 ^ (3 * k) / 8) (v := v) (by omega) (Nat.mod_lt _ (Nat.two_pow_pos _)) (Nat.mod_lt _ (by decide)) (by
      have h1 : pkN L / 2 ^ (3 * k) / 8 ≤ pkN L := Nat.le_trans (Nat.div_le_self _ _) (Nat.div_le_self _ _)
      have h2 : (2 : Nat) ^ 17 ≤ 2 ^ (29 - 3 * k) := Nat.pow_le_pow_right (by decide) (by omega)
      have h3 : (2 : Nat) ^ 17 = 131072 := rfl
      omega) (by omega)
    have e1 : 8 * (pkN L / 2 ^ (3 * k) / 8) + pkN L / 2 ^ (3 * k) % 8 = pkN L / 2 ^ (3 * k) := Nat.div_add_mod _ _
    rw [e1, Nat.div_add_mod] at core
    rw [core]
    unfold pkN updN
    rcases (show k = 0 ∨ k = 1 ∨ k = 2 ∨ k = 3 ∨ k = 4 by omega) with rfl | rfl | rfl | rfl | rfl
    · show 1 * (8 * ((L 0 + 8 * L 1 + 64 * L 2 + 512 * L 3 + 4096 * L 4) / 1 / 8) + v) + (L 0 + 8 * L 1 + 64 * L 2 + 512 * L 3 + 4096 * L 4) % 1 = v + 8 * L 1 + 64 * L 2 + 512 * L 3 + 4096 * L 4; omega
    · show 8 * (8 * ((L 0 + 8 * L 1 + 64 * L 2 + 512 * L 3 + 4096 * L 4) / 8 / 8) + v) + (L 0 + 8 * L 1 + 64 * L 2 + 512 * L 3 + 4096 * L 4) % 8 = L 0 + 8 * v + 64 * L 2 + 512 * L 3 + 4096 * L 4; omega
    · show 64 * (8 * ((L 0 + 8 * L 1 + 64 * L 2 + 512 * L 3 + 4096 * L 4) / 64 / 8) + v) + (L 0 + 8 * L 1 + 64 * L 2 + 512 * L 3 + 4096 * L 4) % 64 = L 0 + 8 * L 1 + 64 * v + 512 * L 3 + 4096 * L 4; omega
    · show 512 * (8 * ((L 0 + 8 * L 1 + 64 * L 2 + 512 * L 3 + 4096 * L 4) / 512 / 8) + v) + (L 0 + 8 * L 1 + 64 * L 2 + 512 * L 3 + 4096 * L 4) % 512 = L 0 + 8 * L 1 + 64 * L 2 + 512 * v + 4096 * L 4; omega
    · show 4096 * (8 * ((L 0 + 8 * L 1 + 64 * L 2 + 512 * L 3 + 4096 * L 4) / 4096 / 8) + v) + (L 0 + 8 * L 1 + 64 * L 2 + 512 * L 3 + 4096 * L 4) % 4096 = L 0 + 8 * L 1 + 64 * L 2 + 512 * L 3 + 4096 * v; omega
  rw [key]
theorem D7.up {L : Nat → Nat} (hd : D7 L) {k v : Nat} (hv : v ≤ 7) : D7 (updN L k v) := fun q hq => by
  unfold updN
  split
  · exact hv
  · exact hd q hq
def pkU (L : Nat → Nat) : Nat → Nat
  | 0 => 0
  | k + 1 => pkU L k + L k * 2 ^ (3 * k)
theorem pkU_lt {L : Nat → Nat} (hd : D7 L) : ∀ k, k ≤ 5 → pkU L k < 2 ^ (3 * k) := by
  intro k
  induction k with
  | zero => intro _; exact Nat.one_pos
  | succ k ih =>
    intro hk
    have h1 := ih (by omega)
    have h2 := hd k (by omega)
    show pkU L k + L k * 2 ^ (3 * k) < 2 ^ (3 * (k + 1))
    rw [show 3 * (k + 1) = 3 * k + 3 by omega, Nat.pow_add]
    have := Nat.mul_le_mul_right (2 ^ (3 * k)) h2
    omega
theorem pkU_5 (L : Nat → Nat) : pkU L 5 = pkN L := by
  show 0 + L 0 * 1 + L 1 * 8 + L 2 * 64 + L 3 * 512 + L 4 * 4096 = pkN L
  unfold pkN
  omega
theorem passed_eq {L : Nat → Nat} (hd : D7 L) {t : Nat} (ht : t ≤ 100) (h : Hp) : fX0_passed (nI (pkN L)) (nI t) h = some (nI (pkN (fun k => L k - t)), h) := by
  apply wp_same
  unfold fX0_passed
  have hd' : D7 (fun k => L k - t) := fun k hk => by have := hd k hk; show L k - t ≤ 7; omega
  refine wp_for2 5 (fun i a h' => a = nI (pkU (fun k => L k - t) i) ∧ h' = h) ?_ ?_ FU 0 h (i0 := 0) (by omega) (FUb (by decide)) ⟨rfl, rfl⟩
  · rintro i a h1 rec hi ⟨rfl, rfl⟩ hrec
    unfold fX0_passed_l4
    have h7 := hd i hi
    have ex : (if (0 : Int32) < nI (L i) - nI t then nI (L i) - nI t else 0) = nI (L i - t) := by
      by_cases g : t < L i
      · rw [nI_sub (by omega), if_pos (show (0 : Int32) < nI (L i - t) from nI_lt (a := 0) (by omega) (by omega))]
      · rw [if_neg, show L i - t = 0 by omega]
        · rfl
        · intro q
          rw [Int32.lt_iff_toInt_lt, Int32.toInt_sub, nI_toInt (by omega), nI_toInt (by omega), bm_small (by omega) (by omega)] at q
          have : (0 : Int) < (L i : Int) - t := q
          omega
    rw [if_neg (show ¬ (5 : Int32) ≤ nI i from fun q => nI_ge hi (by decide) q), leftOf_eq hd hi, bnd_eq, lt_eq, lt_eq, lt_eq, nI_1, ex, m3, nI_shl (by omega), nI_or]
    refine hrec _ _ ⟨?_, rfl⟩
    have hl := pkU_lt hd' i (by omega)
    have := Nat.two_pow_add_eq_or_of_lt (i := 3 * i) hl (L i - t)
    rw [Nat.or_comm, Nat.mul_comm (L i - t), ← this]
    show nI _ = nI (pkU (fun k => L k - t) i + (L i - t) * 2 ^ (3 * i))
    rw [Nat.mul_comm (L i - t), Nat.add_comm]
  · rintro a h1 rec ⟨rfl, rfl⟩
    unfold fX0_passed_l4
    rw [if_pos (show (5 : Int32) ≤ nI 5 by decide)]
    exact wp_some ⟨by rw [pkU_5], rfl⟩
