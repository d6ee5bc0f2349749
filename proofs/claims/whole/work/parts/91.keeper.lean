/-! THE KEEPER of the class: how it numbers stands -/
theorem sh_id {x : Nat} (hx : x < 32768) : (nI x).toInt16.toInt32 = nI x := by
  apply Int32.toInt_inj.mp
  rw [Int16.toInt_toInt32, Int32.toInt_toInt16, nI_toInt (by omega)]
  unfold Int.bmod
  dsimp only
  split <;> omega
theorem nar_s {x : Nat} (hx : x < 32768) : vp_nar .short ((nI x).toInt16.toInt32) = nI x := by rw [vp_nar_short, sh_id hx, sh_id hx]
theorem by_id {x : Nat} (hx : x < 128) : (nI x).toInt8.toInt32 = nI x := by
  apply Int32.toInt_inj.mp
  rw [Int8.toInt_toInt32, Int32.toInt_toInt8, nI_toInt (by omega)]
  unfold Int.bmod
  dsimp only
  split <;> omega
theorem nar_b {x : Nat} (hx : x < 128) : vp_nar .byte ((nI x).toInt8.toInt32) = nI x := by rw [vp_nar_byte, by_id hx, by_id hx]
def keyN (c : Nat) : Nat := cdN (c / 7776) (fun k => lfN c (4 - k) - 1)
theorem key_dig (c : Nat) : ∀ k, k < 5 → (fun k => lfN c (4 - k) - 1) k ≤ 5 := fun k _ => by
  show lfN c (4 - k) - 1 ≤ 5
  have := lfN_b c (4 - k)
  omega
theorem code_self {c : Nat} : c = cdN (c / 7776) (fun p => lfN c p - 1) := by
  unfold cdN dgt lfN
  show c = 7776 * (c / 7776) + ((c / 1 % 6 + 1 - 1) + 6 * (c / 6 % 6 + 1 - 1) + 36 * (c / 36 % 6 + 1 - 1) + 216 * (c / 216 % 6 + 1 - 1) + 1296 * (c / 1296 % 6 + 1 - 1))
  omega
theorem code_ext {c c' : Nat} (h1 : c / 7776 = c' / 7776) (h2 : ∀ p, p < 5 → lfN c p = lfN c' p) : c = c' := by
  rw [code_self (c := c), code_self (c := c'), h1]
  exact cdN_congr (fun e he => by show lfN c e - 1 = lfN c' e - 1; rw [h2 e he])
theorem keyN_inj {c c' : Nat} (e : keyN c = keyN c') : c = c' := by
  refine code_ext ?_ (fun p hp => ?_)
  · have a := cdN_run (r := c / 7776) (key_dig c)
    have b := cdN_run (r := c' / 7776) (key_dig c')
    have : keyN c / 7776 = keyN c' / 7776 := by rw [e]
    unfold keyN at this
    rw [a, b] at this
    exact this
  · have a := cdN_dig (r := c / 7776) (key_dig c) (show 4 - p < 5 by omega)
    have b := cdN_dig (r := c' / 7776) (key_dig c') (show 4 - p < 5 by omega)
    have : lfN (keyN c) (4 - p) = lfN (keyN c') (4 - p) := by rw [e]
    unfold keyN at this
    rw [a, b] at this
    have this : lfN c (4 - (4 - p)) - 1 + 1 = lfN c' (4 - (4 - p)) - 1 + 1 := this
    rw [show 4 - (4 - p) = p by omega] at this
    have h1 := lfN_b c p
    have h2 := lfN_b c' p
    omega
theorem keyN_lt {G : KG} {c : Nat} (hc : VN G c) : keyN c < 46656 := by
  have h1 := dgt_lt (key_dig c)
  have h2 := hc.2
  unfold keyN cdN
  omega
theorem rc_zero {G : KG} (hG : VG G) {c p : Nat} (h : Rc G c) (hp : p < 5) (hs : G.1 p = false) : lfN c p = 1 := by
  obtain ⟨m, hm⟩ := h
  cases m with
  | zero =>
    rw [show c = c0N G from hm]
    unfold c0N
    rw [cdN_dig (c0_dig hG) hp]
    show (if G.1 p = true then _ else 0) + 1 = 1
    rw [if_neg (by rw [hs]; decide)]
  | succ m =>
    obtain ⟨d, q, -, -, -, rfl⟩ := hm
    unfold nxN
    rw [cdN_dig (nx_dig hG d q) hp]
    show (if G.1 p = true then _ else 0) + 1 = 1
    rw [if_neg (by rw [hs]; decide)]
def GC (n sp st : Nat) (pl li le : Nat → Nat) : KG := (fun p => decide (p < n), sp, st, pl, li, le)
theorem GC_VG {sp st n : Nat} {pl li le : Nat → Nat} (hv : SV sp st n pl li le) : VG (GC n sp st pl li le) := by
  refine ⟨hv.1, hv.2.1, hv.2.2.1, fun p _ hs => ?_⟩
  have hp : p < n := of_decide_eq_true hs
  have := hv.2.2.2.2 p hp
  exact ⟨this.1, this.2.1, this.2.2.1, this.2.2.2.1, by show le p ≤ 6; omega⟩
def lpC (n c : Nat) : Nat → Nat := fun p => if p < n then lfN c p else 0
theorem lpC_D7 (n c : Nat) : D7 (lpC n c) := fun k _ => by
  unfold lpC
  have := lfN_b c k
  split <;> omega
def kvN (r : Nat) (L : Nat → Nat) : Nat → Nat
  | 0 => r
  | k + 1 => kvN r L k * 6 + (L k - 1)
theorem keyOf_eq {h : Hp} {r : Nat} {L : Nat → Nat} (hd : D7 L) (hL : ∀ k, k < 5 → L k ≤ 6) (hr : r ≤ 5) : fX2_keyOf (nI r) (nI (pkN L)) h = some (nI (cdN r (fun k => L (4 - k) - 1)), h) := by
  apply wp_same
  unfold fX2_keyOf
  have e5 : kvN r L 5 = cdN r (fun k => L (4 - k) - 1) := by
    unfold cdN dgt
    show ((((r * 6 + (L 0 - 1)) * 6 + (L 1 - 1)) * 6 + (L 2 - 1)) * 6 + (L 3 - 1)) * 6 + (L 4 - 1) = 7776 * r + ((L 4 - 1) + 6 * (L 3 - 1) + 36 * (L 2 - 1) + 216 * (L 1 - 1) + 1296 * (L 0 - 1))
    omega
  have hlt : kvN r L 5 < 46656 := by
    rw [e5]
    have := dgt_lt (f := fun k => L (4 - k) - 1) (fun p _ => by show L (4 - p) - 1 ≤ 5; have := hL (4 - p) (by omega); omega)
    unfold cdN
    omega
  refine wp_for2 5 (fun i a h' => a = nI (kvN r L i) ∧ h' = h) ?_ ?_ FU _ h (i0 := 0) (by omega) (FUb (by decide)) ⟨rfl, rfl⟩
  · rintro i a h1 rec hi ⟨rfl, rfl⟩ hrec
    unfold fX2_keyOf_l4
    have h7 := hd i hi
    have ex : (if (0 : Int32) < nI (L i) - (1 : Int32) then nI (L i) - (1 : Int32) else 0) = nI (L i - 1) := by
      by_cases g : 1 < L i
      · rw [show nI (L i) - (1 : Int32) = nI (L i - 1) from nI_sub (b := 1) (by omega), if_pos (show (0 : Int32) < nI (L i - 1) from nI_lt (a := 0) (by omega) (by omega))]
      · rcases (show L i = 0 ∨ L i = 1 by omega) with q | q <;> rw [q] <;> rfl
    rw [if_neg (show ¬ (5 : Int32) ≤ nI i from fun q => nI_ge hi (by decide) q), leftOf_eq hd hi, bnd_eq, lt_eq, lt_eq, lt_eq, nI_1, ex, show (6 : Int32) = nI 6 from rfl, nI_mul, nI_add]
    exact hrec _ _ ⟨rfl, rfl⟩
  · rintro a h1 rec ⟨rfl, rfl⟩
    unfold fX2_keyOf_l4
    rw [if_pos (show (5 : Int32) ≤ nI 5 by decide)]
    dsimp only
    rw [lt_eq, if_neg (show ¬ (46655 : Int32) < nI (kvN r L 5) from fun q => by have := (lt_n (a := 46655) (by decide) (by omega)).mp q; omega), lt_eq]
    have e0 : (if (0 : Int32) < nI (kvN r L 5) then nI (kvN r L 5) else 0) = nI (kvN r L 5) := by
      by_cases g : kvN r L 5 = 0
      · rw [g]; rfl
      · rw [if_pos (show (0 : Int32) < nI (kvN r L 5) from nI_lt (a := 0) (by omega) (by omega))]
    rw [e0, e5]
    exact wp_some ⟨rfl, rfl⟩
theorem keyC_eq {h : Hp} {n sp st c : Nat} {pl li le : Nat → Nat} (hv : SV sp st n pl li le) (hc : Rc (GC n sp st pl li le) c) : fX2_keyOf (nI (c / 7776)) (nI (pkN (lpC n c))) h = some (nI (keyN c), h) := by
  have hn := hv.2.2.2.1
  have hvn := hc.vn (GC_VG hv)
  rw [keyOf_eq (lpC_D7 n c) (fun k _ => by unfold lpC; have := lfN_b c k; split <;> omega) (by have := hvn.2; omega)]
  have : cdN (c / 7776) (fun k => lpC n c (4 - k) - 1) = keyN c := by
    unfold keyN
    refine cdN_congr (fun e he => ?_)
    show lpC n c (4 - e) - 1 = lfN c (4 - e) - 1
    unfold lpC
    by_cases g : 4 - e < n
    · rw [if_pos g]
    · rw [if_neg g, rc_zero (GC_VG hv) hc (show 4 - e < 5 by omega) (by show decide (4 - e < n) = false; exact decide_eq_false g)]
  rw [this]
