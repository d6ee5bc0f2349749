/-! some of the plates, numbered anew -/
def IX (v n m : Nat) (ix : Nat → Nat) : Prop := (∀ k, k < m → ix k < n ∧ v.testBit (ix k) = true) ∧ (∀ k k', k < m → k' < m → ix k = ix k' → k = k') ∧ ∀ p, p < n → v.testBit p = true → ∃ k, k < m ∧ ix k = p
def RN (m : Nat) (ix : Nat → Nat) (c c' : Nat) : Prop := ((c / 7776 = 5 ∧ c' / 7776 = 5) ∨ ∃ k, k < m ∧ c' / 7776 = k ∧ c / 7776 = ix k) ∧ ∀ k, k < m → lfN c (ix k) = lfN c' k
def GX (m sp st : Nat) (ix pl li le : Nat → Nat) : KG := GC m sp st (fun k => pl (ix k)) (fun k => li (ix k)) (fun k => le (ix k))
theorem IX.len {v n m : Nat} {ix : Nat → Nat} (I : IX v n m ix) : m ≤ n := pig n m ix (fun k hk => (I.1 k hk).1) I.2.1
theorem IX.sv {v n m sp st : Nat} {ix pl li le : Nat → Nat} (I : IX v n m ix) (hs : SV sp st n pl li le) : SV sp st m (fun k => pl (ix k)) (fun k => li (ix k)) (fun k => le (ix k)) := by
  have := I.len
  have hn := hs.2.2.2.1
  exact ⟨hs.1, hs.2.1, hs.2.2.1, by omega, fun p hp => hs.2.2.2.2 (ix p) (I.1 p hp).1⟩
section RNS
variable {v n m sp st : Nat} {ix pl li le : Nat → Nat} {c c' k : Nat}
theorem rn_pl (hs : SV sp st n pl li le) (I : IX v n m ix) (R : RN m ix c c') : plN (GM v sp st pl li le) c = plN (GX m sp st ix pl li le) c' := by
  have hm := I.len
  have hn := hs.2.2.2.1
  unfold plN
  rcases R.1 with ⟨a, b⟩ | ⟨k, hk, a, b⟩
  · rw [if_pos a, if_pos b]; rfl
  · have := (I.1 k hk).1
    rw [if_neg (by omega), if_neg (by omega), b, a]; rfl
theorem rn_tm (hs : SV sp st n pl li le) (I : IX v n m ix) (R : RN m ix c c') : tmN (GM v sp st pl li le) c (ix k) = tmN (GX m sp st ix pl li le) c' k := by
  unfold tmN
  rw [rn_pl hs I R]; rfl
theorem rn_kp (hs : SV sp st n pl li le) (hv : v < 2 ^ n) (I : IX v n m ix) (R : RN m ix c c') (hk : k < m) : kpN (GM v sp st pl li le) c (ix k) = true ↔ kpN (GX m sp st ix pl li le) c' k = true := by
  have hm := I.len
  have hn := hs.2.2.2.1
  constructor
  · intro h
    obtain ⟨a1, a2, a3⟩ := kp_le h
    refine kp_of (decide_eq_true hk) ?_ (fun e he hne hb => ?_)
    · rw [← rn_tm hs I R, ← R.2 k hk]; exact a2
    · have he' : e < m := of_decide_eq_true hb
      have := (I.1 e he').1
      rw [← rn_tm hs I R, ← R.2 e he']
      exact a3 (ix e) (by omega) (fun w => hne (I.2.1 e k he' hk w)) (I.1 e he').2
  · intro h
    obtain ⟨a1, a2, a3⟩ := kp_le h
    refine kp_of (I.1 k hk).2 ?_ (fun e he hne hb => ?_)
    · rw [rn_tm hs I R, R.2 k hk]; exact a2
    · obtain ⟨k', hk', rfl⟩ := I.2.2 e (tb_lt hv hb) hb
      rw [rn_tm hs I R, R.2 k' hk']
      exact a3 k' (by omega) (fun w => hne (by rw [w])) (decide_eq_true hk')
theorem rn_nx (hs : SV sp st n pl li le) (hv : v < 2 ^ n) (I : IX v n m ix) (R : RN m ix c c') (hk : k < m) : RN m ix (nxN (GM v sp st pl li le) c (ix k)) (nxN (GX m sp st ix pl li le) c' k) := by
  have hm := I.len
  have hn := hs.2.2.2.1
  have hG := GM_VG hs hv
  have hG' : VG (GX m sp st ix pl li le) := GC_VG (I.sv hs)
  refine ⟨Or.inr ⟨k, hk, ?_, ?_⟩, fun k' hk' => ?_⟩
  · unfold nxN; exact cdN_run (nx_dig hG' c' k)
  · unfold nxN; exact cdN_run (nx_dig hG c (ix k))
  · have h5 := (I.1 k' hk').1
    unfold nxN
    rw [cdN_dig (nx_dig hG c (ix k)) (show ix k' < 5 by omega), cdN_dig (nx_dig hG' c' k) (show k' < 5 by omega)]
    show (if (GM v sp st pl li le).1 (ix k') = true then (if ix k' = ix k then li (ix k') - 1 else lfN c (ix k') - tmN (GM v sp st pl li le) c (ix k) - 1) else 0) + 1 = (if (GX m sp st ix pl li le).1 k' = true then (if k' = k then li (ix k') - 1 else lfN c' k' - tmN (GX m sp st ix pl li le) c' k - 1) else 0) + 1
    rw [if_pos (show (GM v sp st pl li le).1 (ix k') = true from (I.1 k' hk').2), if_pos (show (GX m sp st ix pl li le).1 k' = true from decide_eq_true hk'), R.2 k' hk', rn_tm hs I R]
    by_cases g : k' = k
    · rw [if_pos (by rw [g]), if_pos g]
    · rw [if_neg (fun w => g (I.2.1 k' k hk' hk w)), if_neg g]
theorem rn_KP (hs : SV sp st n pl li le) (hv : v < 2 ^ n) (I : IX v n m ix) : ∀ M c c', RN m ix c c' → (KP (GM v sp st pl li le) M c ↔ KP (GX m sp st ix pl li le) M c') := by
  have hm := I.len
  have hn := hs.2.2.2.1
  intro M
  induction M with
  | zero => intro c c' _; exact ⟨fun _ => trivial, fun _ => trivial⟩
  | succ M ih =>
    intro c c' R
    constructor
    · rintro ⟨p, hp, hk, h⟩
      have hb : v.testBit p = true := (kp_le hk).1
      obtain ⟨k, hkm, rfl⟩ := I.2.2 p (tb_lt hv hb) hb
      exact ⟨k, by omega, (rn_kp hs hv I R hkm).mp hk, (ih _ _ (rn_nx hs hv I R hkm)).mp h⟩
    · rintro ⟨k, hk5, hk, h⟩
      have hkm : k < m := of_decide_eq_true (kp_le hk).1
      have := (I.1 k hkm).1
      exact ⟨ix k, by omega, (rn_kp hs hv I R hkm).mpr hk, (ih _ _ (rn_nx hs hv I R hkm)).mpr h⟩
theorem rn_c0 (hs : SV sp st n pl li le) (hv : v < 2 ^ n) (I : IX v n m ix) : RN m ix (c0N (GM v sp st pl li le)) (c0N (GX m sp st ix pl li le)) := by
  have hm := I.len
  have hn := hs.2.2.2.1
  have hG := GM_VG hs hv
  have hG' : VG (GX m sp st ix pl li le) := GC_VG (I.sv hs)
  refine ⟨Or.inl ⟨?_, ?_⟩, fun k hk => ?_⟩
  · unfold c0N; exact cdN_run (c0_dig hG)
  · unfold c0N; exact cdN_run (c0_dig hG')
  · have h5 := (I.1 k hk).1
    unfold c0N
    rw [cdN_dig (c0_dig hG) (show ix k < 5 by omega), cdN_dig (c0_dig hG') (show k < 5 by omega)]
    show (if (GM v sp st pl li le).1 (ix k) = true then le (ix k) - 1 else 0) + 1 = (if (GX m sp st ix pl li le).1 k = true then le (ix k) - 1 else 0) + 1
    rw [if_pos (show (GM v sp st pl li le).1 (ix k) = true from (I.1 k hk).2), if_pos (show (GX m sp st ix pl li le).1 k = true from decide_eq_true hk)]
theorem evm_rn (hs : SV sp st n pl li le) (hv : v < 2 ^ n) (I : IX v n m ix) : EvM (2 ^ m - 1) sp st (fun k => pl (ix k)) (fun k => li (ix k)) (fun k => le (ix k)) ↔ EvM v sp st pl li le := by
  have hm := I.len
  have hn := hs.2.2.2.1
  rw [EvM_full (show m ≤ 5 by omega)]
  have hz : m = 0 ↔ v = 0 := by
    constructor
    · intro h0
      apply Nat.eq_of_testBit_eq
      intro i
      rw [Nat.zero_testBit]
      cases hb : v.testBit i with
      | false => rfl
      | true =>
        obtain ⟨k, hk, -⟩ := I.2.2 i (tb_lt hv hb) hb
        omega
    · intro h0
      apply Classical.byContradiction
      intro hne
      have := (I.1 0 (by omega)).2
      rw [h0, Nat.zero_testBit] at this
      cases this
  have hE : Ev (GX m sp st ix pl li le) (c0N (GX m sp st ix pl li le)) ↔ Ev (GM v sp st pl li le) (c0N (GM v sp st pl li le)) := by
    constructor
    · intro h M; exact (rn_KP hs hv I M _ _ (rn_c0 hs hv I)).mpr (h M)
    · intro h M; exact (rn_KP hs hv I M _ _ (rn_c0 hs hv I)).mp (h M)
  unfold EvM
  rw [hz]
  exact or_congr Iff.rfl hE
end RNS
