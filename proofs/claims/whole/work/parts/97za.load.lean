/-! load: two plates changed -/
def swp (pl : Nat → Nat) (i k : Nat) : Nat → Nat := updN (updN pl i (pl k)) k (pl i)
theorem swp_eq {pl : Nat → Nat} {i k : Nat} (h : pl i = pl k) : swp pl i k = pl := by
  funext q
  unfold swp updN
  by_cases g : q = k
  · rw [if_pos g, g, h]
  · rw [if_neg g]
    by_cases g2 : q = i
    · rw [if_pos g2, g2, h]
    · rw [if_neg g2]
def SWs (Q : Nat → Nat → Prop) (n : Nat) (r : Int32) : Prop := (∃ i k, i < k ∧ k < n ∧ r = nI (10 * i + k) ∧ Q i k ∧ ∀ i' k', i' < k' → k' < n → (i' < i ∨ (i' = i ∧ k' < k)) → ¬ Q i' k') ∨ (r = -1 ∧ ∀ i' k', i' < k' → k' < n → ¬ Q i' k')
theorem SWs.uniq {Q : Nat → Nat → Prop} {n : Nat} {r r' : Int32} (a : SWs Q n r) (b : SWs Q n r') : r = r' := by
  rcases a with ⟨i, k, a1, a2, rfl, a3, a4⟩ | ⟨rfl, a1⟩
  · rcases b with ⟨i', k', b1, b2, rfl, b3, b4⟩ | ⟨rfl, b1⟩
    · by_cases g : i = i' ∧ k = k'
      · rw [g.1, g.2]
      · by_cases g1 : i < i' ∨ (i = i' ∧ k < k')
        · exact absurd a3 (b4 i k a1 a2 g1)
        · exact absurd b3 (a4 i' k' b1 b2 (by omega))
    · exact absurd a3 (b1 i k a1 a2)
  · rcases b with ⟨i', k', b1, b2, rfl, b3, b4⟩ | ⟨rfl, b1⟩
    · exact absurd b3 (a1 i' k' b1 b2)
    · rfl
theorem SV.swp {sp st n i k : Nat} {pl li le : Nat → Nat} (hs : SV sp st n pl li le) (hi : i < n) (hk : k < n) : SV sp st n (swp pl i k) li le := (hs.move (p := i) (hs.2.2.2.2 k hk).1).move (p := k) (hs.2.2.2.2 i hi).1
theorem swapC {h : Hp} {j sp st n : Nat} {pl li le : Nat → Nat} (hj : j < 10) (hs : SV sp st n pl li le) (c : CSt h j sp st n pl li le) (hK : KIv h) : ∃ r h', fX10_bestSwap j h = some (r, h') ∧ KIv h' ∧ ((EvM (2 ^ n - 1) sp st pl li le ∧ r = -1) ∨ (¬ EvM (2 ^ n - 1) sp st pl li le ∧ SWs (fun i k => EvM (2 ^ n - 1) sp st (swp pl i k) li le) n r)) := by
  have hn := hs.2.2.2.1
  suffices hw : WP (fX10_bestSwap j h) (fun r h' => KIv h' ∧ ((EvM (2 ^ n - 1) sp st pl li le ∧ r = -1) ∨ (¬ EvM (2 ^ n - 1) sp st pl li le ∧ SWs (fun i k => EvM (2 ^ n - 1) sp st (swp pl i k) li le) n r))) by
    obtain ⟨r, h', e, q⟩ := hw
    exact ⟨r, h', e, q⟩
  obtain ⟨r0, h0, e0, k0, ky0, hr0⟩ := exC (a := j) hs (by omega) (by omega) c hK
  unfold fX10_bestSwap
  rw [e0, bnd_eq]
  rcases hr0 with ⟨rfl, hE0⟩ | ⟨rfl, hE0⟩
  · rw [if_neg ne10]
    exact wp_some ⟨k0, Or.inl ⟨hE0, rfl⟩⟩
  rw [if_pos rfl]
  refine wp_for1 n (fun i h' => KIv h' ∧ KZ h h' ∧ ∀ i' k', i' < k' → k' < n → i' < i → ¬ EvM (2 ^ n - 1) sp st (swp pl i' k') li le) ?_ ?_ FU h0 (i0 := 0) (by omega) (FUb (by omega)) ⟨k0, ky0.kz, fun i' k' _ _ w => absurd w (Nat.not_lt_zero _)⟩
  · rintro i h1 rec hi ⟨k1, z1, no1⟩ hrec
    unfold fX10_bestSwap_l16
    rw [(c.kz z1 hj).r2 hj, if_neg (fun q => nI_ge hi (by omega) q), nI_1, lt_eq]
    refine wp_for1 n (fun k h' => i < k ∧ KIv h' ∧ KZ h h' ∧ ∀ k', i < k' → k' < k → ¬ EvM (2 ^ n - 1) sp st (swp pl i k') li le) ?_ ?_ FU h1 (i0 := i + 1) (by omega) (FUb (by omega)) ⟨by omega, k1, z1, fun k' w1 w2 => by omega⟩
    · rintro k h2 rec2 hk ⟨hik, k2, z2, no2⟩ hrec2
      unfold fX10_bestSwap_l28
      have hib : ib (nI i) 5 = true := ib_nI (by omega) (by decide)
      have hkb : ib (nI k) 5 = true := ib_nI (by omega) (by decide)
      have bi := hs.2.2.2.2 i hi
      have bk := hs.2.2.2.2 k hk
      have c2 := c.kz z2 hj
      obtain ⟨h3, e3, c3, k3, z3⟩ := copy11 hj hn c2 k2
      have z3' := z2.trans z3
      have cj3 := c.kz z3' hj
      have t4 := w33_t11 h3 (nI i) (nI (pl k))
      have c4 := c3.set33 (x := pl k) hn hi (fun q _ => rfl)
      have cj4 := cj3.t11 t4 hj
      have t5 := w33_t11 (wa h3 33 11 (nI i) (nI (pl k))) (nI k) (nI (pl i))
      have c5 := c4.set33 (x := pl i) hn hk (fun q _ => rfl)
      have cj5 := cj4.t11 t5 hj
      have z5 := z3'.trans (t4.trans t5).kz
      have k5 := k3.t11 (t4.trans t5)
      rw [c2.r2 hj, if_neg (fun q => nI_ge hk (by omega) q), e3, bnd_eq, ck_p hkb, ck_p hib, cj3.r33 hj hn hk, lt_eq, ck_p hib, ck_p hkb, cj4.r33 hj hn hi, lt_eq, ck_p hib, ck_p hkb, jn_eq, cj5.r33 hj hn hi, cj5.r33 hj hn hk]
      have next : ∀ h', KIv h' → KZ h h' → ¬ EvM (2 ^ n - 1) sp st (swp pl i k) li le → WP (lt (nI k + 1) fun x9 => rec2 x9 h') (fun r h' => KIv h' ∧ ((EvM (2 ^ n - 1) sp st pl li le ∧ r = -1) ∨ (¬ EvM (2 ^ n - 1) sp st pl li le ∧ SWs (fun i k => EvM (2 ^ n - 1) sp st (swp pl i k) li le) n r))) := fun h' k' z' hE => by
        rw [lt_eq, nI_1]
        refine hrec2 _ ⟨by omega, k', z', fun q w1 w2 => ?_⟩
        by_cases g : q = k
        · rw [g]; exact hE
        · exact no2 q w1 (by omega)
      by_cases g : pl i = pl k
      · rw [if_pos (by rw [g])]
        exact next _ k5 z5 (by rw [swp_eq g]; exact hE0)
      · obtain ⟨r, h6, e6, k6, ky6, hr⟩ := exC (a := 11) (hs.swp hi hk) (by decide) (by decide) c5 k5
        rw [if_neg (fun q => g ((eq_n (by omega) (by omega)).mp q)), e6, bnd_eq]
        rcases hr with ⟨rfl, hE⟩ | ⟨rfl, hE⟩
        · rw [if_neg ne10, show (10 : Int32) * nI i = nI (10 * i) from nI_mul 10 i, nI_add]
          refine wp_some ⟨k6, Or.inr ⟨hE0, Or.inl ⟨i, k, hik, hk, rfl, hE, fun i' k' w1 w2 w3 => ?_⟩⟩⟩
          rcases w3 with w3 | ⟨rfl, w3⟩
          · exact no1 i' k' w1 w2 w3
          · exact no2 k' w1 w3
        · rw [if_pos rfl]
          exact next _ k6 (z5.trans ky6.kz) hE
    · rintro h2 rec2 ⟨-, k2, z2, no2⟩
      unfold fX10_bestSwap_l28
      rw [(c.kz z2 hj).r2 hj, if_pos (nI_le (Nat.le_refl _) (by omega))]
      dsimp only
      rw [lt_eq]
      refine hrec _ ⟨k2, z2, fun i' k' w1 w2 w3 => ?_⟩
      by_cases g : i' = i
      · rw [g] at w1 ⊢
        exact no2 k' w1 w2
      · exact no1 i' k' w1 w2 (by omega)
  · rintro h1 rec ⟨k1, z1, no1⟩
    unfold fX10_bestSwap_l16
    rw [(c.kz z1 hj).r2 hj, if_pos (nI_le (Nat.le_refl _) (by omega))]
    exact wp_some ⟨k1, Or.inr ⟨hE0, Or.inr ⟨rfl, fun i' k' w1 w2 => no1 i' k' w1 w2 (by omega)⟩⟩⟩
theorem swapM {h : Hp} {j sp st n : Nat} {pl li le : Nat → Nat} (hj : j < 2) (hs : SV sp st n pl li le) (m : MB h sp st n pl li le) (hI : MInv h) (e25 : h.1 10 0 25 = nI (2 ^ n - 1)) (e21 : h.1 10 0 21 = nI j) (ms : MSt h j sp st n pl li le) : ∃ r h', fX12_swapTwo h = some (r, h') ∧ MInv h' ∧ ((EvM (2 ^ n - 1) sp st pl li le ∧ r = -1) ∨ (¬ EvM (2 ^ n - 1) sp st pl li le ∧ SWs (fun i k => EvM (2 ^ n - 1) sp st (swp pl i k) li le) n r)) := by
  have hn := hs.2.2.2.1
  suffices hw : WP (fX12_swapTwo h) (fun r h' => MInv h' ∧ ((EvM (2 ^ n - 1) sp st pl li le ∧ r = -1) ∨ (¬ EvM (2 ^ n - 1) sp st pl li le ∧ SWs (fun i k => EvM (2 ^ n - 1) sp st (swp pl i k) li le) n r))) by
    obtain ⟨r, h', e, q⟩ := hw
    exact ⟨r, h', e, q⟩
  obtain ⟨r0, h0, e0, i0, kf0, m0, w0, hr0⟩ := exM hs m (pwl n) e25 hI
  have mt0 : MTl h0 n h := kf0.mt i0 ⟨hI, e25, rfl, fun _ => rfl⟩
  unfold fX12_swapTwo
  rw [e0, bnd_eq]
  rcases hr0 with ⟨rfl, hE0⟩ | ⟨rfl, hE0⟩
  · rw [if_neg ne10]
    exact wp_some ⟨i0, Or.inl ⟨hE0, rfl⟩⟩
  rw [if_pos rfl]
  refine wp_for1 n (fun i h' => MTl h' n h ∧ h'.1 10 0 22 = nI n ∧ ∀ i' k', i' < k' → k' < n → i' < i → ¬ EvM (2 ^ n - 1) sp st (swp pl i' k') li le) ?_ ?_ FU h0 (i0 := 0) (by omega) (FUb (by omega)) ⟨mt0, m0.1, fun i' k' _ _ w => absurd w (Nat.not_lt_zero _)⟩
  · rintro i h1 rec hi ⟨mt1, n1, no1⟩ hrec
    unfold fX12_swapTwo_l11
    rw [show rd h1 10 0 22 = nI n from n1, if_neg (fun q => nI_ge hi (by omega) q), nI_1, lt_eq]
    refine wp_for1 n (fun k h' => i < k ∧ MTl h' n h ∧ h'.1 10 0 22 = nI n ∧ ∀ k', i < k' → k' < k → ¬ EvM (2 ^ n - 1) sp st (swp pl i k') li le) ?_ ?_ FU h1 (i0 := i + 1) (by omega) (FUb (by omega)) ⟨by omega, mt1, n1, fun k' w1 w2 => by omega⟩
    · rintro k h2 rec2 hk ⟨hik, mt2, n2, no2⟩ hrec2
      unfold fX12_swapTwo_l23
      have hib : ib (nI i) 5 = true := ib_nI (by omega) (by decide)
      have hkb : ib (nI k) 5 = true := ib_nI (by omega) (by decide)
      have ms2 : MSt h2 j sp st n pl li le := by
        obtain ⟨a1, a2, a3, a4⟩ := ms
        refine ⟨(mt2.2.2.2 _).trans a1, (mt2.2.2.2 _).trans a2, (mt2.2.2.2 _).trans a3, fun p hp => ?_⟩
        rw [mt2.2.2.2, mt2.2.2.2, mt2.2.2.2]; exact a4 p hp
      obtain ⟨u3, h3, e3, mh3, fr3⟩ := wp_fr (asTold_wp (mt2.2.2.1.trans e21) (by omega) hn ms2) (frX12_asTold h2)
      have mt3 : MTl h3 n h := ⟨mt2.1.same (fr3.sameI rfl), mh3.2.2.2.1, (fr3.at 10 0 21 rfl).trans mt2.2.2.1, fun q => (fr3.cell 48 0 rfl q).trans (mt2.2.2.2 q)⟩
      have t21 : h3.1 10 0 21 = nI j := mt3.2.2.1.trans e21
      have tk : h3.1 48 0 (18 * j + (3 + k)) = nI (pl k) := by rw [mt3.2.2.2, ← Nat.add_assoc]; exact (ms.2.2.2 k hk).1
      have ti : (wa h3 53 0 (nI i) (nI (pl k))).1 48 0 (18 * j + (3 + i)) = nI (pl i) := by rw [wa_g, if_neg (by omega), mt3.2.2.2, ← Nat.add_assoc]; exact (ms.2.2.2 i hi).1
      have t21' : (wa h3 53 0 (nI i) (nI (pl k))).1 10 0 21 = nI j := by rw [wa_g, if_neg (by omega)]; exact t21
      have m5 := (mh3.mb.set53 (x := pl k) hn hi (fun q _ => rfl)).set53 (x := pl i) hn hk (fun q _ => rfl)
      have i5 : MInv (wa (wa h3 53 0 (nI i) (nI (pl k))) 53 0 (nI k) (nI (pl i))) := (mt3.1.wa (by decide) (by decide) (by decide)).wa (by decide) (by decide) (by decide)
      have mt5 : MTl (wa (wa h3 53 0 (nI i) (nI (pl k))) 53 0 (nI k) (nI (pl i))) n h := by
        refine ⟨i5, ?_, ?_, fun q => ?_⟩
        · rw [wa_g, if_neg (by omega), wa_g, if_neg (by omega)]; exact mt3.2.1
        · rw [wa_g, if_neg (by omega), wa_g, if_neg (by omega)]; exact mt3.2.2.1
        · rw [wa_g, if_neg (by omega), wa_g, if_neg (by omega)]; exact mt3.2.2.2 q
      obtain ⟨r, h6, e6, i6, kf6, m6, w6, hr⟩ := exM (hs.swp hi hk) m5 (pwl n) mt5.2.1 i5
      rw [show rd h2 10 0 22 = nI n from n2, if_neg (fun q => nI_ge hk (by omega) q), e3, bnd_eq, show (3 : Int32) + nI k = nI (3 + k) from nI_add 3 k, of_eq t21 (by omega), tk, bnd_eq, ck_p hib, lt_eq, show (3 : Int32) + nI i = nI (3 + i) from nI_add 3 i, of_eq t21' (by omega), ti, bnd_eq, ck_p hkb, lt_eq, e6, bnd_eq]
      rcases hr with ⟨rfl, hE⟩ | ⟨rfl, hE⟩
      · rw [if_neg ne10, show (10 : Int32) * nI i = nI (10 * i) from nI_mul 10 i, nI_add]
        refine wp_some ⟨i6, Or.inr ⟨hE0, Or.inl ⟨i, k, hik, hk, rfl, hE, fun i' k' w1 w2 w3 => ?_⟩⟩⟩
        rcases w3 with w3 | ⟨rfl, w3⟩
        · exact no1 i' k' w1 w2 w3
        · exact no2 k' w1 w3
      · rw [if_pos rfl, lt_eq, nI_1]
        refine hrec2 _ ⟨by omega, kf6.mt i6 mt5, m6.1, fun q w1 w2 => ?_⟩
        by_cases g : q = k
        · rw [g]; exact hE
        · exact no2 q w1 (by omega)
    · rintro h2 rec2 ⟨-, mt2, n2, no2⟩
      unfold fX12_swapTwo_l23
      rw [show rd h2 10 0 22 = nI n from n2, if_pos (nI_le (Nat.le_refl _) (by omega))]
      dsimp only
      rw [lt_eq]
      refine hrec _ ⟨mt2, n2, fun i' k' w1 w2 w3 => ?_⟩
      by_cases g : i' = i
      · rw [g] at w1 ⊢
        exact no2 k' w1 w2
      · exact no1 i' k' w1 w2 (by omega)
  · rintro h1 rec ⟨mt1, n1, no1⟩
    unfold fX12_swapTwo_l11
    rw [show rd h1 10 0 22 = nI n from n1, if_pos (nI_le (Nat.le_refl _) (by omega))]
    exact wp_some ⟨mt1.1, Or.inr ⟨hE0, Or.inr ⟨rfl, fun i' k' w1 w2 => no1 i' k' w1 w2 (by omega)⟩⟩⟩
