/-! load: couples, rows in the plates' order -/
noncomputable def chi (P : Prop) : Nat := @ite Nat P (Classical.propDecidable P) 1 0
theorem chi_p {P : Prop} (h : P) : chi P = 1 := by unfold chi; exact if_pos h
theorem chi_n {P : Prop} (h : ¬ P) : chi P = 0 := by unfold chi; exact if_neg h
def p1N (f : Nat → Nat → Nat) (i : Nat) : Nat → Nat
  | 0 => 0
  | k + 1 => p1N f i k + (if i < k then f i k else 0)
def t1N (f : Nat → Nat → Nat) (n : Nat) : Nat → Nat
  | 0 => 0
  | i + 1 => t1N f n i + p1N f i n
def p2N (f : Nat → Nat → Nat) (a : Nat) : Nat → Nat
  | 0 => 0
  | k + 1 => p2N f a k + f k a
def t2N (f : Nat → Nat → Nat) : Nat → Nat
  | 0 => 0
  | a + 1 => t2N f a + p2N f a a
theorem t12 (f : Nat → Nat → Nat) : ∀ n, n ≤ 5 → t1N f n n = t2N f n := by
  intro n hn
  rcases (show n = 0 ∨ n = 1 ∨ n = 2 ∨ n = 3 ∨ n = 4 ∨ n = 5 by omega) with rfl | rfl | rfl | rfl | rfl | rfl <;> simp [t1N, p1N, t2N, p2N] <;> omega
theorem p1_0 (f : Nat → Nat → Nat) (i : Nat) : ∀ k, k ≤ i + 1 → p1N f i k = 0 := by
  intro k
  induction k with
  | zero => intro _; rfl
  | succ k ih =>
    intro hk
    show p1N f i k + (if i < k then f i k else 0) = 0
    rw [ih (by omega), if_neg (by omega)]
theorem p1_s {f : Nat → Nat → Nat} {i k : Nat} (h : i < k) : p1N f i (k + 1) = p1N f i k + f i k := by
  show p1N f i k + (if i < k then f i k else 0) = _
  rw [if_pos h]
theorem closeC {h : Hp} {j sp st n : Nat} {pl li le : Nat → Nat} (hj : j < 10) (hs : SV sp st n pl li le) (c : CSt h j sp st n pl li le) : fX8_closeCouples j h = some (nI (t1N (fun i k => chi (pl i = pl k)) n n), h) := by
  have hn := hs.2.2.2.1
  apply wp_same
  unfold fX8_closeCouples
  refine wp_for2 n (fun i a h' => a = nI (t1N (fun i k => chi (pl i = pl k)) n i) ∧ h' = h) ?_ ?_ FU 0 h (i0 := 0) (by omega) (FUb (by omega)) ⟨rfl, rfl⟩
  · rintro i a h1 rec hi ⟨rfl, rfl⟩ hrec
    unfold fX8_closeCouples_l4
    rw [c.r2 hj, if_neg (fun q => nI_ge hi (by omega) q), nI_1, lt_eq]
    refine wp_for2 n (fun k a h' => i < k ∧ a = nI (t1N (fun i k => chi (pl i = pl k)) n i + p1N (fun i k => chi (pl i = pl k)) i k) ∧ h' = h1) ?_ ?_ FU _ h1 (i0 := i + 1) (by omega) (FUb (by omega)) ⟨by omega, by rw [p1_0 _ i (i + 1) (by omega), Nat.add_zero], rfl⟩
    · rintro k a h2 rec2 hk ⟨hik, rfl, rfl⟩ hrec2
      unfold fX8_closeCouples_l16
      have bi := hs.2.2.2.2 i hi
      have bk := hs.2.2.2.2 k hk
      rw [c.r2 hj, if_neg (fun q => nI_ge hk (by omega) q), ck_p (ib_nI (by omega) (by decide)), ck_p (ib_nI (by omega) (by decide)), jn_eq, c.r33 hj hn hi, c.r33 hj hn hk]
      by_cases g : pl i = pl k
      · rw [if_pos (by rw [g]), nI_1, lt_eq]
        dsimp only
        rw [lt_eq, nI_1]
        exact hrec2 _ _ ⟨by omega, by rw [p1_s hik, chi_p g, Nat.add_assoc], rfl⟩
      · rw [if_neg (fun q => g ((eq_n (by omega) (by omega)).mp q))]
        dsimp only
        rw [lt_eq, nI_1]
        exact hrec2 _ _ ⟨by omega, by rw [p1_s hik, chi_n g, Nat.add_zero], rfl⟩
    · rintro a h2 rec2 ⟨-, rfl, rfl⟩
      unfold fX8_closeCouples_l16
      rw [c.r2 hj, if_pos (nI_le (Nat.le_refl _) (by omega))]
      dsimp only
      rw [lt_eq]
      exact hrec _ _ ⟨rfl, rfl⟩
  · rintro a h1 rec ⟨rfl, rfl⟩
    unfold fX8_closeCouples_l4
    rw [c.r2 hj, if_pos (nI_le (Nat.le_refl _) (by omega))]
    exact wp_some ⟨rfl, rfl⟩
theorem msk3 : ∀ i, i < 5 → ∀ k, k < 5 → i < k → ((1 : Int32) <<< (nI i &&& 31)) ||| ((1 : Int32) <<< (nI k &&& 31)) = nI (2 ^ i + 2 ^ k) ∧ ((1 : Int32) <<< (nI k &&& 31)) ||| ((1 : Int32) <<< (nI i &&& 31)) = nI (2 ^ i + 2 ^ k) := by decide +kernel
theorem msk4 : ∀ n, n ≤ 5 → ∀ k, k < n → ∀ i, i < k → 2 ^ i + 2 ^ k < 2 ^ n := by decide +kernel
theorem coupC {h : Hp} {j sp st n : Nat} {pl li le : Nat → Nat} (hj : j < 10) (hs : SV sp st n pl li le) (c : CSt h j sp st n pl li le) (hK : KIv h) : ∃ h', fX10_couplesAlone j h = some (nI (t1N (fun i k => chi (EvM (2 ^ i + 2 ^ k) sp st pl li le)) n n), h') ∧ KIv h' := by
  have hn := hs.2.2.2.1
  suffices hw : WP (fX10_couplesAlone j h) (fun r h' => r = nI (t1N (fun i k => chi (EvM (2 ^ i + 2 ^ k) sp st pl li le)) n n) ∧ KIv h') by
    obtain ⟨r, h', e, rfl, q⟩ := hw
    exact ⟨h', e, q⟩
  unfold fX10_couplesAlone
  refine wp_for2 n (fun i a h' => a = nI (t1N (fun i k => chi (EvM (2 ^ i + 2 ^ k) sp st pl li le)) n i) ∧ KIv h' ∧ KZ h h') ?_ ?_ FU 0 h (i0 := 0) (by omega) (FUb (by omega)) ⟨rfl, hK, fun _ _ _ _ _ _ => rfl⟩
  · rintro i a h1 rec hi ⟨rfl, k1, z1⟩ hrec
    unfold fX10_couplesAlone_l4
    rw [(c.kz z1 hj).r2 hj, if_neg (fun q => nI_ge hi (by omega) q), nI_1, lt_eq]
    refine wp_for2 n (fun k a h' => i < k ∧ a = nI (t1N (fun i k => chi (EvM (2 ^ i + 2 ^ k) sp st pl li le)) n i + p1N (fun i k => chi (EvM (2 ^ i + 2 ^ k) sp st pl li le)) i k) ∧ KIv h' ∧ KZ h h') ?_ ?_ FU _ h1 (i0 := i + 1) (by omega) (FUb (by omega)) ⟨by omega, by rw [p1_0 _ i (i + 1) (by omega), Nat.add_zero], k1, z1⟩
    · rintro k a h2 rec2 hk ⟨hik, rfl, k2, z2⟩ hrec2
      unfold fX10_couplesAlone_l17
      obtain ⟨r, h3, e3, k3, kz3, hr⟩ := areKept_wp hj hs (msk4 n hn k hk i hik) (c.kz z2 hj) k2
      rw [(c.kz z2 hj).r2 hj, if_neg (fun q => nI_ge hk (by omega) q), (msk3 i (by omega) k (by omega) hik).1, e3, bnd_eq, jn_eq]
      rcases hr with ⟨rfl, g⟩ | ⟨rfl, g⟩
      · rw [if_neg ne10, nI_1, lt_eq]
        dsimp only
        rw [lt_eq, nI_1]
        exact hrec2 _ _ ⟨by omega, by rw [p1_s hik, chi_p g, Nat.add_assoc], k3, z2.trans kz3⟩
      · rw [if_pos rfl]
        dsimp only
        rw [lt_eq, nI_1]
        exact hrec2 _ _ ⟨by omega, by rw [p1_s hik, chi_n g, Nat.add_zero], k3, z2.trans kz3⟩
    · rintro a h2 rec2 ⟨-, rfl, k2, z2⟩
      unfold fX10_couplesAlone_l17
      rw [(c.kz z2 hj).r2 hj, if_pos (nI_le (Nat.le_refl _) (by omega))]
      dsimp only
      rw [lt_eq]
      exact hrec _ _ ⟨rfl, k2, z2⟩
  · rintro a h1 rec ⟨rfl, k1, z1⟩
    unfold fX10_couplesAlone_l4
    rw [(c.kz z1 hj).r2 hj, if_pos (nI_le (Nat.le_refl _) (by omega))]
    exact wp_some ⟨rfl, k1⟩
theorem coupM {h : Hp} {sp st n : Nat} {pl li le : Nat → Nat} {z : Int32} {f : Nat → Nat → Nat} (hs : SV sp st n pl li le) (m : MB h sp st n pl li le) (hI : MInv h) (f0 : z = 0 → f = fun i k => chi (pl i = pl k)) (f1 : z ≠ 0 → f = fun i k => chi (EvM (2 ^ i + 2 ^ k) sp st pl li le)) : ∃ h', fX12_couples z h = some (nI (t2N f n), h') ∧ MInv h' := by
  have hn := hs.2.2.2.1
  suffices hw : WP (fX12_couples z h) (fun r h' => r = nI (t2N f n) ∧ MInv h') by
    obtain ⟨r, h', e, rfl, q⟩ := hw
    exact ⟨h', e, q⟩
  unfold fX12_couples
  refine wp_for2 n (fun i a h' => a = nI (t2N f i) ∧ MInv h' ∧ MB h' sp st n pl li le) ?_ ?_ FU 0 h (i0 := 0) (by omega) (FUb (by omega)) ⟨rfl, hI, m⟩
  · rintro i a h1 rec hi ⟨rfl, i1, m1⟩ hrec
    unfold fX12_couples_l4
    rw [m1.r22, if_neg (fun q => nI_ge hi (by omega) q)]
    refine wp_for2 i (fun k a h' => a = nI (t2N f i + p2N f i k) ∧ MInv h' ∧ MB h' sp st n pl li le) ?_ ?_ FU _ h1 (i0 := 0) (by omega) (FUb (by omega)) ⟨rfl, i1, m1⟩
    · rintro k a h2 rec2 hk ⟨rfl, i2, m2⟩ hrec2
      unfold fX12_couples_l15
      rw [if_neg (fun q => nI_ge hk (by omega) q), (msk3 k (by omega) i (by omega) hk).2, lt_eq, jn_eq]
      have i3 : MInv (wr h2 10 0 25 (nI (2 ^ k + 2 ^ i))) := i2.w10 (by decide)
      have m3 := m2.w25 (x := nI (2 ^ k + 2 ^ i))
      have yes : ∀ h', MInv h' → MB h' sp st n pl li le → f k i = 1 → WP (lt (nI (t2N f i + p2N f i k) + (1 : Int32)) fun x4 => lt (nI k + 1) fun x5 => rec2 x4 x5 h') (fun r h' => r = nI (t2N f n) ∧ MInv h') := fun h' i' m' e => by
        rw [lt_eq, lt_eq, nI_1, nI_1]
        refine hrec2 _ _ ⟨?_, i', m'⟩
        show nI (t2N f i + p2N f i k + 1) = nI (t2N f i + (p2N f i k + f k i))
        rw [e, Nat.add_assoc]
      have no : ∀ h', MInv h' → MB h' sp st n pl li le → f k i = 0 → WP (lt (nI (t2N f i + p2N f i k) + (0 : Int32)) fun x4 => lt (nI k + 1) fun x5 => rec2 x4 x5 h') (fun r h' => r = nI (t2N f n) ∧ MInv h') := fun h' i' m' e => by
        rw [lt_eq, lt_eq, nI_1, show nI (t2N f i + p2N f i k) + (0 : Int32) = nI (t2N f i + p2N f i k + 0) from nI_add _ 0]
        refine hrec2 _ _ ⟨?_, i', m'⟩
        show nI (t2N f i + p2N f i k + 0) = nI (t2N f i + (p2N f i k + f k i))
        rw [e, Nat.add_assoc]
      by_cases hz : z = 0
      · have bi := hs.2.2.2.2 i hi
        have bk := hs.2.2.2.2 k (by omega)
        rw [if_pos hz, ck_p (ib_nI (by omega) (by decide)), ck_p (ib_nI (by omega) (by decide)), m3.r53 hn hi, m3.r53 hn (show k < n by omega)]
        by_cases g : pl k = pl i
        · rw [if_pos (by rw [g])]
          exact yes _ i3 m3 (by rw [f0 hz]; exact chi_p g)
        · rw [if_neg (fun q => g ((eq_n (by omega) (by omega)).mp q).symm)]
          exact no _ i3 m3 (by rw [f0 hz]; exact chi_n g)
      · obtain ⟨r, h4, e4, i4, -, m4, -, hr⟩ := exM hs m3 (msk4 n hn i hi k hk) rfl i3
        rw [if_neg hz, e4, bnd_eq]
        rcases hr with ⟨rfl, g⟩ | ⟨rfl, g⟩
        · rw [if_neg ne10]
          exact yes _ i4 m4 (by rw [f1 hz]; exact chi_p g)
        · rw [if_pos rfl]
          exact no _ i4 m4 (by rw [f1 hz]; exact chi_n g)
    · rintro a h2 rec2 ⟨rfl, i2, m2⟩
      unfold fX12_couples_l15
      rw [if_pos (nI_le (Nat.le_refl _) (by omega))]
      dsimp only
      rw [lt_eq, nI_1]
      exact hrec _ _ ⟨rfl, i2, m2⟩
  · rintro a h1 rec ⟨rfl, i1, m1⟩
    unfold fX12_couples_l4
    rw [m1.r22, if_pos (nI_le (Nat.le_refl _) (by omega))]
    exact wp_some ⟨rfl, i1⟩
def CRn (G : KG) (n : Nat) : Nat → Nat → Prop
  | 0, c => c = c0N G
  | i + 1, c => ∃ d, CRn G n i d ∧ kpN G d (i % n) = true ∧ c = nxN G d (i % n)
theorem CRn.uniq {G : KG} {n : Nat} : ∀ i c c', CRn G n i c → CRn G n i c' → c = c' := by
  intro i
  induction i with
  | zero => intro c c' h1 h2; exact (show c = _ from h1).trans (show c' = _ from h2).symm
  | succ i ih =>
    rintro c c' ⟨d, h1, -, rfl⟩ ⟨d', h2, -, rfl⟩
    rw [ih d d' h1 h2]
theorem CRn.rc {G : KG} {n : Nat} (h1n : 1 ≤ n) (hn : n ≤ 5) : ∀ i c, CRn G n i c → Rc G c := by
  intro i
  induction i with
  | zero => intro c h; exact ⟨0, h⟩
  | succ i ih =>
    rintro c ⟨d, h1, h2, rfl⟩
    have := Nat.mod_lt i (show 0 < n by omega)
    exact (ih d h1).next (by omega) h2
theorem CRn.down {G : KG} {n : Nat} : ∀ i c k, CRn G n i c → k < i → ∃ d, CRn G n k d ∧ kpN G d (k % n) = true := by
  intro i
  induction i with
  | zero => intro c k _ hk; exact absurd hk (Nat.not_lt_zero _)
  | succ i ih =>
    rintro c k ⟨d, h1, h2, -⟩ hk
    by_cases g : k = i
    · rw [g]; exact ⟨d, h1, h2⟩
    · exact ih d k h1 (by omega)
def IRn (G : KG) (n k : Nat) : Prop := k ≤ 99 ∧ ∃ c, CRn G n k c ∧ (k = 99 ∨ kpN G c (k % n) = false)
theorem IRn.uniq {G : KG} {n k k' : Nat} (a : IRn G n k) (b : IRn G n k') : k = k' := by
  obtain ⟨a1, c, a2, a3⟩ := a
  obtain ⟨b1, c', b2, b3⟩ := b
  rcases Nat.lt_trichotomy k k' with w | w | w
  · obtain ⟨d, h1, h2⟩ := b2.down _ _ _ w
    have hf := a3.resolve_left (by omega)
    rw [CRn.uniq _ _ _ a2 h1, h2] at hf
    cases hf
  · exact w
  · obtain ⟨d, h1, h2⟩ := a2.down _ _ _ w
    have hf := b3.resolve_left (by omega)
    rw [CRn.uniq _ _ _ b2 h1, h2] at hf
    cases hf
theorem inRowC {h : Hp} {j sp st n : Nat} {pl li le : Nat → Nat} (hj : j < 10) (h1n : 1 ≤ n) (hs : SV sp st n pl li le) (c : CSt h j sp st n pl li le) : ∃ k, fX0_inRow j h = some (nI k, h) ∧ IRn (GC n sp st pl li le) n k := by
  have hn := hs.2.2.2.1
  have hG := GC_VG hs
  suffices hw : WP (fX0_inRow j h) (fun r h' => h' = h ∧ ∃ k, r = nI k ∧ IRn (GC n sp st pl li le) n k) by
    obtain ⟨r, h', e, rfl, k, rfl, q⟩ := hw
    exact ⟨k, e, q⟩
  unfold fX0_inRow
  have r1 : rd h 6 j 1 = nI st := by show h.1 6 (j % cnt 6) 1 = _; rw [mj12 (by omega) rfl]; exact c.2.1
  have hc5 : c0N (GC n sp st pl li le) / 7776 = 5 := by unfold c0N; exact cdN_run (c0_dig hG)
  have hp0 : plN (GC n sp st pl li le) (c0N (GC n sp st pl li le)) = st := by unfold plN; rw [if_pos hc5]; rfl
  rw [c.r2 hj, if_neg (fun q => by have := (eq0_n (by omega)).mp q; omega), r1, lt_eq, packed_eq (by omega) hs c, bnd_eq, pk_c0 hs]
  refine wp_for3 99 (fun i a b h' => h' = h ∧ ∃ d, CRn (GC n sp st pl li le) n i d ∧ a = nI (plN (GC n sp st pl li le) d) ∧ b = nI (pkN (lpC n d))) ?_ ?_ FU _ _ h (i0 := 0) (by omega) (FUb (by decide)) ⟨rfl, _, rfl, by rw [hp0], rfl⟩
  · rintro i a b h1 rec hi ⟨rfl, d, hd, rfl, rfl⟩ hrec
    unfold fX0_inRow_l21
    have hpn := Nat.mod_lt i (show 0 < n by omega)
    have hrc := hd.rc h1n hn
    have hpl := plN_le hG (hrc.vn hG)
    rw [if_neg (show ¬ (99 : Int32) ≤ nI i from fun q => nI_ge hi (by decide) q), c.r2 hj, ck_p (ne0_n h1n (by omega)), nI_rem (by omega) (by omega), lt_eq, isKeptC_eq (lpC_D7 n d) (by omega) hs c hpl hpn, bnd_eq, kpC_eq hn hpn]
    by_cases g : kpN (GC n sp st pl li le) d (i % n) = true
    · have enx : plN (GC n sp st pl li le) (nxN (GC n sp st pl li le) d (i % n)) = pl (i % n) := by
        have e7 : nxN (GC n sp st pl li le) d (i % n) / 7776 = i % n := by unfold nxN; exact cdN_run (nx_dig hG d (i % n))
        unfold plN
        rw [e7, if_neg (by omega)]; rfl
      rw [if_pos g, if_neg ne10, behindRunC_eq (lpC_D7 n d) (by omega) hs c hpl hpn, bnd_eq, rnC_eq hs hpn g, ck_p (ib_nI (by omega) (by decide)), c.r33 hj hn hpn, lt_eq, lt_eq, nI_1]
      exact hrec _ _ _ ⟨rfl, _, ⟨d, hd, g, rfl⟩, by rw [enx], rfl⟩
    · rw [if_neg g, if_pos rfl]
      exact wp_some ⟨rfl, i, rfl, by omega, d, hd, Or.inr (Bool.not_eq_true _ |>.mp g)⟩
  · rintro a b h1 rec ⟨rfl, d, hd, rfl, rfl⟩
    unfold fX0_inRow_l21
    rw [if_pos (show (99 : Int32) ≤ nI 99 by decide)]
    exact wp_some ⟨rfl, 99, rfl, by omega, d, hd, Or.inl rfl⟩
theorem inRowM {h : Hp} {sp st n : Nat} {pl li le : Nat → Nat} (hs : SV sp st n pl li le) (m : MB h sp st n pl li le) (e25 : h.1 10 0 25 = nI (2 ^ n - 1)) : ∃ k h', fX12_inRow h = some (nI k, h') ∧ KS h h' ∧ ((n = 0 ∧ k = 0) ∨ (1 ≤ n ∧ IRn (GC n sp st pl li le) n k)) := by
  have hn := hs.2.2.2.1
  have hG := GC_VG hs
  suffices hw : WP (fX12_inRow h) (fun r h' => KS h h' ∧ ∃ k, r = nI k ∧ ((n = 0 ∧ k = 0) ∨ (1 ≤ n ∧ IRn (GC n sp st pl li le) n k))) by
    obtain ⟨r, h', e, q, k, rfl, q2⟩ := hw
    exact ⟨k, h', e, q, q2⟩
  have mg := m.mg hn (pwl n) e25
  rw [GM_GC] at mg
  obtain ⟨h1, e1, o1, ks1⟩ := openFirst_wp hG mg
  unfold fX12_inRow
  rw [e1, bnd_eq]
  have r22 : ∀ h', KS h h' → rd h' 10 0 22 = nI n := fun h' k => (k 10 0 22 (by decide) (by omega)).trans m.1
  by_cases h0 : n = 0
  · refine wp_for1 0 (fun i h' => h' = h1) ?_ ?_ FU h1 (i0 := 0) (by omega) (FUb (by omega)) rfl
    · intro i h2 rec hi
      exact absurd hi (Nat.not_lt_zero _)
    · rintro h2 rec rfl
      unfold fX12_inRow_l6
      rw [r22 h2 ks1, if_pos ((le0_n (by omega)).mpr h0)]
      exact wp_some ⟨ks1, 0, rfl, Or.inl ⟨h0, rfl⟩⟩
  · refine wp_for1 99 (fun i h' => KS h h' ∧ ∃ d, CRn (GC n sp st pl li le) n i d ∧ OS h' (GC n sp st pl li le) d) ?_ ?_ FU h1 (i0 := 0) (by omega) (FUb (by decide)) ⟨ks1, _, rfl, o1⟩
    · rintro i h2 rec hi ⟨ks2, d, hd, o2⟩ hrec
      unfold fX12_inRow_l6
      have hpn := Nat.mod_lt i (show 0 < n by omega)
      have hrc := hd.rc (by omega) hn
      rw [r22 h2 ks2, if_neg (fun q => h0 ((le0_n (by omega)).mp q)), if_neg (show ¬ (99 : Int32) ≤ nI i from fun q => nI_ge hi (by decide) q), ck_p (ne0_n (by omega) (by omega)), nI_rem (by omega) (by omega), isKeptM_eq hG (mg.ks ks2) (hrc.vn hG) o2 (by omega), bnd_eq]
      by_cases g : kpN (GC n sp st pl li le) d (i % n) = true
      · obtain ⟨h3, e3, o3, ks3⟩ := behindRunM_wp hG (mg.ks ks2) (hrc.vn hG) o2 (show i % n < 5 by omega) g
        rw [if_pos g, if_neg ne10, r22 h2 ks2, ck_p (ne0_n (by omega) (by omega)), nI_rem (by omega) (by omega), e3, bnd_eq, lt_eq, nI_1]
        exact hrec _ ⟨ks2.trans ks3, _, ⟨d, hd, g, rfl⟩, o3⟩
      · rw [if_neg g, if_pos rfl]
        exact wp_some ⟨ks2, i, rfl, Or.inr ⟨by omega, by omega, d, hd, Or.inr (Bool.not_eq_true _ |>.mp g)⟩⟩
    · rintro h2 rec ⟨ks2, d, hd, o2⟩
      unfold fX12_inRow_l6
      rw [r22 h2 ks2, if_neg (fun q => h0 ((le0_n (by omega)).mp q)), if_pos (show (99 : Int32) ≤ nI 99 by decide)]
      exact wp_some ⟨ks2, 99, rfl, Or.inr ⟨by omega, by omega, d, hd, Or.inl rfl⟩⟩
