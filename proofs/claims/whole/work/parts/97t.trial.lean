/-! rows of trials: the reference -/
def MTl (h : Hp) (n : Nat) (hB : Hp) : Prop := MInv h ∧ h.1 10 0 25 = nI (2 ^ n - 1) ∧ h.1 10 0 21 = hB.1 10 0 21 ∧ ∀ i, h.1 48 0 i = hB.1 48 0 i
theorem KF.mt {h h' hB : Hp} {n : Nat} (k : KF h h') (i : MInv h') (m : MTl h n hB) : MTl h' n hB := ⟨i, (k 10 0 25 (by decide) (by decide) (by decide) (by decide) (by omega)).trans m.2.1, (k 10 0 21 (by decide) (by decide) (by decide) (by decide) (by omega)).trans m.2.2.1, fun q => (k 48 0 q (by decide) (by decide) (by decide) (by decide) (by omega)).trans (m.2.2.2 q)⟩
theorem pwl (n : Nat) : 2 ^ n - 1 < 2 ^ n := by have := Nat.two_pow_pos n; omega
theorem MInv.w10 {h : Hp} {i : Nat} {x : Int32} (hi : i ≠ 46) (m : MInv h) : MInv (wr h 10 0 i x) := m.same ⟨fun _ => rfl, fun _ => rfl, by rw [wr_g, if_neg (by omega)]⟩
theorem speedM {h : Hp} {sp st n : Nat} {pl li le : Nat → Nat} (hs : SV sp st n pl li le) (m : MB h sp st n pl li le) (hI : MInv h) (e25 : h.1 10 0 25 = nI (2 ^ n - 1)) : ∃ r h', fX12_speeds h = some (r, h') ∧ MInv h' ∧ FST (fun v => EvM (2 ^ n - 1) v st pl li le) 1 10 r := by
  suffices hw : WP (fX12_speeds h) (fun r h' => MInv h' ∧ FST (fun v => EvM (2 ^ n - 1) v st pl li le) 1 10 r) by
    obtain ⟨r, h', e, q⟩ := hw
    exact ⟨r, h', e, q⟩
  have hn := hs.2.2.2.1
  unfold fX12_speeds
  refine wp_for1 10 (fun v h' => 1 ≤ v ∧ MInv h' ∧ h'.1 10 0 25 = nI (2 ^ n - 1) ∧ (∃ sp', MB h' sp' st n pl li le) ∧ ∀ u, 1 ≤ u → u < v → ¬ EvM (2 ^ n - 1) u st pl li le) ?_ ?_ FU h (i0 := 1) (by omega) (FUb (by decide)) ⟨by omega, hI, e25, ⟨sp, m⟩, fun u h1 h2 => by omega⟩
  · rintro v h2 rec hv ⟨h1v, i2, w2, ⟨sp', m2⟩, hno⟩ hrec
    unfold fX12_speeds_l2
    have mH : MB (wr h2 10 0 23 (nI v)) v st n pl li le := by
      obtain ⟨a1, a2, a3, a4⟩ := m2
      refine ⟨?_, rfl, ?_, a4⟩
      · rw [wr_g, if_neg (by omega)]; exact a1
      · rw [wr_g, if_neg (by omega)]; exact a3
    obtain ⟨r, h3, e3, i3, kf3, m3, w3, hr⟩ := exM (sp := v) ⟨h1v, by omega, hs.2.2⟩ mH (pwl n) (by rw [wr_g, if_neg (by omega)]; exact w2) (i2.w10 (by decide))
    rw [if_neg (show ¬ (10 : Int32) ≤ nI v from fun q => nI_ge hv (by decide) q), lt_eq, e3, bnd_eq]
    rcases hr with ⟨rfl, hE⟩ | ⟨rfl, hE⟩
    · rw [if_neg ne10]
      exact wp_some ⟨i3, Or.inl ⟨v, h1v, hv, rfl, hE, hno⟩⟩
    · rw [if_pos rfl, lt_eq, nI_1]
      refine hrec _ ⟨by omega, i3, w3, ⟨v, m3⟩, fun u h1 h2 => ?_⟩
      by_cases g : u = v
      · rw [g]; exact hE
      · exact hno u h1 (by omega)
  · rintro h2 rec ⟨-, i2, -, -, hno⟩
    unfold fX12_speeds_l2
    rw [if_pos (show (10 : Int32) ≤ nI 10 by decide)]
    exact wp_some ⟨i2, Or.inr ⟨rfl, hno⟩⟩
theorem or_z (x : Int32) : x ||| 0 = x := by
  apply Int32.toBitVec_inj.mp
  show x.toBitVec ||| 0#32 = x.toBitVec
  simp
theorem startM {h : Hp} {sp st n : Nat} {pl li le : Nat → Nat} (hs : SV sp st n pl li le) (m : MB h sp st n pl li le) (hI : MInv h) (e25 : h.1 10 0 25 = nI (2 ^ n - 1)) : ∃ b h', fX12_starts h = some (nI b, h') ∧ MInv h' ∧ BTs (fun x => EvM (2 ^ n - 1) sp x pl li le) 10 b := by
  suffices hw : WP (fX12_starts h) (fun r h' => MInv h' ∧ ∃ b, r = nI b ∧ BTs (fun x => EvM (2 ^ n - 1) sp x pl li le) 10 b) by
    obtain ⟨r, h', e, q, b, rfl, q2⟩ := hw
    exact ⟨b, h', e, q, q2⟩
  have hn := hs.2.2.2.1
  unfold fX12_starts
  refine wp_for2 10 (fun x a h' => MInv h' ∧ h'.1 10 0 25 = nI (2 ^ n - 1) ∧ (∃ st', MB h' sp st' n pl li le) ∧ ∃ b, a = nI b ∧ BTs (fun x => EvM (2 ^ n - 1) sp x pl li le) x b) ?_ ?_ FU 0 h (i0 := 0) (by omega) (FUb (by decide)) ⟨hI, e25, ⟨st, m⟩, 0, rfl, rfl⟩
  · rintro x a h2 rec hx ⟨i2, w2, ⟨st', m2⟩, b, rfl, hb⟩ hrec
    unfold fX12_starts_l4
    have mH : MB (wr h2 10 0 24 (nI x)) sp x n pl li le := by
      obtain ⟨a1, a2, a3, a4⟩ := m2
      refine ⟨?_, ?_, rfl, a4⟩
      · rw [wr_g, if_neg (by omega)]; exact a1
      · rw [wr_g, if_neg (by omega)]; exact a2
    obtain ⟨r, h3, e3, i3, kf3, m3, w3, hr⟩ := exM (st := x) ⟨hs.1, hs.2.1, by omega, hs.2.2.2⟩ mH (pwl n) (by rw [wr_g, if_neg (by omega)]; exact w2) (i2.w10 (by decide))
    rw [if_neg (show ¬ (10 : Int32) ≤ nI x from fun q => nI_ge hx (by decide) q), lt_eq, e3, bnd_eq, jn_eq]
    rcases hr with ⟨rfl, hE⟩ | ⟨rfl, hE⟩
    · rw [if_neg ne10]
      dsimp only
      rw [orB_eq (BTs.lt _ _ hb) (by omega), lt_eq, lt_eq, nI_1]
      exact hrec _ _ ⟨i3, w3, ⟨x, m3⟩, _, rfl, b, hb, Or.inl ⟨hE, rfl⟩⟩
    · rw [if_pos rfl]
      dsimp only
      rw [or_z, lt_eq, lt_eq, nI_1]
      exact hrec _ _ ⟨i3, w3, ⟨x, m3⟩, _, rfl, b, hb, Or.inr ⟨hE, rfl⟩⟩
  · rintro a h2 rec ⟨i2, -, -, b, rfl, hb⟩
    unfold fX12_starts_l4
    rw [if_pos (show (10 : Int32) ≤ nI 10 by decide)]
    exact wp_some ⟨i2, b, rfl, hb⟩
theorem MInv.wa {h : Hp} {k : Nat} {i x : Int32} (hk : k ≠ 58) (hk2 : k ≠ 59) (hk3 : k ≠ 10) (m : MInv h) : MInv (wa h k 0 i x) := m.same ⟨fun _ => by rw [wa_g, if_neg (by omega)], fun _ => by rw [wa_g, if_neg (by omega)], by rw [wa_g, if_neg (by omega)]⟩
theorem MB.set53 {h : Hp} {sp st n p x : Nat} {pl pl' li le : Nat → Nat} (hn : n ≤ 5) (hp : p < n) (m : MB h sp st n pl' li le) (e : ∀ q, q ≠ p → pl' q = pl q) : MB (wa h 53 0 (nI p) (nI x)) sp st n (updN pl p x) li le := by
  obtain ⟨c1, c2, c3, c4⟩ := m
  refine ⟨c1, c2, c3, fun q hq => ⟨?_, (c4 q hq).2.1, (c4 q hq).2.2⟩⟩
  rw [wa_g, nI_clamp (by omega), show 0 % cnt 53 = 0 from rfl]
  unfold updN
  by_cases g : q = p
  · rw [if_pos ⟨rfl, rfl, g⟩, if_pos g]
  · rw [if_neg (fun w => g w.2.2), if_neg g, (c4 q hq).1, e q g]
theorem moveM {h : Hp} {p sp st n : Nat} {pl li le : Nat → Nat} (hp : p < n) (hs : SV sp st n pl li le) (m : MB h sp st n pl li le) (hI : MInv h) (e25 : h.1 10 0 25 = nI (2 ^ n - 1)) : ∃ b h', fX12_movesOf (nI p) h = some (nI b, h') ∧ MInv h' ∧ BTs (fun x => EvM (2 ^ n - 1) sp st (updN pl p x) li le) 10 b := by
  suffices hw : WP (fX12_movesOf (nI p) h) (fun r h' => MInv h' ∧ ∃ b, r = nI b ∧ BTs (fun x => EvM (2 ^ n - 1) sp st (updN pl p x) li le) 10 b) by
    obtain ⟨r, h', e, q, b, rfl, q2⟩ := hw
    exact ⟨b, h', e, q, q2⟩
  have hn := hs.2.2.2.1
  have hib : ib (nI p) 5 = true := ib_nI (by omega) (by decide)
  unfold fX12_movesOf
  refine wp_for2 10 (fun x a h' => MInv h' ∧ h'.1 10 0 25 = nI (2 ^ n - 1) ∧ (∃ pl', MB h' sp st n pl' li le ∧ ∀ q, q ≠ p → pl' q = pl q) ∧ ∃ b, a = nI b ∧ BTs (fun x => EvM (2 ^ n - 1) sp st (updN pl p x) li le) x b) ?_ ?_ FU 0 h (i0 := 0) (by omega) (FUb (by decide)) ⟨hI, e25, ⟨pl, m, fun _ _ => rfl⟩, 0, rfl, rfl⟩
  · rintro x a h2 rec hx ⟨i2, w2, ⟨pl', m2, epl⟩, b, rfl, hb⟩ hrec
    unfold fX12_movesOf_l4
    have mH := m2.set53 (x := x) hn hp epl
    obtain ⟨r, h3, e3, i3, kf3, m3, w3, hr⟩ := exM (hs.move (p := p) (show x ≤ 9 by omega)) mH (pwl n) (by rw [wa_g, if_neg (by omega)]; exact w2) (i2.wa (by decide) (by decide) (by decide))
    have en : ∀ q, q ≠ p → updN pl p x q = pl q := fun q hq => by unfold updN; rw [if_neg hq]
    rw [if_neg (show ¬ (10 : Int32) ≤ nI x from fun q => nI_ge hx (by decide) q), ck_p hib, lt_eq, e3, bnd_eq, jn_eq]
    rcases hr with ⟨rfl, hE⟩ | ⟨rfl, hE⟩
    · rw [if_neg ne10]
      dsimp only
      rw [orB_eq (BTs.lt _ _ hb) (by omega), lt_eq, lt_eq, nI_1]
      exact hrec _ _ ⟨i3, w3, ⟨_, m3, en⟩, _, rfl, b, hb, Or.inl ⟨hE, rfl⟩⟩
    · rw [if_pos rfl]
      dsimp only
      rw [or_z, lt_eq, lt_eq, nI_1]
      exact hrec _ _ ⟨i3, w3, ⟨_, m3, en⟩, _, rfl, b, hb, Or.inr ⟨hE, rfl⟩⟩
  · rintro a h2 rec ⟨i2, -, -, b, rfl, hb⟩
    unfold fX12_movesOf_l4
    rw [if_pos (show (10 : Int32) ≤ nI 10 by decide)]
    exact wp_some ⟨i2, b, rfl, hb⟩
theorem lifeM {h : Hp} {j p sp st n : Nat} {pl li le : Nat → Nat} (hj : j < 2) (hp : p < n) (hs : SV sp st n pl li le) (m : MB h sp st n pl li le) (hI : MInv h) (e25 : h.1 10 0 25 = nI (2 ^ n - 1)) (e21 : h.1 10 0 21 = nI j) (e48 : h.1 48 0 (18 * j + (13 + p)) = nI (le p)) : ∃ r h', fX12_needOf (nI p) h = some (r, h') ∧ MInv h' ∧ FST (fun v => EvM (2 ^ n - 1) sp st pl (updN li p v) (updN le p (min (le p) v))) 1 7 r := by
  suffices hw : WP (fX12_needOf (nI p) h) (fun r h' => MInv h' ∧ FST (fun v => EvM (2 ^ n - 1) sp st pl (updN li p v) (updN le p (min (le p) v))) 1 7 r) by
    obtain ⟨r, h', e, q⟩ := hw
    exact ⟨r, h', e, q⟩
  have hn := hs.2.2.2.1
  have hib : ib (nI p) 5 = true := ib_nI (by omega) (by decide)
  have hle := hs.2.2.2.2 p hp
  unfold fX12_needOf
  refine wp_for1 7 (fun v h' => 1 ≤ v ∧ MTl h' n h ∧ (∃ li' le', MB h' sp st n pl li' le' ∧ (∀ q, q ≠ p → li' q = li q) ∧ ∀ q, q ≠ p → le' q = le q) ∧ ∀ u, 1 ≤ u → u < v → ¬ EvM (2 ^ n - 1) sp st pl (updN li p u) (updN le p (min (le p) u))) ?_ ?_ FU h (i0 := 1) (by omega) (FUb (by decide)) ⟨by omega, ⟨hI, e25, rfl, fun _ => rfl⟩, ⟨li, le, m, fun _ _ => rfl, fun _ _ => rfl⟩, fun u h1 h2 => by omega⟩
  · rintro v h2 rec hv ⟨h1v, mt2, ⟨li', le', m2, eli, ele⟩, hno⟩ hrec
    unfold fX12_needOf_l2
    have t21 : (wa h2 54 0 (nI p) (nI v)).1 10 0 21 = nI j := by rw [wa_g, if_neg (by omega)]; exact mt2.2.2.1.trans e21
    have t48 : (wa h2 54 0 (nI p) (nI v)).1 48 0 (18 * j + (13 + p)) = nI (le p) := by rw [wa_g, if_neg (by omega)]; exact (mt2.2.2.2 _).trans e48
    generalize hH : wa (wa h2 54 0 (nI p) (nI v)) 55 0 (nI p) (nI (min (le p) v)) = H
    have mtH : MTl H n h := by
      rw [← hH]
      refine ⟨(mt2.1.wa (by decide) (by decide) (by decide)).wa (by decide) (by decide) (by decide), ?_, ?_, fun i => ?_⟩
      · rw [wa_g, if_neg (by omega), wa_g, if_neg (by omega)]; exact mt2.2.1
      · rw [wa_g, if_neg (by omega), wa_g, if_neg (by omega)]; exact mt2.2.2.1
      · rw [wa_g, if_neg (by omega), wa_g, if_neg (by omega)]; exact mt2.2.2.2 i
    have mH : MB H sp st n pl (updN li p v) (updN le p (min (le p) v)) := by
      obtain ⟨a1, a2, a3, a4⟩ := m2
      rw [← hH]
      refine ⟨a1, a2, a3, fun q hq => ⟨(a4 q hq).1, ?_, ?_⟩⟩
      · rw [wa_g, if_neg (by omega), wa_g, nI_clamp (by omega), show 0 % cnt 54 = 0 from rfl]
        unfold updN
        by_cases g : q = p
        · rw [if_pos ⟨rfl, rfl, g⟩, if_pos g]
        · rw [if_neg (fun w => g w.2.2), if_neg g, (a4 q hq).2.1, eli q g]
      · rw [wa_g, nI_clamp (by omega), show 0 % cnt 55 = 0 from rfl]
        unfold updN
        by_cases g : q = p
        · rw [if_pos ⟨rfl, rfl, g⟩, if_pos g]
        · rw [if_neg (fun w => g w.2.2), if_neg g, wa_g, if_neg (by omega), (a4 q hq).2.2, ele q g]
    obtain ⟨r, h3, e3, i3, kf3, m3, w3, hr⟩ := exM (hs.live (p := p) h1v (show v ≤ 6 by omega)) mH (pwl n) mtH.2.1 mtH.1
    rw [if_neg (show ¬ (6 : Int32) < nI v from fun q => by have := (lt_n (a := 6) (by decide) (by omega)).mp q; omega), ck_p hib, lt_eq, show (13 : Int32) + nI p = nI (13 + p) from nI_add 13 p, of_eq t21 (by omega), t48, bnd_eq, lesser_eqN (by omega) (by omega), bnd_eq, ck_p hib, lt_eq, hH, e3, bnd_eq]
    rcases hr with ⟨rfl, hE⟩ | ⟨rfl, hE⟩
    · rw [if_neg ne10]
      exact wp_some ⟨i3, Or.inl ⟨v, h1v, hv, rfl, hE, hno⟩⟩
    · rw [if_pos rfl, lt_eq, nI_1]
      refine hrec _ ⟨by omega, kf3.mt i3 mtH, ⟨_, _, m3, fun q hq => by unfold updN; rw [if_neg hq], fun q hq => by unfold updN; rw [if_neg hq]⟩, fun u h1 h2 => ?_⟩
      by_cases g : u = v
      · rw [g]; exact hE
      · exact hno u h1 (by omega)
  · rintro h2 rec ⟨-, mt2, -, hno⟩
    unfold fX12_needOf_l2
    rw [if_pos (show (6 : Int32) < nI 7 by decide)]
    exact wp_some ⟨mt2.1, Or.inr ⟨rfl, hno⟩⟩
theorem MB.w25 {h : Hp} {sp st n : Nat} {pl li le : Nat → Nat} {x : Int32} (m : MB h sp st n pl li le) : MB (wr h 10 0 25 x) sp st n pl li le := by
  obtain ⟨a1, a2, a3, a4⟩ := m
  refine ⟨?_, ?_, ?_, a4⟩
  · rw [wr_g, if_neg (by omega)]; exact a1
  · rw [wr_g, if_neg (by omega)]; exact a2
  · rw [wr_g, if_neg (by omega)]; exact a3
theorem spareM {h : Hp} {sp st n : Nat} {pl li le : Nat → Nat} (hs : SV sp st n pl li le) (m : MB h sp st n pl li le) (hI : MInv h) : ∃ b h', fX12_spare h = some (nI b, h') ∧ MInv h' ∧ BTs (fun p => EvM (2 ^ n - 1 - 2 ^ p) sp st pl li le) n b := by
  suffices hw : WP (fX12_spare h) (fun r h' => MInv h' ∧ ∃ b, r = nI b ∧ BTs (fun p => EvM (2 ^ n - 1 - 2 ^ p) sp st pl li le) n b) by
    obtain ⟨r, h', e, q, b, rfl, q2⟩ := hw
    exact ⟨b, h', e, q, q2⟩
  have hn := hs.2.2.2.1
  unfold fX12_spare
  refine wp_for2 n (fun x a h' => MInv h' ∧ MB h' sp st n pl li le ∧ ∃ b, a = nI b ∧ BTs (fun p => EvM (2 ^ n - 1 - 2 ^ p) sp st pl li le) x b) ?_ ?_ FU 0 h (i0 := 0) (by omega) (FUb (by omega)) ⟨hI, m, 0, rfl, rfl⟩
  · rintro x a h2 rec hx ⟨i2, m2, b, rfl, hb⟩ hrec
    unfold fX12_spare_l4
    have r22 : rd h2 10 0 22 = nI n := m2.1
    obtain ⟨r, h3, e3, i3, kf3, m3, w3, hr⟩ := exM hs (m2.w25 (x := nI (2 ^ n - 1 - 2 ^ x))) (msk2 n hn x hx).1 rfl (i2.w10 (by decide))
    rw [r22, if_neg (fun q => nI_ge hx (by omega) q), shl_some n hn, msk1 n hn x hx, lt_eq, e3, bnd_eq, jn_eq]
    rcases hr with ⟨rfl, hE⟩ | ⟨rfl, hE⟩
    · rw [if_neg ne10]
      dsimp only
      rw [orB_eq (BTs.lt _ _ hb) (by omega), lt_eq, lt_eq, nI_1]
      exact hrec _ _ ⟨i3, m3, _, rfl, b, hb, Or.inl ⟨hE, rfl⟩⟩
    · rw [if_pos rfl]
      dsimp only
      rw [or_z, lt_eq, lt_eq, nI_1]
      exact hrec _ _ ⟨i3, m3, _, rfl, b, hb, Or.inr ⟨hE, rfl⟩⟩
  · rintro a h2 rec ⟨i2, m2, b, rfl, hb⟩
    unfold fX12_spare_l4
    have r22 : rd h2 10 0 22 = nI n := m2.1
    rw [r22, if_pos (nI_le (Nat.le_refl _) (by omega))]
    exact wp_some ⟨i2, b, rfl, hb⟩
theorem aloneM {h : Hp} {sp st n : Nat} {pl li le : Nat → Nat} (hs : SV sp st n pl li le) (m : MB h sp st n pl li le) (hI : MInv h) : ∃ b h', fX12_aloneOf h = some (nI b, h') ∧ MInv h' ∧ BTs (fun p => EvM (2 ^ p) sp st pl li le) n b := by
  suffices hw : WP (fX12_aloneOf h) (fun r h' => MInv h' ∧ ∃ b, r = nI b ∧ BTs (fun p => EvM (2 ^ p) sp st pl li le) n b) by
    obtain ⟨r, h', e, q, b, rfl, q2⟩ := hw
    exact ⟨b, h', e, q, q2⟩
  have hn := hs.2.2.2.1
  unfold fX12_aloneOf
  refine wp_for2 n (fun x a h' => MInv h' ∧ MB h' sp st n pl li le ∧ ∃ b, a = nI b ∧ BTs (fun p => EvM (2 ^ p) sp st pl li le) x b) ?_ ?_ FU 0 h (i0 := 0) (by omega) (FUb (by omega)) ⟨hI, m, 0, rfl, rfl⟩
  · rintro x a h2 rec hx ⟨i2, m2, b, rfl, hb⟩ hrec
    unfold fX12_aloneOf_l4
    have r22 : rd h2 10 0 22 = nI n := m2.1
    obtain ⟨r, h3, e3, i3, kf3, m3, w3, hr⟩ := exM hs (m2.w25 (x := nI (2 ^ x))) (msk2 n hn x hx).2 rfl (i2.w10 (by decide))
    have es := shl1 (p := x) (by omega)
    rw [r22, if_neg (fun q => nI_ge hx (by omega) q), es, lt_eq, e3, bnd_eq, jn_eq]
    rcases hr with ⟨rfl, hE⟩ | ⟨rfl, hE⟩
    · rw [if_neg ne10]
      dsimp only
      rw [← es, orB_eq (BTs.lt _ _ hb) (by omega), lt_eq, lt_eq, nI_1]
      exact hrec _ _ ⟨i3, m3, _, rfl, b, hb, Or.inl ⟨hE, rfl⟩⟩
    · rw [if_pos rfl]
      dsimp only
      rw [or_z, lt_eq, lt_eq, nI_1]
      exact hrec _ _ ⟨i3, m3, _, rfl, b, hb, Or.inr ⟨hE, rfl⟩⟩
  · rintro a h2 rec ⟨i2, m2, b, rfl, hb⟩
    unfold fX12_aloneOf_l4
    have r22 : rd h2 10 0 22 = nI n := m2.1
    rw [r22, if_pos (nI_le (Nat.le_refl _) (by omega))]
    exact wp_some ⟨i2, b, rfl, hb⟩
