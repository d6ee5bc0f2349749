/-! more rows of trials: the class -/
theorem CSt.set33 {h : Hp} {sp st n p x : Nat} {pl pl' li le : Nat → Nat} (hn : n ≤ 5) (hp : p < n) (c : CSt h 11 sp st n pl' li le) (e : ∀ q, q ≠ p → pl' q = pl q) : CSt (wa h 33 11 (nI p) (nI x)) 11 sp st n (updN pl p x) li le := by
  obtain ⟨c1, c2, c3, c4⟩ := c
  refine ⟨c1, c2, c3, fun q hq => ⟨?_, (c4 q hq).2.1, (c4 q hq).2.2⟩⟩
  rw [wa_g, nI_clamp (by omega), show 11 % cnt 33 = 11 from rfl]
  unfold updN
  by_cases g : q = p
  · rw [if_pos ⟨rfl, rfl, g⟩, if_pos g]
  · rw [if_neg (fun w => g w.2.2), if_neg g, (c4 q hq).1, e q g]
theorem w33_t11 (h : Hp) (i x : Int32) : T11 h (wa h 33 11 i x) := fun k s q u => by
  rw [wa_g, show 11 % cnt 33 = 11 from rfl, if_neg (by omega)]
theorem w34_t11 (h : Hp) (i x : Int32) : T11 h (wa h 34 11 i x) := fun k s q u => by
  rw [wa_g, show 11 % cnt 34 = 11 from rfl, if_neg (by omega)]
theorem w35_t11 (h : Hp) (i x : Int32) : T11 h (wa h 35 11 i x) := fun k s q u => by
  rw [wa_g, show 11 % cnt 35 = 11 from rfl, if_neg (by omega)]
theorem SV.move {sp st n p x : Nat} {pl li le : Nat → Nat} (hs : SV sp st n pl li le) (hx : x ≤ 9) : SV sp st n (updN pl p x) li le := by
  refine ⟨hs.1, hs.2.1, hs.2.2.1, hs.2.2.2.1, fun q hq => ⟨?_, (hs.2.2.2.2 q hq).2⟩⟩
  unfold updN
  split
  · exact hx
  · exact (hs.2.2.2.2 q hq).1
theorem SV.live {sp st n p v : Nat} {pl li le : Nat → Nat} (hs : SV sp st n pl li le) (h1 : 1 ≤ v) (h6 : v ≤ 6) : SV sp st n pl (updN li p v) (updN le p (min (le p) v)) := by
  refine ⟨hs.1, hs.2.1, hs.2.2.1, hs.2.2.2.1, fun q hq => ?_⟩
  have a := hs.2.2.2.2 q hq
  unfold updN
  by_cases g : q = p
  · subst g
    rw [if_pos rfl, if_pos rfl]
    omega
  · rw [if_neg g, if_neg g]; exact a
theorem moveC {h : Hp} {j p sp st n : Nat} {pl li le : Nat → Nat} (hj : j < 10) (hp : p < n) (hs : SV sp st n pl li le) (c : CSt h j sp st n pl li le) (hk : KIv h) : ∃ b h', fX10_movePlaces j (nI p) h = some (nI b, h') ∧ KIv h' ∧ BTs (fun x => EvM (2 ^ n - 1) sp st (updN pl p x) li le) 10 b := by
  suffices hw : WP (fX10_movePlaces j (nI p) h) (fun r h' => KIv h' ∧ ∃ b, r = nI b ∧ BTs (fun x => EvM (2 ^ n - 1) sp st (updN pl p x) li le) 10 b) by
    obtain ⟨r, h', e, q, b, rfl, q2⟩ := hw
    exact ⟨b, h', e, q, q2⟩
  have hn := hs.2.2.2.1
  obtain ⟨h1, e1, c1, k1, -⟩ := copy11 hj hn c hk
  have hib : ib (nI p) 5 = true := ib_nI (by omega) (by decide)
  unfold fX10_movePlaces
  rw [has8_eq (by omega) c.2.2.1, bnd_eq, if_neg (in_no hp (by omega)), if_neg ne10, e1, bnd_eq]
  refine wp_for2 10 (fun x a h' => KIv h' ∧ (∃ pl', CSt h' 11 sp st n pl' li le ∧ ∀ q, q ≠ p → pl' q = pl q) ∧ ∃ b, a = nI b ∧ BTs (fun x => EvM (2 ^ n - 1) sp st (updN pl p x) li le) x b) ?_ ?_ FU 0 h1 (i0 := 0) (by omega) (FUb (by decide)) ⟨k1, ⟨pl, c1, fun _ _ => rfl⟩, 0, rfl, rfl⟩
  · rintro x a h2 rec hx ⟨k2, ⟨pl', c2, epl⟩, b, rfl, hb⟩ hrec
    unfold fX10_movePlaces_l23
    have c2' := c2.set33 (x := x) hn hp epl
    obtain ⟨r, h3, e3, k3, ky3, hr⟩ := exC (a := 11) (h := wa h2 33 11 (nI p) (nI x)) (hs.move (p := p) (show x ≤ 9 by omega)) (by decide) (by decide) c2' (k2.t11 (w33_t11 h2 _ _))
    have c3 := c2'.ky ky3 (by decide)
    have en : ∀ q, q ≠ p → updN pl p x q = pl q := fun q hq => by unfold updN; rw [if_neg hq]
    rw [if_neg (show ¬ (10 : Int32) ≤ nI x from fun q => nI_ge hx (by decide) q), ck_p hib, lt_eq, e3, bnd_eq, jn_eq]
    rcases hr with ⟨rfl, hE⟩ | ⟨rfl, hE⟩
    · rw [if_neg ne10, orB_eq (BTs.lt _ _ hb) (by omega), lt_eq]
      dsimp only
      rw [lt_eq, nI_1]
      exact hrec _ _ ⟨k3, ⟨_, c3, en⟩, _, rfl, b, hb, Or.inl ⟨hE, rfl⟩⟩
    · rw [if_pos rfl]
      dsimp only
      rw [lt_eq, nI_1]
      exact hrec _ _ ⟨k3, ⟨_, c3, en⟩, _, rfl, b, hb, Or.inr ⟨hE, rfl⟩⟩
  · rintro a h2 rec ⟨k2, -, b, rfl, hb⟩
    unfold fX10_movePlaces_l23
    rw [if_pos (show (10 : Int32) ≤ nI 10 by decide)]
    exact wp_some ⟨k2, b, rfl, hb⟩
theorem lifeC {h : Hp} {j p sp st n : Nat} {pl li le : Nat → Nat} (hj : j < 10) (hp : p < n) (hs : SV sp st n pl li le) (c : CSt h j sp st n pl li le) (hk : KIv h) : ∃ r h', fX10_leastLife j (nI p) h = some (r, h') ∧ KIv h' ∧ FST (fun v => EvM (2 ^ n - 1) sp st pl (updN li p v) (updN le p (min (le p) v))) 1 7 r := by
  suffices hw : WP (fX10_leastLife j (nI p) h) (fun r h' => KIv h' ∧ FST (fun v => EvM (2 ^ n - 1) sp st pl (updN li p v) (updN le p (min (le p) v))) 1 7 r) by
    obtain ⟨r, h', e, q⟩ := hw
    exact ⟨r, h', e, q⟩
  have hn := hs.2.2.2.1
  obtain ⟨h1, e1, c1, k1, z1⟩ := copy11 hj hn c hk
  have hib : ib (nI p) 5 = true := ib_nI (by omega) (by decide)
  unfold fX10_leastLife
  rw [has8_eq (by omega) c.2.2.1, bnd_eq, if_neg (in_no hp (by omega)), if_neg ne10, e1, bnd_eq]
  refine wp_for1 7 (fun v h' => 1 ≤ v ∧ KIv h' ∧ KZ h h' ∧ (∃ li' le', CSt h' 11 sp st n pl li' le' ∧ (∀ q, q ≠ p → li' q = li q) ∧ ∀ q, q ≠ p → le' q = le q) ∧ ∀ u, 1 ≤ u → u < v → ¬ EvM (2 ^ n - 1) sp st pl (updN li p u) (updN le p (min (le p) u))) ?_ ?_ FU h1 (i0 := 1) (by omega) (FUb (by decide)) ⟨by omega, k1, z1, ⟨li, le, c1, fun _ _ => rfl, fun _ _ => rfl⟩, fun u h1 h2 => by omega⟩
  · rintro v h2 rec hv ⟨h1v, k2, z2, ⟨li', le', c2, eli, ele⟩, hno⟩ hrec
    unfold fX10_leastLife_l20
    have cj := c.kz z2 hj
    have hle := hs.2.2.2.2 p hp
    have r35 : ra (wa h2 34 11 (nI p) (nI v)) 35 j (nI p) = nI (le p) := by
      rw [ra_n (by omega), mj12 (by omega) rfl, wa_g, if_neg (by omega)]
      exact (cj.2.2.2 p hp).2.2
    generalize hH : wa (wa h2 34 11 (nI p) (nI v)) 35 11 (nI p) (nI (min (le p) v)) = H
    have tH : T11 h2 H := by rw [← hH]; exact (w34_t11 h2 _ _).trans (w35_t11 _ _ _)
    have cH : CSt H 11 sp st n pl (updN li p v) (updN le p (min (le p) v)) := by
      obtain ⟨a1, a2, a3, a4⟩ := c2
      rw [← hH]
      refine ⟨a1, a2, a3, fun q hq => ⟨(a4 q hq).1, ?_, ?_⟩⟩
      · rw [wa_g, if_neg (by omega), wa_g, nI_clamp (by omega), show 11 % cnt 34 = 11 from rfl]
        unfold updN
        by_cases g : q = p
        · rw [if_pos ⟨rfl, rfl, g⟩, if_pos g]
        · rw [if_neg (fun w => g w.2.2), if_neg g, (a4 q hq).2.1, eli q g]
      · rw [wa_g, nI_clamp (by omega), show 11 % cnt 35 = 11 from rfl]
        unfold updN
        by_cases g : q = p
        · rw [if_pos ⟨rfl, rfl, g⟩, if_pos g]
        · rw [if_neg (fun w => g w.2.2), if_neg g, wa_g, if_neg (by omega), (a4 q hq).2.2, ele q g]
    obtain ⟨r, h3, e3, k3, ky3, hr⟩ := exC (a := 11) (h := H) (hs.live (p := p) h1v (show v ≤ 6 by omega)) (by decide) (by decide) cH (k2.t11 tH)
    rw [if_neg (show ¬ (6 : Int32) < nI v from fun q => by have := (lt_n (a := 6) (by decide) (by omega)).mp q; omega), ck_p hib, lt_eq, ck_p hib, r35, minI (by omega) (by omega), lt_eq, ck_p hib, lt_eq, hH, e3, bnd_eq]
    rcases hr with ⟨rfl, hE⟩ | ⟨rfl, hE⟩
    · rw [if_neg ne10]
      exact wp_some ⟨k3, Or.inl ⟨v, h1v, hv, rfl, hE, hno⟩⟩
    · rw [if_pos rfl, lt_eq, nI_1]
      refine hrec _ ⟨by omega, k3, (z2.trans tH.kz).trans ky3.kz, ⟨_, _, cH.ky ky3 (by decide), fun q hq => by unfold updN; rw [if_neg hq], fun q hq => by unfold updN; rw [if_neg hq]⟩, fun u h1 h2 => ?_⟩
      by_cases g : u = v
      · rw [g]; exact hE
      · exact hno u h1 (by omega)
  · rintro h2 rec ⟨-, k2, -, -, hno⟩
    unfold fX10_leastLife_l20
    rw [if_pos (show (6 : Int32) < nI 7 by decide)]
    exact wp_some ⟨k2, Or.inr ⟨rfl, hno⟩⟩
theorem msk1 : ∀ n, n ≤ 5 → ∀ p, p < n → nI (2 ^ n - 1) &&& (((1 : Int32) <<< (nI p &&& 31)) ^^^ (-1 : Int32)) = nI (2 ^ n - 1 - 2 ^ p) := by decide +kernel
theorem msk2 : ∀ n, n ≤ 5 → ∀ p, p < n → 2 ^ n - 1 - 2 ^ p < 2 ^ n ∧ 2 ^ p < 2 ^ n := by decide +kernel
theorem shl1 {p : Nat} (hp : p ≤ 24) : (1 : Int32) <<< (nI p &&& 31) = nI (2 ^ p) := by
  rw [show (1 : Int32) = nI 1 from rfl, nI_shl hp, Nat.one_mul]
theorem spareC {h : Hp} {j sp st n : Nat} {pl li le : Nat → Nat} (hj : j < 10) (hs : SV sp st n pl li le) (c : CSt h j sp st n pl li le) (hk : KIv h) : ∃ b h', fX10_sparePlates j h = some (nI b, h') ∧ KIv h' ∧ BTs (fun p => EvM (2 ^ n - 1 - 2 ^ p) sp st pl li le) n b := by
  suffices hw : WP (fX10_sparePlates j h) (fun r h' => KIv h' ∧ ∃ b, r = nI b ∧ BTs (fun p => EvM (2 ^ n - 1 - 2 ^ p) sp st pl li le) n b) by
    obtain ⟨r, h', e, q, b, rfl, q2⟩ := hw
    exact ⟨b, h', e, q, q2⟩
  have hn := hs.2.2.2.1
  have r2 : ∀ h', KZ h h' → rd h' 6 j 2 = nI n := fun h' z => by show h'.1 6 (j % cnt 6) 2 = _; rw [mj12 (by omega) rfl]; exact (c.kz z hj).2.2.1
  unfold fX10_sparePlates
  rw [r2 h (fun _ _ _ _ _ _ => rfl), shl_some n hn, lt_eq]
  refine wp_for2 n (fun x a h' => KIv h' ∧ KZ h h' ∧ ∃ b, a = nI b ∧ BTs (fun p => EvM (2 ^ n - 1 - 2 ^ p) sp st pl li le) x b) ?_ ?_ FU 0 h (i0 := 0) (by omega) (FUb (by omega)) ⟨hk, fun _ _ _ _ _ _ => rfl, 0, rfl, rfl⟩
  · rintro x a h2 rec hx ⟨k2, z2, b, rfl, hb⟩ hrec
    unfold fX10_sparePlates_l14
    obtain ⟨r, h3, e3, k3, kz3, hr⟩ := areKept_wp hj hs (msk2 n hn x hx).1 (c.kz z2 hj) k2
    rw [r2 h2 z2, if_neg (fun q => nI_ge hx (by omega) q), msk1 n hn x hx, e3, bnd_eq, jn_eq]
    rcases hr with ⟨rfl, hE⟩ | ⟨rfl, hE⟩
    · rw [if_neg ne10, orB_eq (BTs.lt _ _ hb) (by omega), lt_eq]
      dsimp only
      rw [lt_eq, nI_1]
      exact hrec _ _ ⟨k3, z2.trans kz3, _, rfl, b, hb, Or.inl ⟨hE, rfl⟩⟩
    · rw [if_pos rfl]
      dsimp only
      rw [lt_eq, nI_1]
      exact hrec _ _ ⟨k3, z2.trans kz3, _, rfl, b, hb, Or.inr ⟨hE, rfl⟩⟩
  · rintro a h2 rec ⟨k2, z2, b, rfl, hb⟩
    unfold fX10_sparePlates_l14
    rw [r2 h2 z2, if_pos (nI_le (Nat.le_refl _) (by omega))]
    exact wp_some ⟨k2, b, rfl, hb⟩
theorem aloneC {h : Hp} {j sp st n : Nat} {pl li le : Nat → Nat} (hj : j < 10) (hs : SV sp st n pl li le) (c : CSt h j sp st n pl li le) (hk : KIv h) : ∃ b h', fX10_alonePlates j h = some (nI b, h') ∧ KIv h' ∧ BTs (fun p => EvM (2 ^ p) sp st pl li le) n b := by
  suffices hw : WP (fX10_alonePlates j h) (fun r h' => KIv h' ∧ ∃ b, r = nI b ∧ BTs (fun p => EvM (2 ^ p) sp st pl li le) n b) by
    obtain ⟨r, h', e, q, b, rfl, q2⟩ := hw
    exact ⟨b, h', e, q, q2⟩
  have hn := hs.2.2.2.1
  have r2 : ∀ h', KZ h h' → rd h' 6 j 2 = nI n := fun h' z => by show h'.1 6 (j % cnt 6) 2 = _; rw [mj12 (by omega) rfl]; exact (c.kz z hj).2.2.1
  unfold fX10_alonePlates
  refine wp_for2 n (fun x a h' => KIv h' ∧ KZ h h' ∧ ∃ b, a = nI b ∧ BTs (fun p => EvM (2 ^ p) sp st pl li le) x b) ?_ ?_ FU 0 h (i0 := 0) (by omega) (FUb (by omega)) ⟨hk, fun _ _ _ _ _ _ => rfl, 0, rfl, rfl⟩
  · rintro x a h2 rec hx ⟨k2, z2, b, rfl, hb⟩ hrec
    unfold fX10_alonePlates_l4
    obtain ⟨r, h3, e3, k3, kz3, hr⟩ := areKept_wp hj hs (msk2 n hn x hx).2 (c.kz z2 hj) k2
    rw [r2 h2 z2, if_neg (fun q => nI_ge hx (by omega) q), orB_eq (BTs.lt _ _ hb) (by omega), shl1 (by omega), e3, bnd_eq, jn_eq]
    rcases hr with ⟨rfl, hE⟩ | ⟨rfl, hE⟩
    · rw [if_neg ne10, lt_eq]
      dsimp only
      rw [lt_eq, nI_1]
      exact hrec _ _ ⟨k3, z2.trans kz3, _, rfl, b, hb, Or.inl ⟨hE, rfl⟩⟩
    · rw [if_pos rfl]
      dsimp only
      rw [lt_eq, nI_1]
      exact hrec _ _ ⟨k3, z2.trans kz3, _, rfl, b, hb, Or.inr ⟨hE, rfl⟩⟩
  · rintro a h2 rec ⟨k2, z2, b, rfl, hb⟩
    unfold fX10_alonePlates_l4
    rw [r2 h2 z2, if_pos (nI_le (Nat.le_refl _) (by omega))]
    exact wp_some ⟨k2, b, rfl, hb⟩
