/-! the class tries some of the plates -/
theorem add11_eq {h : Hp} {c : Nat} {x y z : Int32} (hc5 : c < 5) (h2 : h.1 6 11 2 = nI c) : ∃ h', fX8_add 11 x y z h = some ((), h') ∧ (∀ k s j, ¬ (s = 11 ∧ ((k = 6 ∧ j = 2) ∨ ((k = 33 ∨ k = 34 ∨ k = 35) ∧ j = c))) → h'.1 k s j = h.1 k s j) ∧ h'.1 6 11 2 = nI (c + 1) ∧ h'.1 33 11 c = x ∧ h'.1 34 11 c = y ∧ h'.1 35 11 c = z := by
  unfold fX8_add
  have e2 : rd h 6 11 2 = nI c := h2
  have e21 : ∀ v w, rd (wa h 33 11 v w) 6 11 2 = nI c := fun v w => h2
  have e22 : ∀ v w v' w', rd (wa (wa h 33 11 v w) 34 11 v' w') 6 11 2 = nI c := fun v w v' w' => h2
  have e23 : ∀ v w v' w' v2 w2, rd (wa (wa (wa h 33 11 v w) 34 11 v' w') 35 11 v2 w2) 6 11 2 = nI c := fun v w v' w' v2 w2 => h2
  rw [e2, if_pos (show nI c < 5 from nI_lt hc5 (by decide)), ck_p (ib_nI hc5 (by decide)), lt_eq, e21, ck_p (ib_nI hc5 (by decide)), lt_eq, e22, ck_p (ib_nI hc5 (by decide)), lt_eq, lt_eq, e23, nI_1]
  refine ⟨_, rfl, fun k s j hk => ?_, ?_, ?_, ?_, ?_⟩
  · have c6 : 11 % cnt 6 = 11 := rfl
    have c33 : 11 % cnt 33 = 11 := rfl
    have c34 : 11 % cnt 34 = 11 := rfl
    have c35 : 11 % cnt 35 = 11 := rfl
    rw [wr_g, c6, if_neg (by omega), wa_g, c35, nI_clamp (by omega), if_neg (by omega), wa_g, c34, nI_clamp (by omega), if_neg (by omega), wa_g, c33, nI_clamp (by omega), if_neg (by omega)]
  · rw [wr_g, if_pos ⟨rfl, rfl, rfl⟩]
  · rw [wr_g, if_neg (by omega), wa_g, if_neg (by omega), wa_g, if_neg (by omega), wa_g, nI_clamp (by omega), if_pos ⟨rfl, rfl, rfl⟩]
  · rw [wr_g, if_neg (by omega), wa_g, if_neg (by omega), wa_g, nI_clamp (by omega), if_pos ⟨rfl, rfl, rfl⟩]
  · rw [wr_g, if_neg (by omega), wa_g, nI_clamp (by omega), if_pos ⟨rfl, rfl, rfl⟩]
theorem bit0 : ∀ v, v < 32 → ∀ i, i < 5 → ((((nI v >>> (nI i &&& 31)) &&& (1 : Int32)) = 0) ↔ v.testBit i = false) := by decide +kernel
def T11 (h h' : Hp) : Prop := ∀ k s i, ¬ ((k = 6 ∨ k = 33 ∨ k = 34 ∨ k = 35) ∧ s = 11) → h'.1 k s i = h.1 k s i
theorem T11.trans {h h1 h2 : Hp} (a : T11 h h1) (b : T11 h1 h2) : T11 h h2 := fun k s i u => (b k s i u).trans (a k s i u)
theorem T11.kz {h h' : Hp} (a : T11 h h') : KZ h h' := fun k s i _ _ u => a k s i (by omega)
theorem CSt.t11 {h h' : Hp} {j sp st n : Nat} {pl li le : Nat → Nat} (k : T11 h h') (hj : j < 10) (c : CSt h j sp st n pl li le) : CSt h' j sp st n pl li le := c.cp (fun q i hq => k q j i (by omega))
theorem copySome_wp {h : Hp} {j v sp st n : Nat} {pl li le : Nat → Nat} (hj : j < 10) (hs : SV sp st n pl li le) (hv : v < 2 ^ n) (c : CSt h j sp st n pl li le) : ∃ h' m ix, fX8_copySome 11 j (nI v) h = some ((), h') ∧ IX v n m ix ∧ CSt h' 11 sp st m (fun k => pl (ix k)) (fun k => li (ix k)) (fun k => le (ix k)) ∧ T11 h h' := by
  suffices hw : WP (fX8_copySome 11 j (nI v) h) (fun _ h' => ∃ m ix, IX v n m ix ∧ CSt h' 11 sp st m (fun k => pl (ix k)) (fun k => li (ix k)) (fun k => le (ix k)) ∧ T11 h h') by
    obtain ⟨u, h', e, m, ix, q⟩ := hw
    exact ⟨h', m, ix, e, q⟩
  have hn := hs.2.2.2.1
  have h32 : v < 32 := Nat.lt_of_lt_of_le hv (Nat.pow_le_pow_right (show 0 < 2 by decide) hn)
  have mj : ∀ k, cnt k = 12 → j % cnt k = j := fun k hk => mj12 (by omega) hk
  unfold fX8_copySome
  have r0 : rd h 6 j 0 = nI sp := by show h.1 6 (j % cnt 6) 0 = _; rw [mj 6 rfl]; exact c.1
  rw [r0, lt_eq]
  have r1 : rd (wr h 6 11 0 (nI sp)) 6 j 1 = nI st := by
    show (wr h 6 11 0 (nI sp)).1 6 (j % cnt 6) 1 = _
    rw [mj 6 rfl, wr_g, if_neg (by omega)]; exact c.2.1
  rw [r1, lt_eq, lt_eq]
  generalize hH : wr (wr (wr h 6 11 0 (nI sp)) 6 11 1 (nI st)) 6 11 2 0 = H
  have t0 : T11 h H := fun k s i u => by
    have c6 : 11 % cnt 6 = 11 := rfl
    rw [← hH, wr_g, c6, if_neg (by omega), wr_g, c6, if_neg (by omega), wr_g, c6, if_neg (by omega)]
  have c0 : CSt H 11 sp st 0 (fun k => pl 0) (fun k => li 0) (fun k => le 0) := by
    rw [← hH]
    exact ⟨rfl, rfl, rfl, fun p hp => absurd hp (Nat.not_lt_zero _)⟩
  refine wp_for1 n (fun i h' => ∃ m ix, IX v i m ix ∧ CSt h' 11 sp st m (fun k => pl (ix k)) (fun k => li (ix k)) (fun k => le (ix k)) ∧ T11 h h') ?_ ?_ FU H (i0 := 0) (by omega) (FUb (by omega)) ⟨0, fun _ => 0, ⟨fun k hk => absurd hk (Nat.not_lt_zero _), fun k k' hk => absurd hk (Nat.not_lt_zero _), fun p hp => absurd hp (Nat.not_lt_zero _)⟩, c0, t0⟩
  · rintro i h1 rec hi ⟨m, ix, I, c1, t1⟩ hrec
    unfold fX8_copySome_l23
    have hm := I.len
    have hib : ib (nI i) 5 = true := ib_nI (by omega) (by decide)
    have cj := c.t11 t1 hj
    have r2 : rd h1 6 j 2 = nI n := by show h1.1 6 (j % cnt 6) 2 = _; rw [mj 6 rfl]; exact cj.2.2.1
    obtain ⟨x1, x2, x3⟩ := cj.2.2.2 i hi
    have r33 : ra h1 33 j (nI i) = nI (pl i) := by rw [ra_n (by omega), mj 33 rfl]; exact x1
    have r34 : ra h1 34 j (nI i) = nI (li i) := by rw [ra_n (by omega), mj 34 rfl]; exact x2
    have r35 : ra h1 35 j (nI i) = nI (le i) := by rw [ra_n (by omega), mj 35 rfl]; exact x3
    rw [r2, if_neg (fun q => nI_ge hi (by omega) q), jn_eq]
    cases hb : v.testBit i with
    | false =>
      rw [if_pos ((bit0 v h32 i (by omega)).mpr hb)]
      dsimp only
      rw [lt_eq, nI_1]
      refine hrec _ ⟨m, ix, ⟨fun k hk => ⟨by have := (I.1 k hk).1; omega, (I.1 k hk).2⟩, I.2.1, fun p hp hbp => ?_⟩, c1, t1⟩
      by_cases g : p = i
      · rw [g, hb] at hbp; cases hbp
      · exact I.2.2 p (by omega) hbp
    | true =>
      obtain ⟨h2, e2, o2, w1, w2, w3, w4⟩ := add11_eq (h := h1) (c := m) (x := nI (pl i)) (y := nI (li i)) (z := nI (le i)) (by omega) c1.2.2.1
      rw [if_neg (fun q => by rw [(bit0 v h32 i (by omega)).mp q] at hb; cases hb), ck_p hib, ck_p hib, ck_p hib, r33, r34, r35, e2, bnd_eq]
      dsimp only
      rw [lt_eq, nI_1]
      refine hrec _ ⟨m + 1, exU ix m i, ⟨fun k hk => ?_, fun k k' hk hk' e => ?_, fun p hp hbp => ?_⟩, ⟨?_, ?_, w1, fun p hp => ?_⟩, t1.trans (fun k s q u => o2 k s q (by omega))⟩
      · by_cases g : k = m
        · rw [exU_p g]; exact ⟨by omega, hb⟩
        · rw [exU_n g]
          have := I.1 k (by omega)
          exact ⟨by omega, this.2⟩
      · by_cases g : k = m
        · by_cases g' : k' = m
          · omega
          · rw [exU_p g, exU_n g'] at e
            have := (I.1 k' (by omega)).1
            omega
        · by_cases g' : k' = m
          · rw [exU_n g, exU_p g'] at e
            have := (I.1 k (by omega)).1
            omega
          · rw [exU_n g, exU_n g'] at e
            exact I.2.1 k k' (by omega) (by omega) e
      · by_cases g : p = i
        · exact ⟨m, by omega, by rw [exU_p rfl, g]⟩
        · obtain ⟨k, hk, ek⟩ := I.2.2 p (by omega) hbp
          exact ⟨k, by omega, by rw [exU_n (by omega)]; exact ek⟩
      · rw [o2 6 11 0 (by omega)]; exact c1.1
      · rw [o2 6 11 1 (by omega)]; exact c1.2.1
      · show h2.1 33 11 p = nI (pl (exU ix m i p)) ∧ h2.1 34 11 p = nI (li (exU ix m i p)) ∧ h2.1 35 11 p = nI (le (exU ix m i p))
        by_cases g : p = m
        · rw [exU_p g, g]; exact ⟨w2, w3, w4⟩
        · rw [exU_n g, o2 33 11 p (by omega), o2 34 11 p (by omega), o2 35 11 p (by omega)]
          exact c1.2.2.2 p (by omega)
  · rintro h1 rec ⟨m, ix, I, c1, t1⟩
    unfold fX8_copySome_l23
    have cj := c.t11 t1 hj
    have r2 : rd h1 6 j 2 = nI n := by show h1.1 6 (j % cnt 6) 2 = _; rw [mj 6 rfl]; exact cj.2.2.1
    rw [r2, if_pos (nI_le (Nat.le_refl _) (by omega))]
    exact wp_some ⟨m, ix, I, c1, t1⟩
theorem areKept_wp {h : Hp} {j v sp st n : Nat} {pl li le : Nat → Nat} (hj : j < 10) (hs : SV sp st n pl li le) (hv : v < 2 ^ n) (c : CSt h j sp st n pl li le) (hk : KIv h) : ∃ r h', fX10_areKept j (nI v) h = some (r, h') ∧ KIv h' ∧ KZ h h' ∧ ((r = 1 ∧ EvM v sp st pl li le) ∨ (r = 0 ∧ ¬ EvM v sp st pl li le)) := by
  obtain ⟨h1, m, ix, e1, I, c1, t1⟩ := copySome_wp hj hs hv c
  obtain ⟨r, h2, e2, k2, ky, hr⟩ := exC (I.sv hs) (show 11 < 12 by decide) (show 11 ≠ 10 by decide) c1 (hk.t11 t1)
  rw [evm_rn hs hv I] at hr
  refine ⟨r, h2, ?_, k2, t1.kz.trans ky.kz, hr⟩
  unfold fX10_areKept
  rw [e1, bnd_eq, e2, bnd_eq]
  rcases hr with ⟨rfl, -⟩ | ⟨rfl, -⟩
  · rw [ck_p zk_1]
  · rw [ck_p zk_0]
/-! rows of trials: the class -/
theorem CSt.set0 {h : Hp} {sp sp' st n : Nat} {pl li le : Nat → Nat} (c : CSt h 11 sp' st n pl li le) : CSt (wr h 6 11 0 (nI sp)) 11 sp st n pl li le := by
  obtain ⟨c1, c2, c3, c4⟩ := c
  refine ⟨rfl, ?_, ?_, fun p hp => c4 p hp⟩
  · rw [wr_g, if_neg (by omega)]; exact c2
  · rw [wr_g, if_neg (by omega)]; exact c3
theorem CSt.set1 {h : Hp} {sp st st' n : Nat} {pl li le : Nat → Nat} (c : CSt h 11 sp st' n pl li le) : CSt (wr h 6 11 1 (nI st)) 11 sp st n pl li le := by
  obtain ⟨c1, c2, c3, c4⟩ := c
  refine ⟨?_, rfl, ?_, fun p hp => c4 p hp⟩
  · rw [wr_g, if_neg (by omega)]; exact c1
  · rw [wr_g, if_neg (by omega)]; exact c3
theorem w6_t11 (h : Hp) (i : Nat) (x : Int32) : T11 h (wr h 6 11 i x) := fun k s q u => by
  have c6 : 11 % cnt 6 = 11 := rfl
  rw [wr_g, c6, if_neg (by omega)]
theorem speedC {h : Hp} {j sp st n : Nat} {pl li le : Nat → Nat} (hj : j < 10) (hs : SV sp st n pl li le) (c : CSt h j sp st n pl li le) (hk : KIv h) : ∃ r h', fX10_leastSpeed j h = some (r, h') ∧ KIv h' ∧ FST (fun v => EvM (2 ^ n - 1) v st pl li le) 1 10 r := by
  suffices hw : WP (fX10_leastSpeed j h) (fun r h' => KIv h' ∧ FST (fun v => EvM (2 ^ n - 1) v st pl li le) 1 10 r) by
    obtain ⟨r, h', e, q⟩ := hw
    exact ⟨r, h', e, q⟩
  have hn := hs.2.2.2.1
  obtain ⟨h1, e1, c1, k1, -⟩ := copy11 hj hn c hk
  unfold fX10_leastSpeed
  rw [e1, bnd_eq]
  refine wp_for1 10 (fun v h' => 1 ≤ v ∧ KIv h' ∧ (∃ sp', CSt h' 11 sp' st n pl li le) ∧ ∀ u, 1 ≤ u → u < v → ¬ EvM (2 ^ n - 1) u st pl li le) ?_ ?_ FU h1 (i0 := 1) (by omega) (FUb (by decide)) ⟨by omega, k1, ⟨sp, c1⟩, fun u h1 h2 => by omega⟩
  · rintro v h2 rec hv ⟨h1v, k2, ⟨sp', c2⟩, hno⟩ hrec
    unfold fX10_leastSpeed_l10
    obtain ⟨r, h3, e3, k3, ky3, hr⟩ := exC (a := 11) (h := wr h2 6 11 0 (nI v)) (sp := v) ⟨h1v, by omega, hs.2.2⟩ (by decide) (by decide) c2.set0 (k2.t11 (w6_t11 h2 0 _))
    rw [if_neg (show ¬ (9 : Int32) < nI v from fun q => by have := (lt_n (a := 9) (by decide) (by omega)).mp q; omega), lt_eq, e3, bnd_eq]
    rcases hr with ⟨rfl, hE⟩ | ⟨rfl, hE⟩
    · rw [if_neg ne10]
      exact wp_some ⟨k3, Or.inl ⟨v, h1v, hv, rfl, hE, hno⟩⟩
    · rw [if_pos rfl, lt_eq, nI_1]
      refine hrec _ ⟨by omega, k3, ⟨v, c2.set0.ky ky3 (by decide)⟩, fun u h1 h2 => ?_⟩
      by_cases g : u = v
      · rw [g]; exact hE
      · exact hno u h1 (by omega)
  · rintro h2 rec ⟨-, k2, -, hno⟩
    unfold fX10_leastSpeed_l10
    rw [if_pos (show (9 : Int32) < nI 10 by decide)]
    exact wp_some ⟨k2, Or.inr ⟨rfl, hno⟩⟩
theorem startC {h : Hp} {j sp st n : Nat} {pl li le : Nat → Nat} (hj : j < 10) (hs : SV sp st n pl li le) (c : CSt h j sp st n pl li le) (hk : KIv h) : ∃ b h', fX10_startPlaces j h = some (nI b, h') ∧ KIv h' ∧ BTs (fun x => EvM (2 ^ n - 1) sp x pl li le) 10 b := by
  suffices hw : WP (fX10_startPlaces j h) (fun r h' => KIv h' ∧ ∃ b, r = nI b ∧ BTs (fun x => EvM (2 ^ n - 1) sp x pl li le) 10 b) by
    obtain ⟨r, h', e, q, b, rfl, q2⟩ := hw
    exact ⟨b, h', e, q, q2⟩
  have hn := hs.2.2.2.1
  obtain ⟨h1, e1, c1, k1, -⟩ := copy11 hj hn c hk
  unfold fX10_startPlaces
  rw [e1, bnd_eq]
  refine wp_for2 10 (fun x a h' => KIv h' ∧ (∃ st', CSt h' 11 sp st' n pl li le) ∧ ∃ b, a = nI b ∧ BTs (fun x => EvM (2 ^ n - 1) sp x pl li le) x b) ?_ ?_ FU 0 h1 (i0 := 0) (by omega) (FUb (by decide)) ⟨k1, ⟨st, c1⟩, 0, rfl, rfl⟩
  · rintro x a h2 rec hx ⟨k2, ⟨st', c2⟩, b, rfl, hb⟩ hrec
    unfold fX10_startPlaces_l12
    obtain ⟨r, h3, e3, k3, ky3, hr⟩ := exC (a := 11) (h := wr h2 6 11 1 (nI x)) (st := x) ⟨hs.1, hs.2.1, by omega, hs.2.2.2⟩ (by decide) (by decide) c2.set1 (k2.t11 (w6_t11 h2 1 _))
    have c3 := c2.set1.ky ky3 (by decide)
    rw [if_neg (show ¬ (10 : Int32) ≤ nI x from fun q => nI_ge hx (by decide) q), lt_eq, e3, bnd_eq, jn_eq]
    rcases hr with ⟨rfl, hE⟩ | ⟨rfl, hE⟩
    · rw [if_neg ne10, orB_eq (BTs.lt _ _ hb) (by omega), lt_eq]
      dsimp only
      rw [lt_eq, nI_1]
      exact hrec _ _ ⟨k3, ⟨x, c3⟩, _, rfl, b, hb, Or.inl ⟨hE, rfl⟩⟩
    · rw [if_pos rfl]
      dsimp only
      rw [lt_eq, nI_1]
      exact hrec _ _ ⟨k3, ⟨x, c3⟩, _, rfl, b, hb, Or.inr ⟨hE, rfl⟩⟩
  · rintro a h2 rec ⟨k2, -, b, rfl, hb⟩
    unfold fX10_startPlaces_l12
    rw [if_pos (show (10 : Int32) ≤ nI 10 by decide)]
    exact wp_some ⟨k2, b, rfl, hb⟩
