/-! drawn() -/
def sdN (s : Int32) : Int32 := s * (1103515245 : Int32) + (12345 : Int32)
def dgN (s : Int32) (n : Nat) : Int32 := irm ((s.toUInt32 >>> ((16 : Int32).toUInt32 &&& Int32.toUInt32 31)).toInt32) (nI n)
theorem shr16 (s : Int32) : ∃ v, v < 65536 ∧ (s.toUInt32 >>> ((16 : Int32).toUInt32 &&& Int32.toUInt32 31)).toInt32 = nI v := by
  refine ⟨s.toUInt32.toNat >>> 16, ?_, ?_⟩
  · have := s.toUInt32.toNat_lt
    rw [Nat.shiftRight_eq_div_pow]
    omega
  · have h16 : ((16 : Int32).toUInt32 &&& Int32.toUInt32 31) = 16 := by decide
    rw [h16]
    apply Int32.toBitVec_inj.mp
    apply BitVec.eq_of_toNat_eq
    have e1 : (s.toUInt32 >>> 16).toInt32.toBitVec = (s.toUInt32 >>> 16).toBitVec := rfl
    have e2 : (nI (s.toUInt32.toNat >>> 16)).toBitVec = BitVec.ofNat 32 (s.toUInt32.toNat >>> 16) := rfl
    rw [e1, e2, BitVec.toNat_ofNat]
    have e3 : (s.toUInt32 >>> 16).toBitVec.toNat = (s.toUInt32 >>> 16).toNat := rfl
    rw [e3, UInt32.toNat_shiftRight]
    have e4 : (16 : UInt32).toNat % 32 = 16 := rfl
    rw [e4]
    have := s.toUInt32.toNat_lt
    rw [Nat.shiftRight_eq_div_pow]
    omega
theorem dgN_eq (s : Int32) {n : Nat} (hn : 1 ≤ n) (hn2 : n ≤ 10) : ∃ p, p < n ∧ dgN s n = nI p := by
  obtain ⟨v, hv, e⟩ := shr16 s
  refine ⟨v % n, Nat.mod_lt _ (by omega), ?_⟩
  unfold dgN
  rw [e, nI_rem (by omega) (by omega)]
theorem drawC_eq {h : Hp} {s : Int32} {n : Nat} (h1 : 1 ≤ n) (h2 : n ≤ 10) (e : h.1 2 0 7 = s) : fX4_draw (nI n) h = some (dgN (sdN s) n, wr h 2 0 7 (sdN s)) := by
  unfold fX4_draw
  have r : rd h 2 0 7 = s := e
  have m1 : (if (1 : Int32) < nI n then nI n else 1) = nI n := by
    by_cases q : n = 1
    · rw [q]; rfl
    · rw [if_pos (show (1 : Int32) < nI n from nI_lt (a := 1) (by omega) (by omega))]
  have hne : (!decide (nI n = 0)) = true := by
    rw [Bool.not_eq_true', decide_eq_false_iff_not]
    exact fun q => by have := (eq0_n (by omega)).mp q; omega
  rw [lt_eq, lt_eq, m1, ck_p hne, r]
  rfl
theorem drawM_eq {h : Hp} {s : Int32} {n : Nat} (h1 : 1 ≤ n) (h2 : n ≤ 10) (e : h.1 10 0 60 = s) : fX12_draw (nI n) h = some (dgN (sdN s) n, wr h 10 0 60 (sdN s)) := by
  unfold fX12_draw
  have r : rd h 10 0 60 = s := e
  have hne : (!decide (nI n = 0)) = true := by
    rw [Bool.not_eq_true', decide_eq_false_iff_not]
    exact fun q => by have := (eq0_n (by omega)).mp q; omega
  rw [lt_eq, ck_p hne, r]
  rfl
def kdD (d : Nat) : Nat := if d = 5 then 2 else if d = 6 then 3 else if d = 7 then 4 else if 8 ≤ d then 0 else 1
theorem kdD_le (d : Nat) : kdD d ≤ 4 := by unfold kdD; (repeat' split) <;> omega
def tryN (n sp : Nat) (pl : Nat → Nat) (x : PW) (kd p : Nat) : PW := if mayB n sp pl x kd p = true then doN n sp pl x kd p else x
def drS (sd : Int32 → Int32) (dg : Int32 → Nat → Int32) (n sp : Nat) (pl : Nat → Nat) (q : Int32 × PW) : Int32 × PW :=
  if kdD (dg (sd q.1) 10).toNatClampNeg = 0 then (sd q.1, tryN n sp pl q.2 0 0) else if n = 0 then (sd q.1, q.2) else (sd (sd q.1), tryN n sp pl q.2 (kdD (dg (sd q.1) 10).toNatClampNeg) (dg (sd (sd q.1)) n).toNatClampNeg)
def drK (sd : Int32 → Int32) (dg : Int32 → Nat → Int32) (n sp : Nat) (pl : Nat → Nat) (q : Int32 × PW) : Nat → Int32 × PW
  | 0 => q
  | k + 1 => drS sd dg n sp pl (drK sd dg n sp pl q k)
theorem tryN_ok {n sp : Nat} {pl : Nat → Nat} {x : PW} (hp : VP n sp pl) (hx : VX n x) (h9 : x.2.2.2 9 < 100) (kd p : Nat) : VX n (tryN n sp pl x kd p) ∧ (tryN n sp pl x kd p).2.2.2 9 ≤ x.2.2.2 9 + 1 := by
  unfold tryN
  by_cases h : mayB n sp pl x kd p = true
  · rw [if_pos h]; exact ⟨doN_VX hp hx h9 h, doN_c9 n sp pl x kd p⟩
  · rw [if_neg h]; exact ⟨hx, by omega⟩
theorem drS_ok (sd : Int32 → Int32) (dg : Int32 → Nat → Int32) {n sp : Nat} {pl : Nat → Nat} {q : Int32 × PW} (hp : VP n sp pl) (hx : VX n q.2) (h9 : q.2.2.2.2 9 < 100) : VX n (drS sd dg n sp pl q).2 ∧ (drS sd dg n sp pl q).2.2.2.2 9 ≤ q.2.2.2.2 9 + 1 := by
  unfold drS
  generalize kdD (dg (sd q.1) 10).toNatClampNeg = kk
  generalize sd q.1 = s1
  generalize (dg (sd s1) n).toNatClampNeg = pp
  generalize sd s1 = s2
  by_cases h1 : kk = 0
  · rw [if_pos h1]; exact tryN_ok hp hx h9 0 0
  · rw [if_neg h1]
    by_cases h2 : n = 0
    · rw [if_pos h2]; exact ⟨hx, Nat.le_succ _⟩
    · rw [if_neg h2]; exact tryN_ok hp hx h9 _ _
theorem w27 (h : Hp) (v : Int32) : (wr h 2 0 7 v).1 2 0 7 = v := rfl
theorem w60 (h : Hp) (v : Int32) : (wr h 10 0 60 v).1 10 0 60 = v := rfl
theorem CS.w7 {h : Hp} {n sp : Nat} {pl : Nat → Nat} {x : PW} (v : Int32) (cs : CS h n sp pl x) : CS (wr h 2 0 7 v) n sp pl x := cs
theorem MS.w60 {h : Hp} {n sp : Nat} {pl : Nat → Nat} {x : PW} (v : Int32) (cs : MS h n sp pl x) : MS (wr h 10 0 60 v) n sp pl x := cs
theorem tryC {h : Hp} {n sp p kd : Nat} {pl : Nat → Nat} {x : PW} {P : Int32} {Q : Unit → Hp → Prop} {K : Hp → Option (Unit × Hp)} (hp : VP n sp pl) (hx : VX n x) (cs : CS h n sp pl x) (hk : kd ≤ 4) (hP : kd = 0 ∨ (P = nI p ∧ p < 5)) (hK : ∀ h', CS h' n sp pl (tryN n sp pl x kd p) → h'.1 2 0 7 = h.1 2 0 7 → WP (K h') Q) : WP (bnd (fX4_may (nI kd) P h) fun x10 h9 => if x10 = 0 then K h9 else (bnd (fX4_perform (nI kd) P h9) fun _ h14 => K h14)) Q := by
  rw [may_eq hp hx cs hk hP, bnd_eq]
  unfold tryN at hK
  by_cases g : mayB n sp pl x kd p = true
  · rw [if_pos g] at hK
    rw [if_pos g, if_neg ne10]
    exact wp_bnd (wp_mono (wp_fr (perform_wp hp hx cs hk hP g) (frX4_perform _ _ h)) (fun _ h3 q => hK h3 q.1 (q.2.at 2 0 7 rfl)))
  · rw [if_neg g] at hK
    rw [if_neg g, if_pos rfl]
    exact hK h cs rfl
theorem stepC (sd : Int32 → Int32) (dg : Int32 → Nat → Int32) (hdg : ∀ (s : Int32) {n : Nat}, 1 ≤ n → n ≤ 10 → ∃ p, p < n ∧ dg s n = nI p) (hdC : ∀ {h : Hp} {s : Int32} {n : Nat}, 1 ≤ n → n ≤ 10 → h.1 2 0 7 = s → fX4_draw (nI n) h = some (dg (sd s) n, wr h 2 0 7 (sd s))) {h : Hp} {n sp N : Nat} {pl : Nat → Nat} {q : Int32 × PW} {Q : Unit → Hp → Prop} {rec : Int32 → Hp → Option (Unit × Hp)} {i : Nat} (hi : i < N) (hN : N ≤ 60) (hp : VP n sp pl) (hx : VX n q.2) (cs : CS h n sp pl q.2) (e7 : h.1 2 0 7 = q.1) (K : Hp → Option (Unit × Hp)) (hK : ∀ h', CS h' n sp pl (drS sd dg n sp pl q).2 → h'.1 2 0 7 = (drS sd dg n sp pl q).1 → WP (rec (nI (i + 1)) h') Q) : WP (fX4_playDrawn_l13 (nI N) K rec (nI i) h) Q := by
  obtain ⟨d, hd, ed⟩ := hdg (sd q.1) (n := 10) (by decide) (by decide)
  unfold fX4_playDrawn_l13
  rw [if_neg (fun w => nI_ge hi (by omega) w), show fX4_draw 10 h = _ from hdC (n := 10) (by decide) (by decide) e7, bnd_eq, ed]
  have hkd : fX4_kindDrawn (nI d) (wr h 2 0 7 (sd q.1)) = some (nI (kdD d), wr h 2 0 7 (sd q.1)) := by
    unfold fX4_kindDrawn
    rcases (show d = 0 ∨ d = 1 ∨ d = 2 ∨ d = 3 ∨ d = 4 ∨ d = 5 ∨ d = 6 ∨ d = 7 ∨ d = 8 ∨ d = 9 by omega) with rfl | rfl | rfl | rfl | rfl | rfl | rfl | rfl | rfl | rfl <;> rfl
  rw [hkd, bnd_eq, jn_eq]
  have cs1 : CS (wr h 2 0 7 (sd q.1)) n sp pl q.2 := cs.w7 _
  have eS : drS sd dg n sp pl q = if kdD d = 0 then (sd q.1, tryN n sp pl q.2 0 0) else if n = 0 then (sd q.1, q.2) else (sd (sd q.1), tryN n sp pl q.2 (kdD d) (dg (sd (sd q.1)) n).toNatClampNeg) := by
    unfold drS
    rw [ed, nI_clamp (by omega)]
  rw [eS] at hK
  have hle := kdD_le d
  have hn := hp.1
  simp only [jn_eq]
  by_cases h0 : kdD d = 0
  · rw [if_pos h0] at hK
    rw [if_pos (show nI (kdD d) = 0 by rw [h0]; rfl)]
    rw [h0]
    refine tryC (p := 0) hp hx cs1 (by decide) (Or.inl rfl) (fun h' c7 e => ?_)
    rw [lt_eq, nI_1]
    exact hK h' c7 (e.trans (w27 _ _))
  · rw [if_neg h0] at hK
    rw [if_neg (fun w => h0 ((eq0_n (by omega)).mp w))]
    have r2 : rd (wr h 2 0 7 (sd q.1)) 6 9 2 = nI n := cs.2.1
    rw [r2]
    by_cases hn0 : n = 0
    · rw [if_pos hn0] at hK
      rw [if_pos ((le0_n (by omega)).mpr hn0)]
      have hmay : fX4_may (nI (kdD d)) (-1) (wr h 2 0 7 (sd q.1)) = some (0, wr h 2 0 7 (sd q.1)) := by
        unfold fX4_may
        rw [if_neg (fun w => h0 ((eq0_n (by omega)).mp w)), has8_eq (by decide) (show (wr h 2 0 7 (sd q.1)).1 6 9 2 = nI n from cs.2.1), bnd_eq, if_pos (Or.inl (by decide)), if_pos rfl]
        rfl
      rw [hmay, bnd_eq, if_pos rfl, lt_eq, nI_1]
      exact hK _ cs1 (w27 _ _)
    · rw [if_neg hn0] at hK
      rw [if_neg (fun w => hn0 ((le0_n (by omega)).mp w)), hdC (s := sd q.1) (n := n) (by omega) (by omega) (w27 _ _), bnd_eq]
      obtain ⟨p, hpn, ep⟩ := hdg (sd (sd q.1)) (n := n) (by omega) (by omega)
      rw [ep, nI_clamp (by omega)] at hK
      rw [ep]
      refine tryC (p := p) (x := q.2) hp hx ((cs.w7 (sd q.1)).w7 (sd (sd q.1))) hle (Or.inr ⟨rfl, by omega⟩) (fun h' c7 e => ?_)
      rw [lt_eq, nI_1]
      exact hK h' c7 (e.trans (w27 _ _))
theorem stepM (sd : Int32 → Int32) (dg : Int32 → Nat → Int32) (hdg : ∀ (s : Int32) {n : Nat}, 1 ≤ n → n ≤ 10 → ∃ p, p < n ∧ dg s n = nI p) (hdM : ∀ {h : Hp} {s : Int32} {n : Nat}, 1 ≤ n → n ≤ 10 → h.1 10 0 60 = s → fX12_draw (nI n) h = some (dg (sd s) n, wr h 10 0 60 (sd s))) {h : Hp} {n sp : Nat} {pl : Nat → Nat} {q : Int32 × PW} (hp : VP n sp pl) (hx : VX n q.2) (ms : MS h n sp pl q.2) (e60 : h.1 10 0 60 = q.1) : WP (fX12_drawDeed h) (fun _ h' => MS h' n sp pl (drS sd dg n sp pl q).2 ∧ h'.1 10 0 60 = (drS sd dg n sp pl q).1) := by
  obtain ⟨d, hd, ed⟩ := hdg (sd q.1) (n := 10) (by decide) (by decide)
  have hn := hp.1
  unfold fX12_drawDeed
  rw [show fX12_draw 10 h = _ from hdM (n := 10) (by decide) (by decide) e60, bnd_eq, ed]
  have eS : drS sd dg n sp pl q = if kdD d = 0 then (sd q.1, tryN n sp pl q.2 0 0) else if n = 0 then (sd q.1, q.2) else (sd (sd q.1), tryN n sp pl q.2 (kdD d) (dg (sd (sd q.1)) n).toNatClampNeg) := by
    unfold drS
    rw [ed, nI_clamp (by omega)]
  rw [eS]
  have i7 : (nI d ≤ (7 : Int32)) ↔ d ≤ 7 := le_n (b := 7) (by omega) (by decide)
  have ms1 : MS (wr h 10 0 60 (sd q.1)) n sp pl q.2 := ms.w60 _
  have doS : ∀ (h2 : Hp) (kd p : Nat) (P : Int32), kd ≤ 4 → (kd = 0 ∨ (P = nI p ∧ p < 5)) → MS h2 n sp pl q.2 → WP (bnd (fX12_does (nI kd) P h2) fun _ h9 => some ((), h9)) (fun _ h' => MS h' n sp pl (tryN n sp pl q.2 kd p) ∧ h'.1 10 0 60 = h2.1 10 0 60) := by
    intro h2 kd p P hk hP m2
    refine wp_bnd (wp_mono (wp_fr (does_wp hp hx m2 hk hP) (frX12_does _ _ h2)) (fun r h3 g => ?_))
    obtain ⟨g1, g2⟩ := g
    refine wp_some ⟨?_, g2.at 10 0 60 rfl⟩
    unfold tryN
    rcases g1 with ⟨a1, -, a3⟩ | ⟨a1, -, rfl⟩
    · rw [if_pos a1]; exact a3
    · rw [if_neg (by rw [a1]; decide)]; exact m2
  by_cases h7 : d ≤ 7
  · have hk0 : ¬ kdD d = 0 := by unfold kdD; (repeat' split) <;> omega
    rw [if_pos (i7.mpr h7), if_neg hk0]
    have r22 : rd (wr h 10 0 60 (sd q.1)) 10 0 22 = nI n := ms.2.1
    rw [r22]
    by_cases hn0 : n = 0
    · rw [if_pos ((le0_n (by omega)).mpr hn0), if_pos hn0]
      exact wp_some ⟨ms1, w60 _ _⟩
    · rw [if_neg (fun w => hn0 ((le0_n (by omega)).mp w)), if_neg hn0, jn_eq]
      obtain ⟨p, hpn, ep⟩ := hdg (sd (sd q.1)) (n := n) (by omega) (by omega)
      rw [ep, nI_clamp (by omega)]
      have go : ∀ z, z = nI (kdD d) → WP (bnd (fX12_draw (rd (wr h 10 0 60 (sd q.1)) 10 0 22) (wr h 10 0 60 (sd q.1))) fun x6 h5 => bnd (fX12_does z x6 h5) fun x8 h7 => some ((), h7)) (fun _ h' => MS h' n sp pl (sd (sd q.1), tryN n sp pl q.2 (kdD d) p).2 ∧ h'.1 10 0 60 = (sd (sd q.1), tryN n sp pl q.2 (kdD d) p).1) := by
        rintro z rfl
        rw [r22, hdM (s := sd q.1) (n := n) (by omega) (by omega) (w60 _ _), bnd_eq, ep]
        exact wp_mono (doS (wr (wr h 10 0 60 (sd q.1)) 10 0 60 (sd (sd q.1))) (kdD d) p (nI p) (kdD_le d) (Or.inr ⟨rfl, by omega⟩) (ms1.w60 _)) (fun _ h' g => ⟨g.1, g.2.trans (w60 _ _)⟩)
      have i5 : ((5 : Int32) ≤ nI d) ↔ 5 ≤ d := nI_leI (by decide) (by omega)
      by_cases h5 : 5 ≤ d
      · rw [if_pos (i5.mpr h5)]
        rcases (show d = 5 ∨ d = 6 ∨ d = 7 by omega) with rfl | rfl | rfl
        · rw [if_pos (show nI 5 = 5 from rfl)]; exact go 2 rfl
        · rw [if_neg (show ¬ nI 6 = 5 by decide), if_pos (show nI 6 = 6 from rfl)]; exact go 3 rfl
        · rw [if_neg (show ¬ nI 7 = 5 by decide), if_neg (show ¬ nI 7 = 6 by decide)]; exact go 4 rfl
      · rw [if_neg (fun w => h5 (i5.mp w))]
        exact go 1 (by unfold kdD; rw [if_neg (by omega), if_neg (by omega), if_neg (by omega), if_neg (by omega)]; rfl)
  · have hk0 : kdD d = 0 := by unfold kdD; rw [if_neg (by omega), if_neg (by omega), if_neg (by omega), if_pos (by omega)]
    rw [if_neg (fun w => h7 (i7.mp w)), if_pos hk0]
    exact wp_mono (doS (wr h 10 0 60 (sd q.1)) 0 0 (-1) (by decide) (Or.inl rfl) ms1) (fun _ h' g => ⟨g.1, g.2.trans (w60 _ _)⟩)
theorem st_drawn0 (sd : Int32 → Int32) (dg : Int32 → Nat → Int32) (hdg : ∀ (s : Int32) {n : Nat}, 1 ≤ n → n ≤ 10 → ∃ p, p < n ∧ dg s n = nI p) (hdC : ∀ {h : Hp} {s : Int32} {n : Nat}, 1 ≤ n → n ≤ 10 → h.1 2 0 7 = s → fX4_draw (nI n) h = some (dg (sd s) n, wr h 2 0 7 (sd s))) (hdM : ∀ {h : Hp} {s : Int32} {n : Nat}, 1 ≤ n → n ≤ 10 → h.1 10 0 60 = s → fX12_draw (nI n) h = some (dg (sd s) n, wr h 10 0 60 (sd s))) {KI : Hp → Prop} (hKI : KStab KI) : Stp_drawn (Rel KI) := by
  intro a s b w
  refine stp_q hKI (frX11_drawn a s b w) (frX12_drawn a s b w) rfl rfl rfl rfl (fun hC hM hR => ?_)
  obtain ⟨⟨-, -, -, -, c0, c1, c2, ⟨v0, v1, -⟩, ⟨e0, e1, e2⟩, ⟨m0, m1, m2⟩, hSt, -⟩, -⟩ := hR
  have m0' : (wr hM 10 0 0 0).1 47 0 0 = nI c0 := m0
  unfold fX11_drawn fX12_drawn
  rw [lt_eq, in_eq, bnd_eq]
  rcases int_cases b 61 (by decide) with hb | ⟨N, hN, rfl⟩
  · have hout : b < 0 ∨ (60 : Int32) < b := by
      rcases hb with q | q
      · exact Or.inl q
      · right
        rw [Int32.lt_iff_toInt_lt]
        have := Int32.le_iff_toInt_le.mp q
        have e6 : (nI 61).toInt = 61 := rfl
        show (60 : Int) < _
        omega
    rw [if_pos hout, if_pos rfl]
    have hc : ∀ o, (if b < 0 then some ((-1 : Int32), hC) else if b ≤ 60 then o else some (-1, hC)) = some (-1, hC) := by
      intro o
      by_cases g : b < 0
      · rw [if_pos g]
      · rw [if_neg g, if_neg (fun q => by
          have z1 := Int32.lt_iff_toInt_lt.mp (hout.resolve_left g)
          have z2 := Int32.le_iff_toInt_le.mp q
          omega)]
    rcases int_cases a c0 (by omega) with ha | ⟨j, hj, rfl⟩
    · rw [stageAt_no e0 ha, bnd_eq]; exact ⟨_, _, _, rfl, rfl⟩
    · rw [stageAt_yes e0 hj v0, bnd_eq, nl_s, hc]; exact ⟨_, _, _, rfl, rfl⟩
  · rw [if_neg (show ¬ (nI N < 0 ∨ (60 : Int32) < nI N) from fun q => q.elim (fun q => in_no hN (by decide) (Or.inl q)) (fun q => by have := (lt_n (a := 60) (by decide) (by omega)).mp q; omega)), if_neg ne10]
    rcases int_cases a c0 (by omega) with ha | ⟨j, hj, rfl⟩
    · rw [stageAt_no e0 ha, bnd_eq, hand_no m0' v0 ha, bnd_eq, if_pos rfl]
      exact ⟨_, _, _, rfl, rfl⟩
    · obtain ⟨sp, st, n, pl, li, le, hv, hcs, hms⟩ := hSt j hj
      rw [Nat.mul_zero, Nat.zero_add] at hcs hms
      have hn := hv.2.2.2.1
      have hp := hv.vp
      rw [stageAt_yes e0 hj v0, bnd_eq, nl_s, if_neg (fun q => in_no hN (by decide) (Or.inl q)), if_pos (show nI N ≤ 60 from nI_le (b := 60) (by omega) (by decide))]
      have main : ∀ k, k ≤ N → VX n (drK sd dg n sp pl (s, iniP n st li le) k).2 ∧ (drK sd dg n sp pl (s, iniP n st li le) k).2.2.2.2 9 ≤ k := by
        intro k
        induction k with
        | zero => intro _; exact ⟨iniP_VX hv, Nat.zero_le _⟩
        | succ k ih =>
          intro hk
          obtain ⟨i1, i2⟩ := ih (by omega)
          have := drS_ok sd dg hp i1 (by omega)
          exact ⟨this.1, by show (drS sd dg n sp pl (drK sd dg n sp pl (s, iniP n st li le) k)).2.2.2.2 9 ≤ k + 1; omega⟩
      have hCl : WP (fX4_playDrawn j s (nI N) hC) (fun _ h' => CS h' n sp pl (drK sd dg n sp pl (s, iniP n st li le) N).2) := by
        unfold fX4_playDrawn
        refine wp_bnd (wp_mono (begin_wp (by omega) hv hcs) (fun _ h1 q => ?_))
        rw [lt_eq]
        refine wp_for1 N (fun i h' => CS h' n sp pl (drK sd dg n sp pl (s, iniP n st li le) i).2 ∧ h'.1 2 0 7 = (drK sd dg n sp pl (s, iniP n st li le) i).1) ?_ ?_ FU _ (i0 := 0) (by omega) (FUb (by omega)) ⟨q.1.w7 s, w27 _ _⟩
        · rintro i h2 rec hi ⟨a1, a2⟩ hrec
          exact stepC sd dg hdg hdC hi (by omega) hp (main i (by omega)).1 a1 a2 _ (fun h' b1 b2 => hrec h' ⟨b1, b2⟩)
        · rintro h2 rec ⟨a1, a2⟩
          unfold fX4_playDrawn_l13
          rw [if_pos (nI_le (Nat.le_refl _) (by omega))]
          exact wp_some a1
      obtain ⟨u, hC', eC, csC⟩ := hCl
      obtain ⟨rH, hH, eH, rfl, -, h21, frH⟩ := hand_yes (h := wr hM 10 0 0 0) m0' v0 hj hn hms
      have hm2 : MSt hH j sp st n pl li le := by
        refine ⟨(frH.cell 48 0 rfl _).trans hms.1, (frH.cell 48 0 rfl _).trans hms.2.1, (frH.cell 48 0 rfl _).trans hms.2.2.1, fun p hp => ?_⟩
        rw [frH.cell 48 0 rfl, frH.cell 48 0 rfl, frH.cell 48 0 rfl]; exact hms.2.2.2 p hp
      obtain ⟨u2, hB, eB, msB, frB⟩ := beginShow_wp h21 (by omega) hv hm2
      rw [eC, bnd_eq, view_eq hn (main N (Nat.le_refl _)).1 csC w, bnd_eq, eH, bnd_eq, if_neg ne10, eB, bnd_eq, lt_eq]
      have hMl : WP (itr1 (fX12_drawn_l37 (nI N) (fun h10 => bnd (fX12_ofState w h10) fun x12 h11 => some (x12, h11))) FU 0 (wr hB 10 0 60 s)) (fun r _ => r = vwN n (drK sd dg n sp pl (s, iniP n st li le) N).2 w) := by
        refine wp_for1 N (fun i h' => MS h' n sp pl (drK sd dg n sp pl (s, iniP n st li le) i).2 ∧ h'.1 10 0 60 = (drK sd dg n sp pl (s, iniP n st li le) i).1) ?_ ?_ FU _ (i0 := 0) (by omega) (FUb (by omega)) ⟨msB.w60 s, w60 _ _⟩
        · rintro i h2 rec hi ⟨a1, a2⟩ hrec
          unfold fX12_drawn_l37
          rw [if_neg (fun w => nI_ge hi (by omega) w)]
          refine wp_bnd (wp_mono (stepM sd dg hdg hdM hp (main i (by omega)).1 a1 a2) (fun _ h3 q => ?_))
          rw [lt_eq, nI_1]
          exact hrec _ q
        · rintro h2 rec ⟨a1, a2⟩
          unfold fX12_drawn_l37
          rw [if_pos (nI_le (Nat.le_refl _) (by omega))]
          dsimp only
          rw [ofState_eq hn (main N (Nat.le_refl _)).1 a1 w, bnd_eq]
          exact wp_some rfl
      obtain ⟨r, hM', eM, rfl⟩ := hMl
      exact ⟨_, _, _, rfl, eM⟩
theorem st_drawn {KI : Hp → Prop} (hKI : KStab KI) : Stp_drawn (Rel KI) := st_drawn0 sdN dgN dgN_eq drawC_eq drawM_eq hKI
