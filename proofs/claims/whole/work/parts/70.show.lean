/-! state() -/
theorem subI_iff {a c n : Nat} (ha : a < 2 ^ 31) (hc : c ≤ 20) (hn : n ≤ 5) : (nI a - nI c < 0 ∨ nI n ≤ nI a - nI c) ↔ ¬ (c ≤ a ∧ a < c + n) := by
  by_cases h : c ≤ a
  · rw [nI_sub h]
    constructor
    · rintro w ⟨-, h2⟩
      exact in_no (show a - c < n by omega) (by omega) w
    · intro w
      exact Or.inr (nI_le (by omega) (by omega))
  · constructor
    · rintro - ⟨h1, -⟩; exact h h1
    · intro _
      left
      rw [Int32.lt_iff_toInt_lt, Int32.toInt_sub, nI_toInt ha, nI_toInt (show c < 2 ^ 31 by omega), bm_small (by omega) (by omega)]
      show (a : Int) - (c : Int) < 0
      omega
theorem subI_neg {w : Int32} {c n : Nat} (hw : w < 0) (hc : c ≤ 20) (hn : n ≤ 5) : w - nI c < 0 ∨ nI n ≤ w - nI c := by
  have h0 : w.toInt < 0 := by
    have := Int32.lt_iff_toInt_lt.mp hw
    simpa using this
  have hb := Int32.minValue_le_toInt w
  have hmin : Int32.minValue.toInt = -2147483648 := rfl
  by_cases h : -2147483648 ≤ w.toInt - c
  · left
    rw [Int32.lt_iff_toInt_lt, Int32.toInt_sub, nI_toInt (show c < 2 ^ 31 by omega), bm_small h (by omega)]
    show w.toInt - c < 0
    omega
  · right
    rw [Int32.le_iff_toInt_le, Int32.toInt_sub, nI_toInt (show c < 2 ^ 31 by omega), nI_toInt (show n < 2 ^ 31 by omega)]
    unfold Int.bmod
    dsimp only
    split <;> omega
def vwN (n : Nat) (x : PW) (w : Int32) : Int32 := if w = 0 then nI (x.2.2.2 1) else if w = 1 then nI (x.2.2.2 0) else if w = 2 then nI (sbN x.1 n) else if w = 3 then nI (x.2.2.2 2) else if w = 4 then nI (x.2.2.2 3) else if w < 0 then -1 else if 10 ≤ w.toNatClampNeg ∧ w.toNatClampNeg < 10 + n then nI (x.1 (w.toNatClampNeg - 10)) else if 20 ≤ w.toNatClampNeg ∧ w.toNatClampNeg < 20 + n then nI (x.2.1 (w.toNatClampNeg - 20)) else -1
theorem view_eq {h : Hp} {n sp : Nat} {pl : Nat → Nat} {x : PW} (hn : n ≤ 5) (hx : VX n x) (cs : CS h n sp pl x) (w : Int32) : fX4_view w h = some (vwN n x w, h) := by
  unfold fX4_view vwN
  obtain ⟨c1, c2, c3, d2, d3, d4, d5, d9, d11, d6, d10, d12⟩ := cs
  have r3 : rd h 2 0 3 = nI (x.2.2.2 1) := d3
  have r2 : rd h 2 0 2 = nI (x.2.2.2 0) := d2
  have r4 : rd h 2 0 4 = nI (x.2.2.2 2) := d4
  have r5 : rd h 2 0 5 = nI (x.2.2.2 3) := d5
  rw [r3, r2, r4, r5, standingBits_eq (L := x.1) hn c2 (fun p hp => ⟨(hx.1 p hp).1, (c3 p hp).2.2.1⟩), bnd_eq]
  by_cases w0 : w = 0
  · rw [if_pos w0, if_pos w0]
  rw [if_neg w0, if_neg w0]
  by_cases w1 : w = 1
  · rw [if_pos w1, if_pos w1]
  rw [if_neg w1, if_neg w1]
  by_cases w2 : w = 2
  · rw [if_pos w2, if_pos w2]
  rw [if_neg w2, if_neg w2]
  by_cases w3 : w = 3
  · rw [if_pos w3, if_pos w3]
  rw [if_neg w3, if_neg w3]
  by_cases w4 : w = 4
  · rw [if_pos w4, if_pos w4]
  rw [if_neg w4, if_neg w4, has8_eq (by decide) c2, bnd_eq, has8_eq (by decide) c2, bnd_eq]
  by_cases hw : w < 0
  · rw [if_pos (show w - (10 : Int32) < 0 ∨ nI n ≤ w - 10 from subI_neg (c := 10) hw (by decide) hn), if_pos rfl, if_pos (show w - (20 : Int32) < 0 ∨ nI n ≤ w - 20 from subI_neg (c := 20) hw (by decide) hn), if_pos rfl, if_pos hw]
  · obtain ⟨a, ha, rfl⟩ := nI_of hw
    rw [if_neg hw, nI_clamp ha]
    have i10 : (nI a - (10 : Int32) < 0 ∨ nI n ≤ nI a - 10) ↔ ¬ (10 ≤ a ∧ a < 10 + n) := subI_iff (c := 10) ha (by decide) hn
    have i20 : (nI a - (20 : Int32) < 0 ∨ nI n ≤ nI a - 20) ↔ ¬ (20 ≤ a ∧ a < 20 + n) := subI_iff (c := 20) ha (by decide) hn
    by_cases g : 10 ≤ a ∧ a < 10 + n
    · have e10 : nI a - (10 : Int32) = nI (a - 10) := nI_sub (b := 10) g.1
      rw [if_neg (fun q => i10.mp q g), if_neg ne10, if_pos g, e10, ck_p (ib_nI (by omega) (by decide)), ra_n (by omega)]
      rw [show h.1 35 (9 % cnt 35) (a - 10) = _ from (c3 (a - 10) (by omega)).2.2.1]
    · rw [if_pos (i10.mpr g), if_pos rfl, if_neg g]
      by_cases g2 : 20 ≤ a ∧ a < 20 + n
      · have e20 : nI a - (20 : Int32) = nI (a - 20) := nI_sub (b := 20) g2.1
        rw [if_neg (fun q => i20.mp q g2), if_neg ne10, if_pos g2, e20, ck_p (ib_nI (by omega) (by decide)), ra_n (by omega)]
        rw [show h.1 34 (9 % cnt 34) (a - 20) = _ from (c3 (a - 20) (by omega)).2.1]
      · rw [if_pos (i20.mpr g2), if_pos rfl, if_neg g2]
theorem ofState_eq {h : Hp} {n sp : Nat} {pl : Nat → Nat} {x : PW} (hn : n ≤ 5) (hx : VX n x) (ms : MS h n sp pl x) (w : Int32) : fX12_ofState w h = some (vwN n x w, h) := by
  unfold fX12_ofState vwN
  obtain ⟨c1, c2, c3, d29, d30, d31, d32, d33, d34, d35, d36, d37, d57⟩ := ms
  have r3 : rd h 10 0 30 = nI (x.2.2.2 1) := d30
  have r2 : rd h 10 0 29 = nI (x.2.2.2 0) := d29
  have r4 : rd h 10 0 31 = nI (x.2.2.2 2) := d31
  have r5 : rd h 10 0 32 = nI (x.2.2.2 3) := d32
  rw [lt_eq, r3, r2, r4, r5, standNow_eq (L := x.1) hn c2 (fun p hp => ⟨(hx.1 p hp).1, (c3 p hp).2.2.1⟩), bnd_eq]
  have lt10 : ∀ k : Int32, k = 0 ∨ k = 1 ∨ k = 2 ∨ k = 3 ∨ k = 4 → k < 10 := by rintro k (rfl | rfl | rfl | rfl | rfl) <;> decide
  by_cases w0 : w = 0
  · rw [if_pos w0, if_pos w0, if_pos (lt10 w (by simp [w0]))]
  rw [if_neg w0, if_neg w0]
  by_cases w1 : w = 1
  · rw [if_pos w1, if_pos w1, if_pos (lt10 w (by simp [w1]))]
  rw [if_neg w1, if_neg w1]
  by_cases w2 : w = 2
  · rw [if_pos w2, if_pos w2, if_pos (lt10 w (by simp [w2]))]
  rw [if_neg w2, if_neg w2]
  by_cases w3 : w = 3
  · rw [if_pos w3, if_pos w3, if_pos (lt10 w (by simp [w3]))]
  rw [if_neg w3, if_neg w3]
  by_cases w4 : w = 4
  · rw [if_pos w4, if_pos w4, if_pos (lt10 w (by simp [w4]))]
  rw [if_neg w4, if_neg w4]
  by_cases hw : w < 0
  · rw [if_pos (show w < 10 from Int32.lt_trans hw (by decide)), if_pos hw]
  · obtain ⟨a, ha, rfl⟩ := nI_of hw
    rw [if_neg hw, nI_clamp ha]
    have i10 : (nI a < (10 : Int32)) ↔ a < 10 := lt_n (b := 10) ha (by decide)
    have i30 : ((30 : Int32) ≤ nI a) ↔ 30 ≤ a := nI_leI (by decide) ha
    have i20 : ((20 : Int32) ≤ nI a) ↔ 20 ≤ a := nI_leI (by decide) ha
    by_cases g : a < 10
    · rw [if_pos (i10.mpr g), if_neg (by omega), if_neg (by omega)]
    · rw [if_neg (fun q => g (i10.mp q)), jn_eq]
      by_cases g3 : 30 ≤ a
      · rw [if_pos (i30.mpr g3), if_neg (by omega), if_neg (by omega)]
      · rw [if_neg (fun q => g3 (i30.mp q)), show (10 : Int32) = nI 10 from rfl, nI_rem ha (by decide), isPlate_eq c2 hn, bnd_eq]
        by_cases gp : a % 10 < n
        · have hib : ib (nI (a % 10)) 5 = true := ib_nI (by omega) (by decide)
          rw [if_neg (in_no gp (by omega)), if_neg ne10, ck_p hib, ck_p hib, ra_n (by omega), ra_n (by omega), show h.1 54 (0 % cnt 54) (a % 10) = _ from (c3 (a % 10) gp).2.1, show h.1 63 (0 % cnt 63) (a % 10) = _ from (c3 (a % 10) gp).2.2.1]
          by_cases g2 : 20 ≤ a
          · rw [if_pos (i20.mpr g2), if_neg (by omega), if_pos (by omega), show a % 10 = a - 20 by omega]
          · rw [if_neg (fun q => g2 (i20.mp q)), if_pos (by omega), show a % 10 = a - 10 by omega]
        · rw [if_pos (Or.inr (nI_le (by omega) (by omega))), if_pos rfl, if_neg (by omega), if_neg (by omega)]
theorem st_state {KI : Hp → Prop} (hKI : KStab KI) : Stp_state (Rel KI) := by
  intro a b q w
  refine stp_q hKI (frX11_state a b q w) (frX12_state a b q w) rfl rfl rfl rfl (fun hC hM hR => ?_)
  obtain ⟨⟨-, -, -, -, c0, c1, c2, ⟨v0, v1, -⟩, ⟨e0, e1, e2⟩, ⟨m0, m1, m2⟩, hSt, hSh, -⟩, -⟩ := hR
  rcases int_cases a c0 (by omega) with ha | ⟨j, hj, rfl⟩
  · obtain ⟨h', e⟩ := layAll_no (h := wr hM 10 0 0 0) (a := a) (b := b) m0 v0 m1 v1 (Or.inl ha)
    refine ⟨-1, hC, h', ?_, ?_⟩
    · unfold fX11_state
      rw [stageAt_no e0 ha, bnd_eq]
      rcases int_cases b c1 (by omega) with hb | ⟨jj, hjj, rfl⟩
      · rw [showAt_no e1 hb]; rfl
      · rw [showAt_yes e1 hjj v1]; rfl
    · unfold fX12_state
      rw [lt_eq, e, bnd_eq, jn_eq, if_pos rfl]
  · rcases int_cases b c1 (by omega) with hb | ⟨jj, hjj, rfl⟩
    · obtain ⟨h', e⟩ := layAll_no (h := wr hM 10 0 0 0) (a := nI j) (b := b) m0 v0 m1 v1 (Or.inr hb)
      refine ⟨-1, hC, h', ?_, ?_⟩
      · unfold fX11_state
        rw [stageAt_yes e0 hj v0, bnd_eq, showAt_no e1 hb]; rfl
      · unfold fX12_state
        rw [lt_eq, e, bnd_eq, jn_eq, if_pos rfl]
    · obtain ⟨sp, st, n, pl, li, le, hv, hcs, hms⟩ := hSt j hj
      obtain ⟨m, kd, pt, hw, hcw, hmw⟩ := hSh jj hjj
      rw [Nat.mul_zero, Nat.zero_add] at hcs hms hcw hmw
      have hm40 := hw.1
      obtain ⟨rL, hL, eL, rfl, msL, h40, hsL⟩ := layAll_yes (h := wr hM 10 0 0 0) m0 v0 hj m1 v1 hjj hv hms hmw
      have uM : fX12_state (nI j) (nI jj) q w hM = bnd (fX12_in q 0 (nI m) hL) fun x9 h8 => if x9 = 0 then some (-1, h8) else (bnd (fX12_play q h8) fun x11 h10 => if x11 = q then (bnd (fX12_ofState w h10) fun x13 h12 => some (x13, h12)) else some (-1, h10)) := by
        unfold fX12_state
        rw [lt_eq, eL, bnd_eq, jn_eq, if_neg ne10, deeds_eq h40 (by omega), bnd_eq, hsL.1]
      have uC : fX11_state (nI j) (nI jj) q w hC = (if (0 : Int32) ≤ q then (bnd (fX4_play j jj q hC) fun x8 h7 => if q ≤ x8 then (bnd (fX4_view w h7) fun x10 h9 => some (x10, h9)) else some (-1, h7)) else some (-1, hC)) := by
        unfold fX11_state
        rw [stageAt_yes e0 hj v0, bnd_eq, showAt_yes e1 hjj v1, bnd_eq, nl_s, nl_s]
      rw [uM, uC, in_eq, bnd_eq]
      by_cases hq : q < 0
      · rw [if_pos (Or.inl hq), if_pos rfl, if_neg (fun z => by
          have z1 := Int32.lt_iff_toInt_lt.mp hq
          have z2 := Int32.le_iff_toInt_le.mp z
          omega)]
        exact ⟨_, _, _, rfl, rfl⟩
      · obtain ⟨Q, hQ, rfl⟩ := nI_of hq
        rw [if_pos (show (0 : Int32) ≤ nI Q from nI_le (a := 0) (by omega) hQ)]
        obtain ⟨r, hC', eC, rfl, csC, -, vC⟩ := play_wp (q := Q) (by omega) (by omega) hQ hv hcs hw hcw
        have hle := plyF_le (n := n) (sp := sp) (pl := pl) (kd := kd) (pt := ptN pt) (min Q m) 0 (iniP n st li le) (-1)
        rw [eC, bnd_eq]
        by_cases hQm : Q ≤ m
        · rw [if_neg (show ¬ (nI Q < 0 ∨ nI m < nI Q) from fun z => z.elim hq (fun z => by have := (lt_n (by omega) hQ).mp z; omega)), if_neg ne10]
          obtain ⟨rM, hM', eM, rfl, msM, vM⟩ := playM_wp (by omega) h40 hv.vp ⟨iniP_VX hv, Nat.zero_le _, fun _ => rfl⟩ msL hw hsL hQm
          rw [eM, bnd_eq]
          have hmin : min Q m = Q := by omega
          rw [hmin] at csC vC hle ⊢
          by_cases hall : (plyF n sp pl kd (ptN pt) Q 0 (iniP n st li le) (-1)).1 = Q
          · rw [if_pos (show nI (plyF n sp pl kd (ptN pt) Q 0 (iniP n st li le) (-1)).1 = nI Q by rw [hall]), if_pos (show nI Q ≤ nI (plyF n sp pl kd (ptN pt) Q 0 (iniP n st li le) (-1)).1 by rw [hall]; exact nI_le (Nat.le_refl _) hQ), view_eq hv.2.2.2.1 vC csC w, bnd_eq, ofState_eq hv.2.2.2.1 vM msM w, bnd_eq]
            exact ⟨_, _, _, rfl, rfl⟩
          · rw [if_neg (show ¬ nI (plyF n sp pl kd (ptN pt) Q 0 (iniP n st li le) (-1)).1 = nI Q from fun z => hall ((eq_n (by omega) hQ).mp z)), if_neg (show ¬ nI Q ≤ nI (plyF n sp pl kd (ptN pt) Q 0 (iniP n st li le) (-1)).1 from fun z => by have := (le_n hQ (by omega)).mp z; omega)]
            exact ⟨_, _, _, rfl, rfl⟩
        · rw [if_pos (Or.inr (nI_lt (show m < Q by omega) hQ)), if_pos rfl, if_neg (show ¬ nI Q ≤ nI (plyF n sp pl kd (ptN pt) (min Q m) 0 (iniP n st li le) (-1)).1 from fun z => by have := (le_n hQ (by omega)).mp z; omega)]
          exact ⟨_, _, _, rfl, rfl⟩
