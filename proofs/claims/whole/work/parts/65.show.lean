/-! ways and runs -/
theorem absI : ∀ a, a < 10 → ∀ b, b < 10 → (if (0 : Int32) ≤ nI a - nI b then nI a - nI b else 0 - (nI a - nI b)) = nI (if a < b then b - a else a - b) := by decide +kernel
theorem wayN_le {sp a b : Nat} (hs : 1 ≤ sp) (ha : a ≤ 9) (hb : b ≤ 9) : wayN sp a b ≤ 9 := by
  unfold wayN
  have : (if a < b then b - a else a - b) ≤ 9 := by split <;> omega
  generalize (if a < b then b - a else a - b) = d at this
  rw [Nat.div_le_iff_le_mul_add_pred (by omega)]
  have : d ≤ sp * 9 := Nat.le_trans this (by omega)
  omega
theorem way8_eq {h : Hp} {a0 sp a b : Nat} (h0 : a0 < 12) (hs1 : 1 ≤ sp) (hs9 : sp ≤ 9) (e : h.1 6 a0 0 = nI sp) (ha : a ≤ 9) (hb : b ≤ 9) : fX8_way a0 (nI a) (nI b) h = some (nI (wayN sp a b), h) := by
  unfold fX8_way
  have r : rd h 6 a0 0 = nI sp := by show h.1 6 (a0 % 12) 0 = _; rw [Nat.mod_eq_of_lt h0]; exact e
  have m1 : (if (1 : Int32) < nI sp then nI sp else 1) = nI sp := by
    by_cases h1 : sp = 1
    · rw [h1]; rfl
    · rw [if_pos (show (1 : Int32) < nI sp from nI_lt (a := 1) (by omega) (by omega))]
  have hne : (!decide (nI sp = 0)) = true := by
    rw [Bool.not_eq_true', decide_eq_false_iff_not]
    exact fun q => by have := (eq0_n (by omega)).mp q; omega
  have hd : (if a < b then b - a else a - b) ≤ 9 := by split <;> omega
  rw [lt_eq, r, m1, lt_eq, absI a (by omega) b (by omega), ck_p hne, nI_add, show nI ((if a < b then b - a else a - b) + sp) - (1 : Int32) = nI ((if a < b then b - a else a - b) + sp - 1) from nI_sub (b := 1) (by omega), nI_div (by omega) (by omega)]
  rfl
theorem way12_eq {h : Hp} {sp a b : Nat} (hs1 : 1 ≤ sp) (hs9 : sp ≤ 9) (e : h.1 10 0 23 = nI sp) (ha : a ≤ 9) (hb : b ≤ 9) : fX12_way (nI a) (nI b) h = some (nI (wayN sp a b), h) := by
  unfold fX12_way
  have r : rd h 10 0 23 = nI sp := e
  have hne : (!decide (nI sp = 0)) = true := by
    rw [Bool.not_eq_true', decide_eq_false_iff_not]
    exact fun q => by have := (eq0_n (by omega)).mp q; omega
  have fin : ∀ d, d ≤ 9 → (ck (!decide (rd h 10 0 23 = 0)) (some (((nI d + rd h 10 0 23) - (1 : Int32)) / rd h 10 0 23, h))) = some (nI ((d + sp - 1) / sp), h) := by
    intro d hd
    rw [r, ck_p hne, nI_add, show nI (d + sp) - (1 : Int32) = nI (d + sp - 1) from nI_sub (b := 1) (by omega), nI_div (by omega) (by omega)]
  rw [jn_eq]
  unfold wayN
  by_cases h1 : b ≤ a
  · rw [if_pos (nI_le h1 (by omega)), if_neg (by omega), nI_sub h1]
    exact fin _ (by omega)
  · rw [if_neg (fun q => h1 ((le_n (by omega) (by omega)).mp q)), if_pos (by omega), nI_sub (by omega)]
    exact fin _ (by omega)
theorem btk_s (n : Nat) : ∀ k x, bt1 n 9 (btk n k x) = btk n (k + 1) x := by
  intro k
  induction k with
  | zero => intro x; rfl
  | succ k ih => intro x; exact ih (bt1 n 9 x)
theorem btk_c (n j : Nat) (hj : j = 0 ∨ j = 3 ∨ j = 4 ∨ j = 5 ∨ j = 9) : ∀ k x, (btk n k x).2.2.2 j = x.2.2.2 j := by
  intro k
  induction k with
  | zero => intro x; rfl
  | succ k ih =>
    intro x
    show (btk n k (bt1 n 9 x)).2.2.2 j = _
    rw [ih]
    rcases hj with rfl | rfl | rfl | rfl | rfl <;> rfl
theorem btk_ES (n : Nat) : ∀ k x, (btk n k x).2.1 = x.2.1 ∧ (btk n k x).2.2.1 = x.2.2.1 := by
  intro k
  induction k with
  | zero => intro x; exact ⟨rfl, rfl⟩
  | succ k ih => intro x; exact ih (bt1 n 9 x)
def pwy (n sp : Nat) (pl : Nat → Nat) (p : Nat) (x : PW) : PW := ((btk n (wayN sp (x.2.2.2 0) (pl p)) x).1, x.2.1, x.2.2.1, updN (updN (btk n (wayN sp (x.2.2.2 0) (pl p)) x).2.2.2 5 (x.2.2.2 5 + wayN sp (x.2.2.2 0) (pl p))) 0 (pl p))
def spnP (n p : Nat) (y : PW) : PW := (updN (btL n p y.1) p (y.2.1 p), y.2.1, updN y.2.2.1 p (y.2.2.1 p + 1), updN (bt1 n p y).2.2.2 3 (y.2.2.2 3 + 1))
def vanP (n : Nat) (y : PW) : PW := (btL n 9 y.1, y.2.1, y.2.2.1, updN (bt1 n 9 y).2.2.2 4 (y.2.2.2 4 + 1))
def runP (n sp : Nat) (pl : Nat → Nat) (p : Nat) (x : PW) : PW := if 0 < (pwy n sp pl p x).1 p then spnP n p (pwy n sp pl p x) else vanP n (pwy n sp pl p x)
def setP (n sp : Nat) (pl : Nat → Nat) (p : Nat) (x : PW) : PW := (updN (btL n 9 (pwy n sp pl p x).1) p (x.2.1 p), x.2.1, x.2.2.1, (bt1 n 9 (pwy n sp pl p x)).2.2.2)
def gstP (p : Nat) (x : PW) : PW := (updN x.1 p (x.1 p - 1), x.2.1, x.2.2.1, updN (updN x.2.2.2 2 (x.2.2.2 2 + if x.1 p = 1 then 1 else 0)) 9 (x.2.2.2 9 + 1))
def oilP (p : Nat) (x : PW) : PW := (x.1, updN x.2.1 p (x.2.1 p + 1), x.2.2.1, x.2.2.2)
theorem pwy_VX {n sp p : Nat} {pl : Nat → Nat} {x : PW} (hp : VP n sp pl) (hpn : p < n) (hx : VX n x) (h1 : x.2.2.2 1 + wayN sp (x.2.2.2 0) (pl p) ≤ 200) : VX n (pwy n sp pl p x) := by
  obtain ⟨v1, v2, v3, v4, v5, v6, v7, v8⟩ := btk_VX hp.1 _ _ hx h1
  have es := btk_ES n (wayN sp (x.2.2.2 0) (pl p)) x
  refine ⟨fun q hq => ?_, hp.2.2.2 p hpn, v3, v4, v5, v6, v7, v8⟩
  have := v1 q hq
  rw [es.1, es.2] at this
  exact this
theorem pwy_beats (n sp : Nat) (pl : Nat → Nat) (p : Nat) (x : PW) : (pwy n sp pl p x).2.2.2 1 = x.2.2.2 1 + wayN sp (x.2.2.2 0) (pl p) := btk_beats n _ x
theorem spnP_VX {n p : Nat} {y : PW} (hn : n ≤ 5) (hpn : p < n) (hy : VX n y) (h1 : y.2.2.2 1 < 200) : VX n (spnP n p y) := by
  obtain ⟨v1, v2, v3, v4, v5, v6, v7, v8⟩ := bt1_VX (b := p) hn hy h1
  refine ⟨fun q hq => ?_, v2, v3, v4, v5, v6, v7, v8⟩
  obtain ⟨a1, a2, a3, a4⟩ := v1 q hq
  have b := hy.1 p hpn
  have b2 := hy.1 q hq
  refine ⟨?_, a2, a3, ?_⟩
  · show (if q = p then y.2.1 p else btL n p y.1 q) ≤ 6
    split
    · exact b.2.2.1
    · exact a1
  · show (if q = p then y.2.2.1 p + 1 else y.2.2.1 q) ≤ y.2.2.2 1 + 1
    split <;> omega
theorem vanP_VX {n : Nat} {y : PW} (hn : n ≤ 5) (hy : VX n y) (h1 : y.2.2.2 1 < 200) : VX n (vanP n y) := by
  obtain ⟨v1, v2, v3, v4, v5, v6, v7, v8⟩ := bt1_VX (b := 9) hn hy h1
  exact ⟨v1, v2, v3, v4, v5, v6, v7, v8⟩
theorem runP_VX {n sp p : Nat} {pl : Nat → Nat} {x : PW} (hp : VP n sp pl) (hpn : p < n) (hx : VX n x) (h1 : x.2.2.2 1 + wayN sp (x.2.2.2 0) (pl p) + 1 ≤ 200) : VX n (runP n sp pl p x) := by
  have hy := pwy_VX hp hpn hx (by omega)
  have hb := pwy_beats n sp pl p x
  unfold runP
  split
  · exact spnP_VX hp.1 hpn hy (by omega)
  · exact vanP_VX hp.1 hy (by omega)
theorem setP_VX {n sp p : Nat} {pl : Nat → Nat} {x : PW} (hp : VP n sp pl) (hpn : p < n) (hx : VX n x) (h1 : x.2.2.2 1 + wayN sp (x.2.2.2 0) (pl p) + 1 ≤ 200) : VX n (setP n sp pl p x) := by
  have hy := pwy_VX hp hpn hx (by omega)
  have hb := pwy_beats n sp pl p x
  obtain ⟨v1, v2, v3, v4, v5, v6, v7, v8⟩ := bt1_VX (b := 9) hp.1 hy (by omega)
  refine ⟨fun q hq => ?_, v2, v3, v4, v5, v6, v7, v8⟩
  obtain ⟨a1, a2, a3, a4⟩ := v1 q hq
  have b := hx.1 p hpn
  refine ⟨?_, a2, a3, a4⟩
  show (if q = p then x.2.1 p else btL n 9 (pwy n sp pl p x).1 q) ≤ 6
  split
  · exact b.2.2.1
  · exact a1
theorem gstP_VX {n p : Nat} {x : PW} (hpn : p < n) (hx : VX n x) (h9 : x.2.2.2 9 < 100) : VX n (gstP p x) := by
  obtain ⟨v1, v2, v3, v4, v5, v6, v7, v8⟩ := hx
  refine ⟨fun q hq => ?_, v2, v3, v4, v5, v6, ?_, ?_⟩
  · obtain ⟨a1, a2, a3, a4⟩ := v1 q hq
    have := v1 p hpn
    refine ⟨?_, a2, a3, a4⟩
    show (if q = p then x.1 p - 1 else x.1 q) ≤ 6
    split <;> omega
  · show x.2.2.2 2 + (if x.1 p = 1 then 1 else 0) ≤ 5 * x.2.2.2 1 + (x.2.2.2 9 + 1)
    split <;> omega
  · show x.2.2.2 9 + 1 ≤ 100
    omega
theorem oilP_VX {n p : Nat} {x : PW} (hpn : p < n) (hx : VX n x) (h6 : x.2.1 p < 6) : VX n (oilP p x) := by
  obtain ⟨v1, v2, v3, v4, v5, v6, v7, v8⟩ := hx
  refine ⟨fun q hq => ?_, v2, v3, v4, v5, v6, v7, v8⟩
  obtain ⟨a1, a2, a3, a4⟩ := v1 q hq
  refine ⟨a1, ?_, ?_, a4⟩
  · show 1 ≤ (if q = p then x.2.1 p + 1 else x.2.1 q)
    split <;> omega
  · show (if q = p then x.2.1 p + 1 else x.2.1 q) ≤ 6
    split <;> omega
theorem bI9 : bI 9 = -1 := rfl
theorem bIp {p : Nat} (hp : p < 5) : bI p = nI p := by unfold bI; rw [if_neg (by omega)]
theorem passWay_wp {h : Hp} {n sp p : Nat} {pl : Nat → Nat} {x : PW} (hp : VP n sp pl) (hpn : p < n) (hx : VX n x) (cs : CS h n sp pl x) (h1 : x.2.2.2 1 + wayN sp (x.2.2.2 0) (pl p) ≤ 200) : WP (fX4_passWay (nI p) h) (fun _ h' => CS h' n sp pl (pwy n sp pl p x)) := by
  have hn := hp.1
  have hw := wayN_le hp.2.1 hx.2.1 (hp.2.2.2 p hpn)
  have hib : ib (nI p) 5 = true := ib_nI (by omega) (by decide)
  unfold fX4_passWay
  have r2 : rd h 2 0 2 = nI (x.2.2.2 0) := cs.2.2.2.1
  have r33 : ra h 33 9 (nI p) = nI (pl p) := by rw [ra_n (by omega)]; exact (cs.2.2.1 p hpn).1
  rw [ck_p hib, r2, r33, way8_eq (by decide) hp.2.1 hp.2.2.1 cs.1 hx.2.1 (hp.2.2.2 p hpn), bnd_eq]
  refine wp_for1 (wayN sp (x.2.2.2 0) (pl p)) (fun i h' => CS h' n sp pl (btk n i x)) ?_ ?_ FU h (i0 := 0) (by omega) (FUb (by omega)) cs
  · intro i h1' rec hi hI hrec
    unfold fX4_passWay_l23
    rw [if_neg (fun q => nI_ge hi (by omega) q)]
    refine wp_bnd (wp_mono (show WP (fX4_passBeat (-1) h1') _ from passBeat_wp (b := 9) hp (btk_VX hn i x hx (by omega)) hI (Or.inr rfl)) (fun _ h2 q => ?_))
    rw [lt_eq, nI_1]
    rw [btk_s] at q
    exact hrec _ q
  · intro h1' rec hI
    unfold fX4_passWay_l23
    rw [if_pos (nI_le (Nat.le_refl _) (by omega))]
    dsimp only
    obtain ⟨c1, c2, c3, d2, d3, d4, d5, d9, d11, d6, d10, d12⟩ := hI
    have es := btk_ES n (wayN sp (x.2.2.2 0) (pl p)) x
    rw [es.1, es.2] at c3
    rw [btk_c n 5 (by omega)] at d11
    have r11 : rd h1' 2 0 11 = nI (x.2.2.2 5) := d11
    rw [lt_eq, ck_p hib, r11, nI_add]
    have q33 : ra (wr h1' 2 0 11 (nI (x.2.2.2 5 + wayN sp (x.2.2.2 0) (pl p)))) 33 9 (nI p) = nI (pl p) := by rw [ra_n (by omega)]; exact (c3 p hpn).1
    rw [q33, lt_eq]
    exact wp_some ⟨c1, c2, c3, rfl, d3, d4, d5, d9, rfl, d6, d10, d12⟩
theorem runTo_wp {h : Hp} {n sp p : Nat} {pl : Nat → Nat} {x : PW} (hp : VP n sp pl) (hpn : p < n) (hx : VX n x) (cs : CS h n sp pl x) (h1 : x.2.2.2 1 + wayN sp (x.2.2.2 0) (pl p) + 1 ≤ 200) : WP (fX4_runTo (nI p) h) (fun _ h' => CS h' n sp pl (runP n sp pl p x)) := by
  have hn := hp.1
  have hib : ib (nI p) 5 = true := ib_nI (by omega) (by decide)
  have hy := pwy_VX hp hpn hx (by omega)
  unfold fX4_runTo runP
  refine wp_bnd (wp_mono (passWay_wp hp hpn hx cs (by omega)) (fun _ h2 cy => ?_))
  have r35 : ra h2 35 9 (nI p) = nI ((pwy n sp pl p x).1 p) := by rw [ra_n (by omega)]; exact (cy.2.2.1 p hpn).2.2.1
  have hL := (hy.1 p hpn).1
  rw [ck_p hib, r35]
  by_cases h0 : (pwy n sp pl p x).1 p = 0
  · rw [if_pos ((le0_n (by omega)).mpr h0), if_neg (by omega)]
    refine wp_bnd (wp_mono (show WP (fX4_passBeat (-1) h2) _ from passBeat_wp (b := 9) hp hy cy (Or.inr rfl)) (fun _ h3 q => ?_))
    obtain ⟨c1, c2, c3, d2, d3, d4, d5, d9, d11, d6, d10, d12⟩ := q
    have r9 : rd h3 2 0 9 = nI ((pwy n sp pl p x).2.2.2 4) := d9
    rw [lt_eq, r9, nI_1]
    exact wp_some ⟨c1, c2, c3, d2, d3, d4, d5, rfl, d11, d6, d10, d12⟩
  · rw [if_neg (fun q => h0 ((le0_n (by omega)).mp q)), if_pos (by omega)]
    refine wp_bnd (wp_mono (show WP (fX4_passBeat (nI p) h2) _ from by rw [← bIp (show p < 5 by omega)]; exact passBeat_wp (b := p) hp hy cy (Or.inl (by omega))) (fun _ h3 q => ?_))
    obtain ⟨c1, c2, c3, d2, d3, d4, d5, d9, d11, d6, d10, d12⟩ := q
    have r34 : ra h3 34 9 (nI p) = nI ((pwy n sp pl p x).2.1 p) := by rw [ra_n (by omega)]; exact (c3 p hpn).2.1
    rw [ck_p hib, ck_p hib, lt_eq, lt_eq, ck_p hib, ck_p hib, lt_eq, r34]
    have r5 : rd (wa h3 35 9 (nI p) (nI ((pwy n sp pl p x).2.1 p))) 2 0 5 = nI ((pwy n sp pl p x).2.2.2 3) := d5
    rw [r5, nI_1]
    have r24 : ra (wr (wa h3 35 9 (nI p) (nI ((pwy n sp pl p x).2.1 p))) 2 0 5 (nI ((pwy n sp pl p x).2.2.2 3 + 1))) 24 0 (nI p) = nI ((pwy n sp pl p x).2.2.1 p) := by rw [ra_n (by omega)]; exact (c3 p hpn).2.2.2
    rw [r24, nI_1]
    refine wp_some ⟨c1, c2, fun q hq => ⟨(c3 q hq).1, (c3 q hq).2.1, ?_, ?_⟩, d2, d3, d4, rfl, d9, d11, d6, d10, d12⟩
    · rw [wa_g, if_neg (by omega), wr_other (by decide), wa_g, nI_clamp (by omega), show 9 % cnt 35 = 9 from rfl]
      show _ = nI (if q = p then _ else _)
      by_cases hqp : q = p
      · rw [if_pos ⟨rfl, rfl, hqp⟩, if_pos hqp]
      · rw [if_neg (by omega), if_neg hqp]; exact (c3 q hq).2.2.1
    · rw [wa_g, nI_clamp (by omega), show 0 % cnt 24 = 0 from rfl]
      show _ = nI (if q = p then _ else _)
      by_cases hqp : q = p
      · rw [if_pos ⟨rfl, rfl, hqp⟩, if_pos hqp]
      · rw [if_neg (by omega), if_neg hqp, wr_other (by decide), wa_g, if_neg (by omega)]; exact (c3 q hq).2.2.2
theorem setUp_wp {h : Hp} {n sp p : Nat} {pl : Nat → Nat} {x : PW} (hp : VP n sp pl) (hpn : p < n) (hx : VX n x) (cs : CS h n sp pl x) (h1 : x.2.2.2 1 + wayN sp (x.2.2.2 0) (pl p) + 1 ≤ 200) : WP (fX4_setUp (nI p) h) (fun _ h' => CS h' n sp pl (setP n sp pl p x)) := by
  have hn := hp.1
  have hib : ib (nI p) 5 = true := ib_nI (by omega) (by decide)
  have hy := pwy_VX hp hpn hx (by omega)
  unfold fX4_setUp setP
  refine wp_bnd (wp_mono (passWay_wp hp hpn hx cs (by omega)) (fun _ h2 cy => ?_))
  refine wp_bnd (wp_mono (show WP (fX4_passBeat (-1) h2) _ from passBeat_wp (b := 9) hp hy cy (Or.inr rfl)) (fun _ h3 q => ?_))
  obtain ⟨c1, c2, c3, d2, d3, d4, d5, d9, d11, d6, d10, d12⟩ := q
  have r34 : ra h3 34 9 (nI p) = nI (x.2.1 p) := by rw [ra_n (by omega)]; exact (c3 p hpn).2.1
  rw [ck_p hib, ck_p hib, lt_eq, r34]
  refine wp_some ⟨c1, c2, fun q hq => ⟨(c3 q hq).1, (c3 q hq).2.1, ?_, (c3 q hq).2.2.2⟩, d2, d3, d4, d5, d9, d11, d6, d10, d12⟩
  rw [wa_g, nI_clamp (by omega), show 9 % cnt 35 = 9 from rfl]
  show _ = nI (if q = p then _ else _)
  by_cases hqp : q = p
  · rw [if_pos ⟨rfl, rfl, hqp⟩, if_pos hqp]
  · rw [if_neg (by omega), if_neg hqp]; exact (c3 q hq).2.2.1
theorem blowAt_wp {h : Hp} {n sp p : Nat} {pl : Nat → Nat} {x : PW} (hp : VP n sp pl) (hpn : p < n) (hx : VX n x) (cs : CS h n sp pl x) (h0 : 0 < x.1 p) : WP (fX4_blowAt (nI p) h) (fun _ h' => CS h' n sp pl (gstP p x)) := by
  have hn := hp.1
  have hib : ib (nI p) 5 = true := ib_nI (by omega) (by decide)
  have hL := (hx.1 p hpn).1
  unfold fX4_blowAt gstP
  obtain ⟨c1, c2, c3, d2, d3, d4, d5, d9, d11, d6, d10, d12⟩ := cs
  have r35 : ra h 35 9 (nI p) = nI (x.1 p) := by rw [ra_n (by omega)]; exact (c3 p hpn).2.2.1
  rw [ck_p hib, ck_p hib, lt_eq, ck_p hib, ra_wa, r35, show nI (x.1 p) - (1 : Int32) = nI (x.1 p - 1) from nI_sub (b := 1) (by omega)]
  have w35 : ∀ q, q < n → (wa h 35 9 (nI p) (nI (x.1 p - 1))).1 35 9 q = nI (updN x.1 p (x.1 p - 1) q) := by
    intro q hq
    rw [wa_g, nI_clamp (by omega), show 9 % cnt 35 = 9 from rfl]
    show _ = nI (if q = p then _ else _)
    by_cases hqp : q = p
    · rw [if_pos ⟨rfl, rfl, hqp⟩, if_pos hqp]
    · rw [if_neg (by omega), if_neg hqp]; exact (c3 q hq).2.2.1
  by_cases h1 : x.1 p = 1
  · rw [if_pos ((eq0_n (by omega)).mpr (by omega)), lt_eq]
    have r4 : rd (wa h 35 9 (nI p) (nI (x.1 p - 1))) 2 0 4 = nI (x.2.2.2 2) := d4
    rw [r4, nI_1, if_pos h1]
    exact wp_some ⟨c1, c2, fun q hq => ⟨(c3 q hq).1, (c3 q hq).2.1, w35 q hq, (c3 q hq).2.2.2⟩, d2, d3, rfl, d5, d9, d11, d6, d10, d12⟩
  · rw [if_neg (fun q => h1 (by have := (eq0_n (by omega)).mp q; omega)), if_neg h1]
    exact wp_some ⟨c1, c2, fun q hq => ⟨(c3 q hq).1, (c3 q hq).2.1, w35 q hq, (c3 q hq).2.2.2⟩, d2, d3, d4, d5, d9, d11, d6, d10, d12⟩
