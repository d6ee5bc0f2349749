/-! deeds: class -/
def mayB (n sp : Nat) (pl : Nat → Nat) (x : PW) (kd p : Nat) : Bool := if kd = 0 then decide (x.2.2.2 1 + 1 ≤ 99) else decide (p < n) && (if kd = 1 then decide (0 < x.1 p) && decide (x.2.2.2 1 + wayN sp (x.2.2.2 0) (pl p) + 1 ≤ 99) else if kd = 2 then decide (x.1 p = 0) && decide (x.2.2.2 1 + wayN sp (x.2.2.2 0) (pl p) + 1 ≤ 99) else if kd = 3 then decide (0 < x.1 p) else decide (x.2.1 p < 6))
def doN (n sp : Nat) (pl : Nat → Nat) (x : PW) (kd p : Nat) : PW := if kd = 0 then bt1 n 9 x else if kd = 1 then runP n sp pl p x else if kd = 2 then setP n sp pl p x else if kd = 3 then gstP p x else oilP p x
theorem wtZ (b : Bool) (h : Hp) : (if b = true then ck (zk 1) (some ((1 : Int32), h)) else ck (zk 0) (some (0, h))) = some (if b = true then 1 else 0, h) := by
  cases b <;> rfl
theorem may_eq {h : Hp} {n sp p kd : Nat} {pl : Nat → Nat} {x : PW} {P : Int32} (hp : VP n sp pl) (hx : VX n x) (cs : CS h n sp pl x) (hk : kd ≤ 4) (hP : kd = 0 ∨ (P = nI p ∧ p < 5)) : fX4_may (nI kd) P h = some (if mayB n sp pl x kd p = true then 1 else 0, h) := by
  have hn := hp.1
  have hb := hx.2.2.1
  unfold fX4_may mayB
  have r3 : rd h 2 0 3 = nI (x.2.2.2 1) := cs.2.2.2.2.1
  have hz : ∀ z : Int32, zk z = true → ck (zk z) (some (z, h)) = some (z, h) := fun z hz => ck_p hz _
  by_cases h0 : kd = 0
  · rw [if_pos (show nI kd = 0 by rw [h0]; rfl), r3, nI_1, if_pos h0]
    by_cases h9 : x.2.2.2 1 + 1 ≤ 99
    · rw [if_neg (fun q => by have := (lt_n (a := 99) (by decide) (by omega)).mp q; omega), if_pos (decide_eq_true h9)]; rfl
    · rw [if_pos (show (99 : Int32) < nI (x.2.2.2 1 + 1) from nI_lt (a := 99) (by omega) (by omega)), if_neg (by simpa using h9)]; rfl
  · obtain ⟨rfl, hp5⟩ := hP.resolve_left h0
    have hk0 : ¬ nI kd = 0 := fun q => h0 ((eq0_n (by omega)).mp q)
    rw [if_neg hk0, if_neg h0, has8_eq (by decide) cs.2.1, bnd_eq]
    by_cases hpn : p < n
    · obtain ⟨a1, a2, a3, a4⟩ := cs.2.2.1 p hpn
      obtain ⟨b1, b2, b3, b4⟩ := hx.1 p hpn
      have hw := wayN_le hp.2.1 hx.2.1 (hp.2.2.2 p hpn)
      have hib : ib (nI p) 5 = true := ib_nI (by omega) (by decide)
      have r35 : ra h 35 9 (nI p) = nI (x.1 p) := by rw [ra_n (by omega)]; exact a3
      have r34 : ra h 34 9 (nI p) = nI (x.2.1 p) := by rw [ra_n (by omega)]; exact a2
      have r33 : ra h 33 9 (nI p) = nI (pl p) := by rw [ra_n (by omega)]; exact a1
      have r2 : rd h 2 0 2 = nI (x.2.2.2 0) := cs.2.2.2.1
      rw [if_neg (in_no hpn (by omega)), if_neg ne10, ck_p hib, jn_eq, r35, decide_eq_true hpn, Bool.true_and]
      have core : ∀ z : Int32, z = (if 0 < x.1 p then 1 else 0) → (ck (ib (nI p) 5) (
          bnd (fX8_way 9 (rd h 2 0 2) (ra h 33 9 (nI p)) h) fun x6 h5 =>
          lt (((rd h 2 0 3) + x6) + (1 : Int32)) fun x7 =>
          if nI kd = 1 then (jn (κ := Hp → Option (Int32 × Hp)) (fun h10 => ck (zk 0) (some (0, h10))) fun k127_8 =>
          if z = 0 then (k127_8 h5)
          else (if (99 : Int32) < x7 then (k127_8 h5)
          else (ck (zk 1) (some (1, h5)))))
          else if nI kd = 2 then (jn (κ := Hp → Option (Int32 × Hp)) (fun h13 => ck (zk 0) (some (0, h13))) fun k144_11 =>
          if z = 0 then (if (99 : Int32) < x7 then (k144_11 h5)
          else (ck (zk 1) (some (1, h5))))
          else (k144_11 h5))
          else if nI kd = 3 then (ck (zk z) (some (z, h5)))
          else if nI kd = 4 then (ck (ib (nI p) 5) (
          if (6 : Int32) ≤ (ra h5 34 9 (nI p)) then (ck (zk 0) (some (0, h5)))
          else (ck (zk 1) (some (1, h5)))))
          else (ck (zk 0) (some (0, h5))))) = some (if (if kd = 1 then decide (0 < x.1 p) && decide (x.2.2.2 1 + wayN sp (x.2.2.2 0) (pl p) + 1 ≤ 99) else if kd = 2 then decide (x.1 p = 0) && decide (x.2.2.2 1 + wayN sp (x.2.2.2 0) (pl p) + 1 ≤ 99) else if kd = 3 then decide (0 < x.1 p) else decide (x.2.1 p < 6)) = true then 1 else 0, h) := by
        intro z hz
        rw [ck_p hib, r2, r33, way8_eq (by decide) hp.2.1 hp.2.2.1 cs.1 hx.2.1 (hp.2.2.2 p hpn), bnd_eq, lt_eq, r3, nI_add, nI_1]
        have q99 : ((99 : Int32) < nI (x.2.2.2 1 + wayN sp (x.2.2.2 0) (pl p) + 1)) ↔ 99 < x.2.2.2 1 + wayN sp (x.2.2.2 0) (pl p) + 1 := lt_n (a := 99) (by decide) (by omega)
        have z0 : (z = 0) ↔ x.1 p = 0 := by
          rw [hz]
          by_cases h : 0 < x.1 p
          · rw [if_pos h]
            exact ⟨fun w => absurd w (by decide), fun w => by omega⟩
          · rw [if_neg h]
            exact ⟨fun _ => by omega, fun _ => rfl⟩
        rcases (show kd = 1 ∨ kd = 2 ∨ kd = 3 ∨ kd = 4 by omega) with rfl | rfl | rfl | rfl
        · rw [if_pos (show nI 1 = 1 from rfl), jn_eq, if_pos rfl]
          by_cases g1 : x.1 p = 0
          · rw [if_pos (z0.mpr g1), if_neg (by simp [g1])]; rfl
          · rw [if_neg (fun w => g1 (z0.mp w))]
            by_cases g2 : 99 < x.2.2.2 1 + wayN sp (x.2.2.2 0) (pl p) + 1
            · rw [if_pos (q99.mpr g2), if_neg (by simp; omega)]; rfl
            · rw [if_neg (fun w => g2 (q99.mp w)), if_pos (by simp; omega)]; rfl
        · rw [if_neg (show ¬ nI 2 = 1 by decide), if_pos (show nI 2 = 2 from rfl), jn_eq, if_neg (show ¬ 2 = 1 by decide), if_pos rfl]
          by_cases g1 : x.1 p = 0
          · rw [if_pos (z0.mpr g1)]
            by_cases g2 : 99 < x.2.2.2 1 + wayN sp (x.2.2.2 0) (pl p) + 1
            · rw [if_pos (q99.mpr g2), if_neg (by simp; omega)]; rfl
            · rw [if_neg (fun w => g2 (q99.mp w)), if_pos (by simp; omega)]; rfl
          · rw [if_neg (fun w => g1 (z0.mp w)), if_neg (by simp [g1])]; rfl
        · rw [if_neg (show ¬ nI 3 = 1 by decide), if_neg (show ¬ nI 3 = 2 by decide), if_pos (show nI 3 = 3 from rfl), if_neg (show ¬ 3 = 1 by decide), if_neg (show ¬ 3 = 2 by decide), if_pos rfl]
          by_cases g1 : 0 < x.1 p
          · rw [hz, if_pos g1, if_pos (decide_eq_true g1)]; rfl
          · rw [hz, if_neg g1, if_neg (by simpa using g1)]; rfl
        · rw [if_neg (show ¬ nI 4 = 1 by decide), if_neg (show ¬ nI 4 = 2 by decide), if_neg (show ¬ nI 4 = 3 by decide), if_pos (show nI 4 = 4 from rfl), if_neg (show ¬ 4 = 1 by decide), if_neg (show ¬ 4 = 2 by decide), if_neg (show ¬ 4 = 3 by decide), ck_p hib, r34]
          by_cases g1 : x.2.1 p < 6
          · rw [if_neg (show ¬ (6 : Int32) ≤ nI (x.2.1 p) from fun w => nI_ge g1 (by decide) w), if_pos (decide_eq_true g1)]; rfl
          · rw [if_pos (show (6 : Int32) ≤ nI (x.2.1 p) from nI_le (a := 6) (by omega) (by omega)), if_neg (by simpa using g1)]; rfl
      by_cases g : x.1 p = 0
      · rw [if_pos ((le0_n (by omega)).mpr g)]
        exact core 0 (by rw [if_neg (by omega)])
      · rw [if_neg (fun w => g ((le0_n (by omega)).mp w))]
        exact core 1 (by rw [if_pos (by omega)])
    · rw [if_pos (Or.inr (nI_le (by omega) (by omega))), if_pos rfl, if_neg (by simp [hpn])]; rfl
theorem perform_wp {h : Hp} {n sp p kd : Nat} {pl : Nat → Nat} {x : PW} {P : Int32} (hp : VP n sp pl) (hx : VX n x) (cs : CS h n sp pl x) (hk : kd ≤ 4) (hP : kd = 0 ∨ (P = nI p ∧ p < 5)) (hm : mayB n sp pl x kd p = true) : WP (fX4_perform (nI kd) P h) (fun _ h' => CS h' n sp pl (doN n sp pl x kd p)) := by
  have hn := hp.1
  unfold fX4_perform doN
  unfold mayB at hm
  by_cases h0 : kd = 0
  · rw [if_pos (show nI kd = 0 by rw [h0]; rfl), if_pos h0]
    exact wp_bnd (wp_mono (show WP (fX4_passBeat (-1) h) _ from passBeat_wp (b := 9) hp hx cs (Or.inr rfl)) (fun _ h3 q => wp_some q))
  · obtain ⟨rfl, hp5⟩ := hP.resolve_left h0
    have hk0 : ¬ nI kd = 0 := fun q => h0 ((eq0_n (by omega)).mp q)
    rw [if_neg h0, Bool.and_eq_true, decide_eq_true_eq] at hm
    obtain ⟨hpn, hm⟩ := hm
    have hib : ib (nI p) 5 = true := ib_nI (by omega) (by decide)
    rw [if_neg hk0, if_neg h0, has8_eq (by decide) cs.2.1, bnd_eq, if_neg (in_no hpn (by omega)), if_neg ne10]
    rcases (show kd = 1 ∨ kd = 2 ∨ kd = 3 ∨ kd = 4 by omega) with rfl | rfl | rfl | rfl
    · rw [if_pos rfl, Bool.and_eq_true, decide_eq_true_eq, decide_eq_true_eq] at hm
      rw [if_pos (show nI 1 = 1 from rfl), if_pos rfl]
      exact wp_bnd (wp_mono (runTo_wp hp hpn hx cs (by omega)) (fun _ h3 q => wp_some q))
    · rw [if_neg (by decide), if_pos rfl, Bool.and_eq_true, decide_eq_true_eq, decide_eq_true_eq] at hm
      rw [if_neg (show ¬ nI 2 = 1 by decide), if_pos (show nI 2 = 2 from rfl), if_neg (show ¬ 2 = 1 by decide), if_pos rfl]
      exact wp_bnd (wp_mono (setUp_wp hp hpn hx cs (by omega)) (fun _ h3 q => wp_some q))
    · rw [if_neg (by decide), if_neg (by decide), if_pos rfl, decide_eq_true_eq] at hm
      rw [if_neg (show ¬ nI 3 = 1 by decide), if_neg (show ¬ nI 3 = 2 by decide), if_pos (show nI 3 = 3 from rfl), if_neg (show ¬ 3 = 1 by decide), if_neg (show ¬ 3 = 2 by decide), if_pos rfl]
      exact wp_bnd (wp_mono (blowAt_wp hp hpn hx cs hm) (fun _ h3 q => wp_some q))
    · obtain ⟨c1, c2, c3, d2, d3, d4, d5, d9, d11, d6, d10, d12⟩ := cs
      have r34 : ra h 34 9 (nI p) = nI (x.2.1 p) := by rw [ra_n (by omega)]; exact (c3 p hpn).2.1
      rw [if_neg (show ¬ nI 4 = 1 by decide), if_neg (show ¬ nI 4 = 2 by decide), if_neg (show ¬ nI 4 = 3 by decide), if_neg (show ¬ 4 = 1 by decide), if_neg (show ¬ 4 = 2 by decide), if_neg (show ¬ 4 = 3 by decide), ck_p hib, ck_p hib, lt_eq, r34, nI_1]
      refine wp_some ⟨c1, c2, fun q hq => ⟨(c3 q hq).1, ?_, (c3 q hq).2.2.1, (c3 q hq).2.2.2⟩, d2, d3, d4, d5, d9, d11, d6, d10, d12⟩
      rw [wa_g, nI_clamp (by omega), show 9 % cnt 34 = 9 from rfl]
      show _ = nI (if q = p then _ else _)
      by_cases hqp : q = p
      · rw [if_pos ⟨rfl, rfl, hqp⟩, if_pos hqp]
      · rw [if_neg (by omega), if_neg hqp]; exact (c3 q hq).2.1
theorem doN_VX {n sp p kd : Nat} {pl : Nat → Nat} {x : PW} (hp : VP n sp pl) (hx : VX n x) (h9 : x.2.2.2 9 < 100) (hm : mayB n sp pl x kd p = true) : VX n (doN n sp pl x kd p) := by
  unfold doN
  unfold mayB at hm
  by_cases h0 : kd = 0
  · rw [if_pos h0, decide_eq_true_eq] at hm
    rw [if_pos h0]
    exact bt1_VX hp.1 hx (by omega)
  · rw [if_neg h0, Bool.and_eq_true, decide_eq_true_eq] at hm
    obtain ⟨hpn, hm⟩ := hm
    rw [if_neg h0]
    by_cases h1 : kd = 1
    · rw [if_pos h1, Bool.and_eq_true, decide_eq_true_eq, decide_eq_true_eq] at hm
      rw [if_pos h1]
      exact runP_VX hp hpn hx (by omega)
    · rw [if_neg h1] at hm
      rw [if_neg h1]
      by_cases h2 : kd = 2
      · rw [if_pos h2, Bool.and_eq_true, decide_eq_true_eq, decide_eq_true_eq] at hm
        rw [if_pos h2]
        exact setP_VX hp hpn hx (by omega)
      · rw [if_neg h2] at hm
        rw [if_neg h2]
        by_cases h3 : kd = 3
        · rw [if_pos h3]
          exact gstP_VX hpn hx h9
        · rw [if_neg h3, decide_eq_true_eq] at hm
          rw [if_neg h3]
          exact oilP_VX hpn hx hm
theorem pwy_c9 (n sp : Nat) (pl : Nat → Nat) (p : Nat) (x : PW) : (pwy n sp pl p x).2.2.2 9 = x.2.2.2 9 := btk_c n 9 (by omega) _ x
theorem doN_c9 (n sp : Nat) (pl : Nat → Nat) (x : PW) (kd p : Nat) : (doN n sp pl x kd p).2.2.2 9 ≤ x.2.2.2 9 + 1 := by
  have h := pwy_c9 n sp pl p x
  unfold doN
  split
  · show x.2.2.2 9 ≤ _; omega
  · split
    · unfold runP
      split
      · show (pwy n sp pl p x).2.2.2 9 ≤ _; omega
      · show (pwy n sp pl p x).2.2.2 9 ≤ _; omega
    · split
      · show (pwy n sp pl p x).2.2.2 9 ≤ _; omega
      · split
        · show x.2.2.2 9 + 1 ≤ _; omega
        · show x.2.2.2 9 ≤ _; omega
