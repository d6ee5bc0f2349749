/-! deeds: the reference -/
theorem isLate_eq {h : Hp} {c t : Nat} (hc : c ≤ 200) (ht : t ≤ 20) (e : h.1 10 0 30 = nI c) : fX12_isLate (nI t) h = some (if c + t ≤ 99 then 0 else 1, h) := by
  unfold fX12_isLate
  have r : rd h 10 0 30 = nI c := e
  rw [r, nI_add]
  by_cases q : c + t ≤ 99
  · rw [if_pos (show nI (c + t) ≤ 99 from nI_le (b := 99) q (by decide)), if_pos q]; rfl
  · rw [if_neg (show ¬ nI (c + t) ≤ 99 from fun w => q ((le_n (b := 99) (by omega) (by decide)).mp w)), if_neg q]; rfl
theorem bt1_hi (n b : Nat) (x : PW) (t : Nat) : (bt1 n b x).2.2.2 (100 + t) = if 100 + t = 101 + x.2.2.2 1 then sbN (btL n b x.1) n else x.2.2.2 (100 + t) := by
  show (if 100 ≤ 100 + t then _ else _) = _
  rw [if_pos (by omega)]
theorem pwy_hi (n sp : Nat) (pl : Nat → Nat) (p : Nat) (x : PW) (t : Nat) : (pwy n sp pl p x).2.2.2 (100 + t) = (btk n (wayN sp (x.2.2.2 0) (pl p)) x).2.2.2 (100 + t) := by
  show (if 100 + t = 0 then _ else if 100 + t = 5 then _ else _) = _
  rw [if_neg (by omega), if_neg (by omega)]
theorem run_wp {h : Hp} {n sp p : Nat} {pl : Nat → Nat} {x : PW} (hp : VP n sp pl) (hpn : p < n) (hx : VX n x) (ms : MS h n sp pl x) : WP (fX12_run (nI p) h) (fun r h' => (mayB n sp pl x 1 p = true ∧ r = 1 ∧ MS h' n sp pl (runP n sp pl p x)) ∨ (mayB n sp pl x 1 p = false ∧ r = 0 ∧ h' = h)) := by
  have hn := hp.1
  have hw := wayN_le hp.2.1 hx.2.1 (hp.2.2.2 p hpn)
  have hib : ib (nI p) 5 = true := ib_nI (by omega) (by decide)
  have hL := (hx.1 p hpn).1
  have hb := hx.2.2.1
  unfold fX12_run
  have r29 : rd h 10 0 29 = nI (x.2.2.2 0) := ms.2.2.2.1
  have r53 : ra h 53 0 (nI p) = nI (pl p) := by rw [ra_n (by omega)]; exact (ms.2.2.1 p hpn).1
  have r63 : ra h 63 0 (nI p) = nI (x.1 p) := by rw [ra_n (by omega)]; exact (ms.2.2.1 p hpn).2.2.1
  rw [ck_p hib, r29, r53, way12_eq hp.2.1 hp.2.2.1 ms.1 hx.2.1 (hp.2.2.2 p hpn), bnd_eq, lt_eq, ck_p hib, r63, nI_1]
  have mB : mayB n sp pl x 1 p = (decide (0 < x.1 p) && decide (x.2.2.2 1 + wayN sp (x.2.2.2 0) (pl p) + 1 ≤ 99)) := by
    unfold mayB
    rw [if_neg (by decide), if_pos rfl, decide_eq_true hpn, Bool.true_and]
  by_cases h0 : x.1 p = 0
  · rw [if_pos ((eq0_n (by omega)).mpr h0), ck_p zk_0]
    exact wp_some (Or.inr ⟨by rw [mB]; simp [h0], rfl, rfl⟩)
  rw [if_neg (fun q => h0 ((eq0_n (by omega)).mp q)), isLate_eq hb (by omega) ms.2.2.2.2.1, bnd_eq]
  by_cases hl : x.2.2.2 1 + (wayN sp (x.2.2.2 0) (pl p) + 1) ≤ 99
  · rw [if_pos hl, if_pos rfl]
    have hmt : mayB n sp pl x 1 p = true := by rw [mB]; simp; omega
    have hy := btk_VX hn (wayN sp (x.2.2.2 0) (pl p)) x hx (by omega)
    refine wp_for1 (wayN sp (x.2.2.2 0) (pl p) + 1) (fun i h' => MS h' n sp pl (btk n (i - 1) x) ∧ 1 ≤ i) ?_ ?_ FU h (i0 := 1) (by omega) (FUb (by omega)) ⟨ms, by omega⟩
    · rintro i h1' rec hi ⟨hI, hi1⟩ hrec
      unfold fX12_run_l38
      rw [if_neg (fun q => nI_ge hi (by omega) q)]
      refine wp_bnd (wp_mono (show WP (fX12_beat (-1) h1') _ from beat_wp (b := 9) hp (btk_VX hn (i - 1) x hx (by omega)) hI (Or.inr rfl)) (fun _ h2 q => ?_))
      rw [lt_eq, nI_1]
      rw [btk_s, show i - 1 + 1 = i + 1 - 1 by omega] at q
      exact hrec _ ⟨q, by omega⟩
    · rintro h8 rec ⟨hI, -⟩
      unfold fX12_run_l38
      rw [if_pos (nI_le (Nat.le_refl _) (by omega))]
      dsimp only
      rw [Nat.add_sub_cancel] at hI
      have r63' : ra h8 63 0 (nI p) = nI ((btk n (wayN sp (x.2.2.2 0) (pl p)) x).1 p) := by rw [ra_n (by omega)]; exact (hI.2.2.1 p hpn).2.2.1
      have hL' := (hy.1 p hpn).1
      have es := btk_ES n (wayN sp (x.2.2.2 0) (pl p)) x
      have k0 := btk_c n 0 (by omega) (wayN sp (x.2.2.2 0) (pl p)) x
      have k3 := btk_c n 3 (by omega) (wayN sp (x.2.2.2 0) (pl p)) x
      have k4 := btk_c n 4 (by omega) (wayN sp (x.2.2.2 0) (pl p)) x
      have k5 := btk_c n 5 (by omega) (wayN sp (x.2.2.2 0) (pl p)) x
      have kb := btk_beats n (wayN sp (x.2.2.2 0) (pl p)) x
      have hx3 : nI (wayN sp (x.2.2.2 0) (pl p) + 1) - (1 : Int32) = nI (wayN sp (x.2.2.2 0) (pl p)) := nI_sub (b := 1) (by omega)
      rw [ck_p hib, jn_eq, r63', hx3]
      by_cases g : (btk n (wayN sp (x.2.2.2 0) (pl p)) x).1 p = 0
      · rw [if_pos ((le0_n (by omega)).mpr g)]
        dsimp only
        rw [jn_eq, if_pos rfl]
        dsimp only
        refine wp_bnd (wp_mono (show WP (fX12_beat (-1) h8) _ from beat_wp (b := 9) hp hy hI (Or.inr rfl)) (fun _ h13 q => ?_))
        obtain ⟨c1, c2, c3, d29, d30, d31, d32, d33, d34, d35, d36, d37, d57⟩ := q
        rw [jn_eq, if_pos rfl]
        dsimp only
        rw [ck_p hib, lt_eq, jn_eq, if_pos rfl]
        dsimp only
        have e32 : rd (wa h13 63 0 (nI p) 0) 10 0 32 = nI (x.2.2.2 3) := d32.trans (congrArg nI k3)
        rw [lt_eq, e32, show nI (x.2.2.2 3) + (0 : Int32) = nI (x.2.2.2 3) from nI_add _ 0, ck_p hib, jn_eq, if_pos rfl]
        dsimp only
        have e56 : ra (wr (wa h13 63 0 (nI p) 0) 10 0 32 (nI (x.2.2.2 3))) 56 0 (nI p) = nI (x.2.2.1 p) := by rw [ra_n (by omega)]; exact (c3 p hpn).2.2.2.trans (by show nI ((btk n (wayN sp (x.2.2.2 0) (pl p)) x).2.2.1 p) = _; rw [es.2])
        rw [ck_p hib, lt_eq, e56, show nI (x.2.2.1 p) + (0 : Int32) = nI (x.2.2.1 p) from nI_add _ 0, jn_eq, if_pos rfl]
        dsimp only
        have e33 : rd (wa (wr (wa h13 63 0 (nI p) 0) 10 0 32 (nI (x.2.2.2 3))) 56 0 (nI p) (nI (x.2.2.1 p))) 10 0 33 = nI (x.2.2.2 4) := d33.trans (congrArg nI k4)
        rw [lt_eq, e33, nI_1, lt_eq]
        have e34 : rd (wr (wa (wr (wa h13 63 0 (nI p) 0) 10 0 32 (nI (x.2.2.2 3))) 56 0 (nI p) (nI (x.2.2.1 p))) 10 0 33 (nI (x.2.2.2 4 + 1))) 10 0 34 = nI (x.2.2.2 5) := d34.trans (congrArg nI k5)
        rw [e34, nI_add, ck_p hib]
        have e53 : ra (wr (wr (wa (wr (wa h13 63 0 (nI p) 0) 10 0 32 (nI (x.2.2.2 3))) 56 0 (nI p) (nI (x.2.2.1 p))) 10 0 33 (nI (x.2.2.2 4 + 1))) 10 0 34 (nI (x.2.2.2 5 + wayN sp (x.2.2.2 0) (pl p)))) 53 0 (nI p) = nI (pl p) := by rw [ra_n (by omega)]; exact (c3 p hpn).1
        rw [e53, lt_eq, ck_p zk_1]
        refine wp_some (Or.inl ⟨hmt, rfl, ?_⟩)
        unfold runP
        have g' : ¬ 0 < (pwy n sp pl p x).1 p := by show ¬ 0 < (btk n (wayN sp (x.2.2.2 0) (pl p)) x).1 p; omega
        rw [if_neg g']
        have hE : (vanP n (pwy n sp pl p x)).2.1 = x.2.1 := rfl
        refine ⟨c1, c2, fun q hq => ⟨(c3 q hq).1, ?_, ?_, ?_⟩, rfl, d30, d31, congrArg nI k3.symm, congrArg (fun z => nI (z + 1)) k4.symm, rfl, d35, d36, d37, fun t ht ht2 => ?_⟩
        · refine (c3 q hq).2.1.trans ?_
          show nI ((btk n (wayN sp (x.2.2.2 0) (pl p)) x).2.1 q) = _
          rw [es.1]; rfl
        · rw [wr_other (by decide), wr_other (by decide), wr_other (by decide), wa_g, if_neg (by omega), wr_other (by decide), wa_g, nI_clamp (by omega), show 0 % cnt 63 = 0 from rfl]
          by_cases hqp : q = p
          · rw [if_pos ⟨rfl, rfl, hqp⟩]
            show (0 : Int32) = nI (btL n 9 (btk n (wayN sp (x.2.2.2 0) (pl p)) x).1 q)
            unfold btL
            rw [hqp, g]
            split <;> rfl
          · rw [if_neg (by omega)]; exact (c3 q hq).2.2.1
        · rw [wr_other (by decide), wr_other (by decide), wr_other (by decide), wa_g, nI_clamp (by omega), show 0 % cnt 56 = 0 from rfl]
          by_cases hqp : q = p
          · rw [if_pos ⟨rfl, rfl, hqp⟩, hqp]; rfl
          · rw [if_neg (by omega), wr_other (by decide), wa_g, if_neg (by omega)]
            refine (c3 q hq).2.2.2.trans ?_
            show nI ((btk n (wayN sp (x.2.2.2 0) (pl p)) x).2.2.1 q) = _
            rw [es.2]; rfl
        · refine (d57 t ht ht2).trans (congrArg nI ?_)
          show (bt1 n 9 (btk n (wayN sp (x.2.2.2 0) (pl p)) x)).2.2.2 (100 + t) = (if 100 + t = 4 then _ else (bt1 n 9 (pwy n sp pl p x)).2.2.2 (100 + t))
          rw [if_neg (by omega)]
          rw [bt1_hi, bt1_hi]
          by_cases q : 100 + t = 101 + (btk n (wayN sp (x.2.2.2 0) (pl p)) x).2.2.2 1
          · rw [if_pos q, if_pos (show 100 + t = 101 + (pwy n sp pl p x).2.2.2 1 from q)]; rfl
          · rw [if_neg q, if_neg (show ¬ 100 + t = 101 + (pwy n sp pl p x).2.2.2 1 from q), pwy_hi]
      · rw [if_neg (fun w => g ((le0_n (by omega)).mp w))]
        dsimp only
        rw [jn_eq, if_neg ne10]
        dsimp only
        refine wp_bnd (wp_mono (show WP (fX12_beat (nI p) h8) _ from by rw [← bIp (show p < 5 by omega)]; exact beat_wp (b := p) hp hy hI (Or.inl (by omega))) (fun _ h13 q => ?_))
        obtain ⟨c1, c2, c3, d29, d30, d31, d32, d33, d34, d35, d36, d37, d57⟩ := q
        have e54 : ra h13 54 0 (nI p) = nI (x.2.1 p) := by rw [ra_n (by omega)]; exact (c3 p hpn).2.1.trans (by show nI ((btk n (wayN sp (x.2.2.2 0) (pl p)) x).2.1 p) = _; rw [es.1])
        rw [jn_eq, if_neg ne10, ck_p hib, e54]
        dsimp only
        rw [ck_p hib, lt_eq, jn_eq, if_neg ne10]
        dsimp only
        have e32 : rd (wa h13 63 0 (nI p) (nI (x.2.1 p))) 10 0 32 = nI (x.2.2.2 3) := d32.trans (congrArg nI k3)
        rw [lt_eq, e32, nI_1, ck_p hib, jn_eq, if_neg ne10]
        dsimp only
        have e56 : ra (wr (wa h13 63 0 (nI p) (nI (x.2.1 p))) 10 0 32 (nI (x.2.2.2 3 + 1))) 56 0 (nI p) = nI (x.2.2.1 p) := by rw [ra_n (by omega)]; exact (c3 p hpn).2.2.2.trans (by show nI ((btk n (wayN sp (x.2.2.2 0) (pl p)) x).2.2.1 p) = _; rw [es.2])
        rw [ck_p hib, lt_eq, e56, nI_1, jn_eq, if_neg ne10]
        dsimp only
        have e33 : rd (wa (wr (wa h13 63 0 (nI p) (nI (x.2.1 p))) 10 0 32 (nI (x.2.2.2 3 + 1))) 56 0 (nI p) (nI (x.2.2.1 p + 1))) 10 0 33 = nI (x.2.2.2 4) := d33.trans (congrArg nI k4)
        rw [lt_eq, e33, show nI (x.2.2.2 4) + (0 : Int32) = nI (x.2.2.2 4) from nI_add _ 0, lt_eq]
        have e34 : rd (wr (wa (wr (wa h13 63 0 (nI p) (nI (x.2.1 p))) 10 0 32 (nI (x.2.2.2 3 + 1))) 56 0 (nI p) (nI (x.2.2.1 p + 1))) 10 0 33 (nI (x.2.2.2 4))) 10 0 34 = nI (x.2.2.2 5) := d34.trans (congrArg nI k5)
        rw [e34, nI_add, ck_p hib]
        have e53 : ra (wr (wr (wa (wr (wa h13 63 0 (nI p) (nI (x.2.1 p))) 10 0 32 (nI (x.2.2.2 3 + 1))) 56 0 (nI p) (nI (x.2.2.1 p + 1))) 10 0 33 (nI (x.2.2.2 4))) 10 0 34 (nI (x.2.2.2 5 + wayN sp (x.2.2.2 0) (pl p)))) 53 0 (nI p) = nI (pl p) := by rw [ra_n (by omega)]; exact (c3 p hpn).1
        rw [e53, lt_eq, ck_p zk_1]
        refine wp_some (Or.inl ⟨hmt, rfl, ?_⟩)
        unfold runP
        have g' : 0 < (pwy n sp pl p x).1 p := by show 0 < (btk n (wayN sp (x.2.2.2 0) (pl p)) x).1 p; omega
        rw [if_pos g']
        refine ⟨c1, c2, fun q hq => ⟨(c3 q hq).1, ?_, ?_, ?_⟩, rfl, d30, d31, congrArg (fun z => nI (z + 1)) k3.symm, congrArg nI k4.symm, rfl, d35, d36, d37, fun t ht ht2 => ?_⟩
        · refine (c3 q hq).2.1.trans ?_
          show nI ((btk n (wayN sp (x.2.2.2 0) (pl p)) x).2.1 q) = _
          rw [es.1]; rfl
        · rw [wr_other (by decide), wr_other (by decide), wr_other (by decide), wa_g, if_neg (by omega), wr_other (by decide), wa_g, nI_clamp (by omega), show 0 % cnt 63 = 0 from rfl]
          show _ = nI (if q = p then x.2.1 p else btL n p (btk n (wayN sp (x.2.2.2 0) (pl p)) x).1 q)
          by_cases hqp : q = p
          · rw [if_pos ⟨rfl, rfl, hqp⟩, if_pos hqp]
          · rw [if_neg (by omega), if_neg hqp]; exact (c3 q hq).2.2.1
        · rw [wr_other (by decide), wr_other (by decide), wr_other (by decide), wa_g, nI_clamp (by omega), show 0 % cnt 56 = 0 from rfl]
          show _ = nI (if q = p then x.2.2.1 p + 1 else x.2.2.1 q)
          by_cases hqp : q = p
          · rw [if_pos ⟨rfl, rfl, hqp⟩, if_pos hqp]
          · rw [if_neg (by omega), if_neg hqp, wr_other (by decide), wa_g, if_neg (by omega)]
            refine (c3 q hq).2.2.2.trans ?_
            show nI ((btk n (wayN sp (x.2.2.2 0) (pl p)) x).2.2.1 q) = _
            rw [es.2]
        · refine (d57 t ht ht2).trans (congrArg nI ?_)
          show (bt1 n p (btk n (wayN sp (x.2.2.2 0) (pl p)) x)).2.2.2 (100 + t) = (if 100 + t = 3 then _ else (bt1 n p (pwy n sp pl p x)).2.2.2 (100 + t))
          rw [if_neg (by omega)]
          rw [bt1_hi, bt1_hi]
          by_cases q : 100 + t = 101 + (btk n (wayN sp (x.2.2.2 0) (pl p)) x).2.2.2 1
          · rw [if_pos q, if_pos (show 100 + t = 101 + (pwy n sp pl p x).2.2.2 1 from q)]; rfl
          · rw [if_neg q, if_neg (show ¬ 100 + t = 101 + (pwy n sp pl p x).2.2.2 1 from q), pwy_hi]
  · rw [if_neg hl, if_neg ne10, ck_p zk_0]
    exact wp_some (Or.inr ⟨by rw [mB]; simp; omega, rfl, rfl⟩)
