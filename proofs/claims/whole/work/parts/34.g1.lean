/-! deed, log -/
theorem has7_eq {h : Hp} {s n : Nat} (hs : s < 9) (hn : h.1 5 s 0 = nI n) (x : Int32) : fX7_has s x h = some (if x < 0 ∨ nI n ≤ x then 0 else 1, h) := by
  unfold fX7_has
  simp only [jn_eq, zk_0, zk_1, ck_t]
  have e : rd h 5 s 0 = nI n := by
    show h.1 5 (s % 9) 0 = _
    rw [Nat.mod_eq_of_lt hs]; exact hn
  rw [e]
  by_cases h1 : x < 0
  · simp [h1]
  · by_cases h2 : nI n ≤ x
    · simp [h1, h2]
    · simp [h1, h2]
def ddAns (n : Nat) (kd : Nat → Nat) (pt : Nat → Int32) (k w : Int32) : Int32 := if k = -1 then (if w = 0 then nI n else -2) else if k < 0 ∨ nI n ≤ k then -2 else if w = 0 then nI (kd k.toNatClampNeg) else if w = 1 then pt k.toNatClampNeg else -2
theorem deedC_eq {h : Hp} {j c n : Nat} {kd : Nat → Nat} {pt : Nat → Int32} (e0 : h.1 37 0 1 = nI c) (v0 : c ≤ 2) (hj : j < c) (hv : HV n kd pt) (hcs : CSh h j n kd pt) (k w : Int32) : fX11_deed (nI j) k w h = some (ddAns n kd pt k w, h) := by
  have hj9 : j < 9 := by omega
  have hn40 := hv.1
  unfold fX11_deed
  rw [showAt_yes e0 hj v0, bnd_eq, nl_s]
  have r0 : rd h 5 j 0 = nI n := by show h.1 5 (j % 9) 0 = _; rw [Nat.mod_eq_of_lt hj9]; exact hcs.1
  unfold ddAns
  by_cases hk : k = -1
  · rw [if_pos hk, if_pos hk, r0]
    by_cases hw : w = 0
    · rw [if_pos hw, if_pos hw]
    · rw [if_neg hw, if_neg hw]
  · rw [if_neg hk, if_neg hk, has7_eq hj9 hcs.1, bnd_eq]
    rcases int_cases k n (by omega) with hin | ⟨x, hx, rfl⟩
    · rw [if_pos hin, if_pos hin, if_pos rfl]
    · rw [if_neg (in_no hx (by omega)), if_neg (in_no hx (by omega)), if_neg ne10, nI_clamp (by omega)]
      have hib : ib (nI x) 40 = true := ib_nI (by omega) (by decide)
      have m31 : j % cnt 31 = j := Nat.mod_eq_of_lt hj9
      have m32 : j % cnt 32 = j := Nat.mod_eq_of_lt hj9
      rw [ck_p hib, ck_p hib, ra_n (by omega), ra_n (by omega), m31, m32, (hcs.2 x hx).1, (hcs.2 x hx).2]
      by_cases h0 : w = 0
      · rw [if_pos h0, if_pos h0]
      · rw [if_neg h0, if_neg h0]
        by_cases h1 : w = 1
        · rw [if_pos h1, if_pos h1]
        · rw [if_neg h1, if_neg h1]
theorem hasShow_no {h : Hp} {a : Int32} {c : Nat} (hc : h.1 47 0 1 = nI c) (h2 : c ≤ 2) (ha : a < 0 ∨ nI c ≤ a) : fX12_hasShow a h = some (0, wr h 10 0 40 a) := by
  unfold fX12_hasShow
  have e : ra (wr h 10 0 40 a) 47 0 1 = nI c := hc
  rw [lt_eq, is_eq 1 a _ rfl, bnd_eq, e]
  simp only [out_iff (show c ≤ 1000 by omega)]
  rw [if_pos ha, ck_p zk_0]
theorem hasShow_yes {h : Hp} {j c : Nat} (hc : h.1 47 0 1 = nI c) (h2 : c ≤ 2) (hj : j < c) : fX12_hasShow (nI j) h = some (1, wr h 10 0 40 (nI j)) := by
  unfold fX12_hasShow
  have e : ra (wr h 10 0 40 (nI j)) 47 0 1 = nI c := hc
  rw [lt_eq, is_eq 1 (nI j) _ rfl, bnd_eq, e]
  simp only [out_iff (show c ≤ 1000 by omega)]
  rw [if_neg (in_no hj (by omega)), ck_p zk_1]
theorem deeds_eq {h : Hp} {j : Nat} (hj : h.1 10 0 40 = nI j) (h8 : j < 8) : fX12_deeds h = some (h.1 49 0 (81 * j), h) := by
  unfold fX12_deeds
  have e : (81 : Int32) * rd h 10 0 40 = nI (81 * j) := by
    show (81 : Int32) * h.1 10 0 40 = _
    rw [hj, show (81 : Int32) = nI 81 from rfl, nI_mul]
  rw [e, ck_p (ib_nI (by omega) (by decide)), ra_n (by omega)]; rfl
theorem deedOf_eq {h : Hp} {j k w : Nat} (hj : h.1 10 0 40 = nI j) (h8 : j < 8) (hk : k < 40) (hw : w < 2) : fX12_deedOf (nI k) (nI w) h = some (h.1 49 0 (81 * j + 1 + 2 * k + w), h) := by
  unfold fX12_deedOf
  have e : (81 : Int32) * rd h 10 0 40 + (1 : Int32) + (2 : Int32) * nI k + nI w = nI (81 * j + 1 + 2 * k + w) := by
    show (81 : Int32) * h.1 10 0 40 + (1 : Int32) + (2 : Int32) * nI k + nI w = _
    rw [hj, show (81 : Int32) = nI 81 from rfl, nI_mul, show (1 : Int32) = nI 1 from rfl, nI_add, show (2 : Int32) = nI 2 from rfl, nI_mul, nI_add, nI_add]
  rw [e, ck_p (ib_nI (by omega) (by decide)), ra_n (by omega)]; rfl
theorem deedM_eq {h : Hp} {j c n : Nat} {kd : Nat → Nat} {pt : Nat → Int32} (m0 : h.1 47 0 1 = nI c) (v0 : c ≤ 2) (hj : j < c) (hv : HV n kd pt) (hms : MSh h j n kd pt) (k w : Int32) : ∃ h', fX12_deed (nI j) k w h = some (ddAns n kd pt k w, h') := by
  have hn40 := hv.1
  unfold fX12_deed
  rw [lt_eq, hasShow_yes (show (wr h 10 0 0 0).1 47 0 1 = nI c from m0) v0 hj, bnd_eq, if_neg ne10]
  have e49 : ∀ i, (wr (wr h 10 0 0 0) 10 0 40 (nI j)).1 49 0 i = h.1 49 0 i := fun i => rfl
  have e40 : (wr (wr h 10 0 0 0) 10 0 40 (nI j)).1 10 0 40 = nI j := rfl
  generalize wr (wr h 10 0 0 0) 10 0 40 (nI j) = h1 at e49 e40
  unfold ddAns
  by_cases hk : k = -1
  · rw [if_pos hk, if_pos hk, deeds_eq e40 (by omega), bnd_eq, e49, hms.1]
    by_cases hw : w = 0
    · rw [if_pos hw, if_pos hw]; exact ⟨_, rfl⟩
    · rw [if_neg hw, if_neg hw]; exact ⟨_, rfl⟩
  · rw [if_neg hk, if_neg hk, deeds_eq e40 (by omega), bnd_eq, e49, hms.1, in_eq, bnd_eq, jn_eq]
    simp only [out_iff (show n ≤ 1000 by omega)]
    rcases int_cases k n (by omega) with hin | ⟨x, hx, rfl⟩
    · rw [if_pos hin, if_pos hin, if_pos rfl]; exact ⟨_, rfl⟩
    · rw [if_neg (in_no hx (by omega)), if_neg (in_no hx (by omega)), if_neg ne10, nI_clamp (by omega), in_eq, bnd_eq]
      by_cases h0 : w = 0
      · subst h0
        rw [if_neg (show ¬ ((0 : Int32) < 0 ∨ (1 : Int32) < 0) by decide), if_neg ne10, show (0 : Int32) = nI 0 from rfl, deedOf_eq e40 (by omega) (by omega) (by omega), bnd_eq, e49, if_pos rfl]
        refine ⟨h1, ?_⟩
        rw [← (hms.2 x hx).1]
        rfl
      · by_cases h1' : w = 1
        · subst h1'
          rw [if_neg (show ¬ ((1 : Int32) < 0 ∨ (1 : Int32) < 1) by decide), if_neg ne10, if_neg h0, if_pos rfl, show (1 : Int32) = nI 1 from rfl, deedOf_eq e40 (by omega) (by omega) (by omega), bnd_eq, e49]
          refine ⟨h1, ?_⟩
          rw [← (hms.2 x hx).2]
          exact congrArg some (congrArg (fun z => (h.1 49 0 z, h1)) (by omega))
        · have ho : w < 0 ∨ (1 : Int32) < w := by
            by_cases hn : w < 0
            · exact Or.inl hn
            · obtain ⟨y, hy, rfl⟩ := nI_of hn
              right
              have q0 : (nI y = 0) ↔ y = 0 := nI_eq hy (by decide)
              have q1 : (nI y = 1) ↔ y = 1 := nI_eq hy (by decide)
              have a0 : ¬ y = 0 := fun q => h0 (q0.mpr q)
              have a1 : ¬ y = 1 := fun q => h1' (q1.mpr q)
              exact nI_lt (show 1 < y by omega) hy
          rw [if_pos ho, if_pos rfl, if_neg h0, if_neg h1']; exact ⟨_, rfl⟩
theorem st_deed {KI : Hp → Prop} (hKI : KStab KI) : Stp_deed (Rel KI) := by
  intro a k w
  refine stp_q hKI (frX11_deed a k w) (frX12_deed a k w) rfl rfl rfl rfl (fun hC hM hR => ?_)
  obtain ⟨⟨-, -, -, -, c0, c1, c2, ⟨-, v1, -⟩, ⟨e0, e1, e2⟩, ⟨m0, m1, m2⟩, -, hSh, -⟩, -⟩ := hR
  rcases int_cases a c1 (by omega) with ha | ⟨j, hj, rfl⟩
  · have m1' : (wr hM 10 0 0 0).1 47 0 1 = nI c1 := m1
    refine ⟨-2, hC, wr (wr hM 10 0 0 0) 10 0 40 a, ?_, ?_⟩
    · unfold fX11_deed; rw [showAt_no e1 ha]; rfl
    · unfold fX12_deed; rw [lt_eq, hasShow_no m1' v1 ha]; rfl
  · obtain ⟨n, kd, pt, hv, hcs, hms⟩ := hSh j hj
    rw [Nat.mul_zero, Nat.zero_add] at hcs hms
    obtain ⟨h1, e⟩ := deedM_eq m1 v1 hj hv hms k w
    exact ⟨_, _, _, deedC_eq e1 v1 hj hv hcs k w, e⟩
theorem hasLog_no {h : Hp} {a : Int32} {c : Nat} (hc : h.1 47 0 2 = nI c) (h2 : c ≤ 2) (ha : a < 0 ∨ nI c ≤ a) : fX12_hasLog a h = some (0, wr h 10 0 52 a) := by
  unfold fX12_hasLog
  have e : ra (wr h 10 0 52 a) 47 0 2 = nI c := hc
  rw [lt_eq, is_eq 2 a _ rfl, bnd_eq, e]
  simp only [out_iff (show c ≤ 1000 by omega)]
  rw [if_pos ha, ck_p zk_0]
theorem hasLog_yes {h : Hp} {j c : Nat} (hc : h.1 47 0 2 = nI c) (h2 : c ≤ 2) (hj : j < c) : fX12_hasLog (nI j) h = some (1, wr h 10 0 52 (nI j)) := by
  unfold fX12_hasLog
  have e : ra (wr h 10 0 52 (nI j)) 47 0 2 = nI c := hc
  rw [lt_eq, is_eq 2 (nI j) _ rfl, bnd_eq, e]
  simp only [out_iff (show c ≤ 1000 by omega)]
  rw [if_neg (in_no hj (by omega)), ck_p zk_1]
theorem runs_eq {h : Hp} {j : Nat} (hj : h.1 10 0 52 = nI j) (h8 : j < 8) : fX12_runs h = some (h.1 50 0 (26 * j), h) := by
  unfold fX12_runs
  have e : (26 : Int32) * rd h 10 0 52 = nI (26 * j) := by
    show (26 : Int32) * h.1 10 0 52 = _
    rw [hj, show (26 : Int32) = nI 26 from rfl, nI_mul]
  rw [e, ck_p (ib_nI (by omega) (by decide)), ra_n (by omega)]; rfl
theorem facts_eq {h : Hp} {j : Nat} (hj : h.1 10 0 52 = nI j) (h8 : j < 8) : fX12_facts h = some (h.1 50 0 (26 * j + 1), h) := by
  unfold fX12_facts
  have e : (26 : Int32) * rd h 10 0 52 + (1 : Int32) = nI (26 * j + 1) := by
    show (26 : Int32) * h.1 10 0 52 + (1 : Int32) = _
    rw [hj, show (26 : Int32) = nI 26 from rfl, nI_mul, nI_1]
  rw [e, ck_p (ib_nI (by omega) (by decide)), ra_n (by omega)]; rfl
theorem factOf_eq {h : Hp} {j k w : Nat} (hj : h.1 10 0 52 = nI j) (h8 : j < 8) (hk : k < 8) (hw : w < 3) : fX12_factOf (nI k) (nI w) h = some (h.1 50 0 (26 * j + 2 + 3 * k + w), h) := by
  unfold fX12_factOf
  have e : (26 : Int32) * rd h 10 0 52 + (2 : Int32) + (3 : Int32) * nI k + nI w = nI (26 * j + 2 + 3 * k + w) := by
    show (26 : Int32) * h.1 10 0 52 + (2 : Int32) + (3 : Int32) * nI k + nI w = _
    rw [hj, show (26 : Int32) = nI 26 from rfl, nI_mul, show (2 : Int32) = nI 2 from rfl, nI_add, show (3 : Int32) = nI 3 from rfl, nI_mul, nI_add, nI_add]
  rw [e, ck_p (ib_nI (by omega) (by decide)), ra_n (by omega)]; rfl
def lgAns (r n : Nat) (sd pt bt : Nat → Nat) (w : Int32) : Int32 := if w < 0 then -1 else
  let a := w.toNatClampNeg
  if a = 0 then nI r else if a = 1 then nI n else if a % 10 < n then (if a / 10 = 1 then nI (sd (a % 10)) else if a / 10 = 2 then nI (pt (a % 10)) else if a / 10 = 3 then nI (bt (a % 10)) else -1) else -1
theorem factPart_neg {h : Hp} {s : Nat} {w : Int32} (hw : w < 0) : fX3_factPart s w h = some (-1, h) := by
  unfold fX3_factPart
  rw [lt_eq, lt_eq]
  have hd := neg_div10 hw
  have e1 : ¬ w / 10 = 1 := ne_of_toInt (by show (w / 10).toInt ≠ 1; omega)
  have e2 : ¬ w / 10 = 2 := ne_of_toInt (by show (w / 10).toInt ≠ 2; omega)
  have e3 : ¬ w / 10 = 3 := ne_of_toInt (by show (w / 10).toInt ≠ 3; omega)
  rw [if_neg e1, if_neg e2, if_neg e3]
  split
  · rfl
  · split <;> rfl
theorem factPart_pos {h : Hp} {s r n : Nat} {sd pt bt : Nat → Nat} (hs : s < 9) (hv : GV r n sd pt bt) (hc : CLg h s r n sd pt bt) {a : Nat} (ha : a < 2 ^ 31) : fX3_factPart s (nI a) h = some (if a % 10 < n then (if a / 10 = 1 then nI (sd (a % 10)) else if a / 10 = 2 then nI (pt (a % 10)) else if a / 10 = 3 then nI (bt (a % 10)) else -1) else -1, h) := by
  obtain ⟨c1, c2, c3⟩ := hc
  obtain ⟨-, v5, -⟩ := hv
  unfold fX3_factPart
  have e1 : rd h 1 s 1 = nI n := by show h.1 1 (s % 9) 1 = _; rw [Nat.mod_eq_of_lt hs]; exact c2
  rw [lt_eq, show (10 : Int32) = nI 10 from rfl, nI_rem ha (by decide), if_neg (nI_pos (by omega)), e1, lt_eq, nI_div ha (by decide)]
  by_cases hp : a % 10 < n
  · rw [if_pos (nI_lt hp (by omega)), if_pos hp]
    have hd : a / 10 < 2 ^ 31 := by omega
    obtain ⟨d1, d2, d3⟩ := c3 _ hp
    have hib : ib (nI (a % 10)) 8 = true := ib_nI (by omega) (by decide)
    have hm : s % cnt 21 = s := Nat.mod_eq_of_lt hs
    have hm4 : s % cnt 22 = s := Nat.mod_eq_of_lt hs
    have hm5 : s % cnt 23 = s := Nat.mod_eq_of_lt hs
    have q1 : (nI (a / 10) = 1) ↔ a / 10 = 1 := nI_eq hd (by decide)
    have q2 : (nI (a / 10) = 2) ↔ a / 10 = 2 := nI_eq hd (by decide)
    have q3 : (nI (a / 10) = 3) ↔ a / 10 = 3 := nI_eq hd (by decide)
    simp only [q1, q2, q3, ck_p hib, ra_n (show a % 10 < 2 ^ 31 by omega), hm, hm4, hm5, d1, d2, d3]
    split
    · rfl
    · split
      · rfl
      · split <;> rfl
  · rw [if_neg (nI_nlt (by omega) (by omega)), if_neg hp]
theorem logC_eq {h : Hp} {j c r n : Nat} {sd pt bt : Nat → Nat} (e0 : h.1 37 0 2 = nI c) (v0 : c ≤ 2) (hj : j < c) (hv : GV r n sd pt bt) (hcs : CLg h j r n sd pt bt) (w : Int32) : fX11_log (nI j) w h = some (lgAns r n sd pt bt w, h) := by
  have hj9 : j < 9 := by omega
  unfold fX11_log
  rw [logAt_yes e0 hj v0, bnd_eq, nl_s]
  have r0 : rd h 1 j 0 = nI r := by show h.1 1 (j % 9) 0 = _; rw [Nat.mod_eq_of_lt hj9]; exact hcs.1
  have r1 : rd h 1 j 1 = nI n := by show h.1 1 (j % 9) 1 = _; rw [Nat.mod_eq_of_lt hj9]; exact hcs.2.1
  unfold lgAns
  by_cases hw : w < 0
  · have n0 : ¬ w = 0 := fun q => by rw [q] at hw; exact absurd hw (by decide)
    have n1 : ¬ w = 1 := fun q => by rw [q] at hw; exact absurd hw (by decide)
    rw [if_neg n0, if_neg n1, factPart_neg hw, bnd_eq, if_pos hw]
  · obtain ⟨x, hx, rfl⟩ := nI_of hw
    have q0 : (nI x = 0) ↔ x = 0 := nI_eq hx (by decide)
    have q1 : (nI x = 1) ↔ x = 1 := nI_eq hx (by decide)
    rw [if_neg hw, nI_clamp hx, factPart_pos hj9 hv hcs hx, bnd_eq]
    simp only [q0, q1, r0, r1]
    split
    · rfl
    · split <;> rfl
theorem logM_eq {h : Hp} {j c r n : Nat} {sd pt bt : Nat → Nat} (m0 : h.1 47 0 2 = nI c) (v0 : c ≤ 2) (hj : j < c) (hv : GV r n sd pt bt) (hms : MLg h j r n sd pt bt) (w : Int32) : ∃ h', fX12_log (nI j) w h = some (lgAns r n sd pt bt w, h') := by
  have hn8 := hv.2.1
  unfold fX12_log
  rw [lt_eq, hasLog_yes (show (wr h 10 0 0 0).1 47 0 2 = nI c from m0) v0 hj, bnd_eq, if_neg ne10, lt_eq]
  have e50 : ∀ i, (wr (wr h 10 0 0 0) 10 0 52 (nI j)).1 50 0 i = h.1 50 0 i := fun i => rfl
  have e52 : (wr (wr h 10 0 0 0) 10 0 52 (nI j)).1 10 0 52 = nI j := rfl
  generalize wr (wr h 10 0 0 0) 10 0 52 (nI j) = h1 at e50 e52
  unfold lgAns
  by_cases hw : w < 0
  · have n0 : ¬ w = 0 := fun q => by rw [q] at hw; exact absurd hw (by decide)
    have n1 : ¬ w = 1 := fun q => by rw [q] at hw; exact absurd hw (by decide)
    have n10 : ¬ (10 : Int32) ≤ w := fun q => by
      have q1 := Int32.le_iff_toInt_le.mp q
      have q2 := Int32.lt_iff_toInt_lt.mp hw
      have z0 : (0 : Int32).toInt = 0 := rfl
      have z1 : (10 : Int32).toInt = 10 := rfl
      omega
    rw [if_neg n10, if_neg n0, if_neg n1, if_pos hw]; exact ⟨_, rfl⟩
  · obtain ⟨x, hx, rfl⟩ := nI_of hw
    have q0 : (nI x = 0) ↔ x = 0 := nI_eq hx (by decide)
    have q1 : (nI x = 1) ↔ x = 1 := nI_eq hx (by decide)
    have q10 : ((10 : Int32) ≤ nI x) ↔ 10 ≤ x := nI_leI (by decide) hx
    have q40 : ((40 : Int32) ≤ nI x) ↔ 40 ≤ x := nI_leI (by decide) hx
    rw [if_neg hw, nI_clamp hx]
    dsimp only
    by_cases h10 : 10 ≤ x
    · rw [if_pos (q10.mpr h10), jn_eq, if_neg (show ¬ x = 0 by omega), if_neg (show ¬ x = 1 by omega)]
      by_cases h40 : 40 ≤ x
      · rw [if_pos (q40.mpr h40), if_neg (show ¬ x / 10 = 1 by omega), if_neg (show ¬ x / 10 = 2 by omega), if_neg (show ¬ x / 10 = 3 by omega)]
        refine ⟨h1, ?_⟩
        split <;> rfl
      · rw [if_neg (show ¬ (40 : Int32) ≤ nI x by rw [q40]; exact h40), facts_eq e52 (by omega), bnd_eq, e50, hms.2.1, show (10 : Int32) = nI 10 from rfl, nI_rem hx (by decide)]
        by_cases hp : x % 10 < n
        · rw [if_neg (nI_ge hp (by omega)), if_pos hp, nI_div hx (by decide), show (1 : Int32) = nI 1 from rfl, nI_sub (show 1 ≤ x / 10 by omega), factOf_eq e52 (by omega) (by omega) (by omega), bnd_eq, e50]
          obtain ⟨b1, b2, b3⟩ := hms.2.2 _ hp
          refine ⟨h1, ?_⟩
          rcases (show x / 10 = 1 ∨ x / 10 = 2 ∨ x / 10 = 3 by omega) with d | d | d
          · rw [d, if_pos rfl, ← b1]
            rfl
          · rw [d, if_neg (show ¬ 2 = 1 by decide), if_pos rfl, ← b2]
            exact congrArg some (congrArg (fun z => (h.1 50 0 z, h1)) (by omega))
          · rw [d, if_neg (show ¬ 3 = 1 by decide), if_neg (show ¬ 3 = 2 by decide), if_pos rfl, ← b3]
            exact congrArg some (congrArg (fun z => (h.1 50 0 z, h1)) (by omega))
        · rw [if_pos (nI_le (by omega) (by omega)), if_neg hp]; exact ⟨_, rfl⟩
    · rw [if_neg (show ¬ (10 : Int32) ≤ nI x by rw [q10]; exact h10), runs_eq e52 (by omega), bnd_eq, facts_eq e52 (by omega), bnd_eq, e50, e50, hms.1, hms.2.1]
      refine ⟨h1, ?_⟩
      simp only [q0, q1]
      split
      · rfl
      · split
        · rfl
        · rw [if_neg (show ¬ x / 10 = 1 by omega), if_neg (show ¬ x / 10 = 2 by omega), if_neg (show ¬ x / 10 = 3 by omega)]
          split <;> rfl
theorem st_log {KI : Hp → Prop} (hKI : KStab KI) : Stp_log (Rel KI) := by
  intro a w
  refine stp_q hKI (frX11_log a w) (frX12_log a w) rfl rfl rfl rfl (fun hC hM hR => ?_)
  obtain ⟨⟨-, -, -, -, c0, c1, c2, ⟨-, -, v2⟩, ⟨e0, e1, e2⟩, ⟨m0, m1, m2⟩, -, -, hLg⟩, -⟩ := hR
  rcases int_cases a c2 (by omega) with ha | ⟨j, hj, rfl⟩
  · have m2' : (wr hM 10 0 0 0).1 47 0 2 = nI c2 := m2
    refine ⟨-1, hC, wr (wr hM 10 0 0 0) 10 0 52 a, ?_, ?_⟩
    · unfold fX11_log; rw [logAt_no e2 ha]; rfl
    · unfold fX12_log; rw [lt_eq, hasLog_no m2' v2 ha]; rfl
  · obtain ⟨r, n, sd, pt, bt, hv, hcs, hms⟩ := hLg j hj
    rw [Nat.mul_zero, Nat.zero_add] at hcs hms
    obtain ⟨h1, e⟩ := logM_eq m2 v2 hj hv hms w
    exact ⟨_, _, _, logC_eq e2 v2 hj hv hcs w, e⟩
