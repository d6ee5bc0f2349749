/-! the reference's beat -/
theorem sbN_lt (L : Nat → Nat) : ∀ k, sbN L k < 2 ^ k := by
  intro k
  induction k with
  | zero => exact Nat.one_pos
  | succ k ih => unfold sbN; rw [Nat.pow_succ]; split <;> omega
theorem or_bit : ∀ k, k < 5 → ∀ a, a < 2 ^ k → nI a ||| ((1 : Int32) <<< (nI k &&& 31)) = nI (a + 2 ^ k) := by decide +kernel
theorem or_0 (a : Nat) : nI a ||| 0 = nI a := by simp
/-- the bits of those that stand: class and reference alike -/
theorem standNow_eq {h : Hp} {n : Nat} {L : Nat → Nat} (hn : n ≤ 5) (e22 : h.1 10 0 22 = nI n) (e63 : ∀ p, p < n → L p ≤ 6 ∧ h.1 63 0 p = nI (L p)) : fX12_standNow h = some (nI (sbN L n), h) := by
  have : WP (fX12_standNow h) (fun r h' => r = nI (sbN L n) ∧ h' = h) := by
    unfold fX12_standNow
    refine wp_for2 n (fun i a h' => a = nI (sbN L i) ∧ h' = h) ?_ ?_ FU 0 h (i0 := 0) (by omega) (FUb (by omega)) ⟨rfl, rfl⟩
    · rintro i a h1 rec hi ⟨rfl, rfl⟩ hrec
      unfold fX12_standNow_l4
      have q : rd h1 10 0 22 = nI n := e22
      have r : ra h1 63 0 (nI i) = nI (L i) := by rw [ra_n (by omega)]; exact (e63 i hi).2
      have hL := (e63 i hi).1
      rw [q, if_neg (fun w => nI_ge hi (by omega) w), ck_p (ib_nI (by omega) (by decide)), jn_eq, r]
      by_cases h0 : L i = 0
      · rw [if_pos ((le0_n (by omega)).mpr h0)]
        dsimp only
        rw [lt_eq, lt_eq, nI_1, or_0]
        exact hrec _ _ ⟨by show _ = nI (sbN L i + _); rw [if_neg (by omega)]; rfl, rfl⟩
      · rw [if_neg (fun w => h0 ((le0_n (by omega)).mp w))]
        dsimp only
        rw [lt_eq, lt_eq, nI_1, or_bit i (by omega) _ (sbN_lt L i)]
        exact hrec _ _ ⟨by show _ = nI (sbN L i + _); rw [if_pos (by omega)], rfl⟩
    · rintro a h1 rec ⟨rfl, rfl⟩
      unfold fX12_standNow_l4
      have q : rd h1 10 0 22 = nI n := e22
      rw [q, if_pos (nI_le (Nat.le_refl n) (by omega))]
      exact wp_some ⟨rfl, rfl⟩
  obtain ⟨r, h', e, rfl, rfl⟩ := this
  exact e
theorem standingBits_eq {h : Hp} {n : Nat} {L : Nat → Nat} (hn : n ≤ 5) (e22 : h.1 6 9 2 = nI n) (e63 : ∀ p, p < n → L p ≤ 6 ∧ h.1 35 9 p = nI (L p)) : fX4_standingBits h = some (nI (sbN L n), h) := by
  have : WP (fX4_standingBits h) (fun r h' => r = nI (sbN L n) ∧ h' = h) := by
    unfold fX4_standingBits
    refine wp_for2 n (fun i a h' => a = nI (sbN L i) ∧ h' = h) ?_ ?_ FU 0 h (i0 := 0) (by omega) (FUb (by omega)) ⟨rfl, rfl⟩
    · rintro i a h1 rec hi ⟨rfl, rfl⟩ hrec
      unfold fX4_standingBits_l4
      have q : rd h1 6 9 2 = nI n := e22
      have r : ra h1 35 9 (nI i) = nI (L i) := by rw [ra_n (by omega)]; exact (e63 i hi).2
      have hL := (e63 i hi).1
      rw [q, if_neg (fun w => nI_ge hi (by omega) w), ck_p (ib_nI (by omega) (by decide)), jn_eq, r]
      by_cases h0 : L i = 0
      · rw [if_pos ((le0_n (by omega)).mpr h0)]
        dsimp only
        rw [lt_eq, nI_1]
        exact hrec _ _ ⟨by show _ = nI (sbN L i + _); rw [if_neg (by omega)]; rfl, rfl⟩
      · rw [if_neg (fun w => h0 ((le0_n (by omega)).mp w)), lt_eq]
        dsimp only
        rw [lt_eq, nI_1, or_bit i (by omega) _ (sbN_lt L i)]
        exact hrec _ _ ⟨by show _ = nI (sbN L i + _); rw [if_pos (by omega)], rfl⟩
    · rintro a h1 rec ⟨rfl, rfl⟩
      unfold fX4_standingBits_l4
      have q : rd h1 6 9 2 = nI n := e22
      rw [q, if_pos (nI_le (Nat.le_refl n) (by omega))]
      exact wp_some ⟨rfl, rfl⟩
  obtain ⟨r, h', e, rfl, rfl⟩ := this
  exact e
theorem lose_eq {h : Hp} {i l f : Nat} (hi : i < 5) (h1 : 1 ≤ l) (hl : l ≤ 6) (e63 : h.1 63 0 i = nI l) (e31 : h.1 10 0 31 = nI f) : fX12_lose (nI i) h = some ((), wr (wa h 63 0 (nI i) (nI (l - 1))) 10 0 31 (nI (f + if l = 1 then 1 else 0))) := by
  have hib : ib (nI i) 5 = true := ib_nI hi (by decide)
  unfold fX12_lose
  have r : ra h 63 0 (nI i) = nI l := by rw [ra_n (by omega)]; exact e63
  rw [ck_p hib, ck_p hib, lt_eq, ck_p hib, ra_wa, r, show nI l - (1 : Int32) = nI (l - 1) from nI_sub (b := 1) h1]
  have r31 : rd (wa h 63 0 (nI i) (nI (l - 1))) 10 0 31 = nI f := e31
  by_cases q : l = 1
  · rw [if_pos ((eq0_n (by omega)).mpr (by omega)), lt_eq, r31, nI_1, if_pos q]
  · rw [if_neg (fun w => q (by have := (eq0_n (by omega)).mp w; omega)), lt_eq, r31, if_neg q, show nI f + (0 : Int32) = nI (f + 0) from nI_add f 0]
theorem beat_wp {h : Hp} {n sp b : Nat} {pl : Nat → Nat} {x : PW} (hp : VP n sp pl) (hx : VX n x) (cs : MS h n sp pl x) (hb : b < 5 ∨ b = 9) : WP (fX12_beat (bI b) h) (fun _ h' => MS h' n sp pl (bt1 n b x)) := by
  obtain ⟨c1, c2, c3, d29, d30, d31, d32, d33, d34, d35, d36, d37, d57⟩ := cs
  obtain ⟨v1, v2, v3, v4, v5, v6, v7, v8⟩ := hx
  have hn : n ≤ 5 := hp.1
  unfold fX12_beat
  have q31 : rd h 10 0 31 = nI (x.2.2.2 2) := d31
  rw [lt_eq, q31]
  refine wp_for1 n (fun i h' => h'.1 10 0 31 = nI (x.2.2.2 2 + btF b x.1 i) ∧ (∀ p, p < n → h'.1 63 0 p = nI (if p < i ∧ p ≠ b then x.1 p - 1 else x.1 p)) ∧ ∀ k s j, k ≠ 63 → ¬ (k = 10 ∧ j = 31) → h'.1 k s j = h.1 k s j) ?_ ?_ FU h (i0 := 0) (by omega) (FUb (by omega)) ⟨d31, fun p hp => by rw [if_neg (by omega)]; exact (c3 p hp).2.2.1, fun _ _ _ _ _ => rfl⟩
  · rintro i h1 rec hi ⟨e0, e1, e2⟩ hrec
    unfold fX12_beat_l7
    have q2 : rd h1 10 0 22 = nI n := (e2 10 0 22 (by decide) (by decide)).trans c2
    have e63 : h1.1 63 0 i = nI (x.1 i) := by rw [e1 i hi, if_neg (by omega)]
    have q63 : ra h1 63 0 (nI i) = nI (x.1 i) := by rw [ra_n (by omega)]; exact e63
    have hL := (v1 i hi).1
    have hib : ib (nI i) 5 = true := ib_nI (by omega) (by decide)
    have keep : (i = b ∨ x.1 i = 0) → WP (rec (nI (i + 1)) h1) (fun _ h' => MS h' n sp pl (bt1 n b x)) := by
      intro hk
      refine hrec _ ⟨?_, fun p hp' => ?_, e2⟩
      · rw [e0]
        show _ = nI (x.2.2.2 2 + (btF b x.1 i + _))
        rw [if_neg (by omega)]; rfl
      · rw [e1 p hp']
        by_cases hpi : p = i
        · subst hpi
          rw [if_neg (by omega)]
          split
          · rename_i w; rw [show x.1 p = 0 by omega]
          · rfl
        · by_cases hlt : p < i ∧ p ≠ b
          · rw [if_pos hlt, if_pos (by omega)]
          · rw [if_neg hlt, if_neg (by omega)]
    rw [q2, if_neg (fun q => nI_ge hi (by omega) q), jn_eq]
    by_cases hib' : i = b
    · rw [if_pos ((bI_eq (by omega) hb).mpr hib')]
      dsimp only
      rw [lt_eq, nI_1]
      exact keep (Or.inl hib')
    · rw [if_neg (fun q => hib' ((bI_eq (by omega) hb).mp q)), ck_p hib, q63]
      by_cases h0 : x.1 i = 0
      · rw [if_pos ((le0_n (by omega)).mpr h0)]
        dsimp only
        rw [lt_eq, nI_1]
        exact keep (Or.inr h0)
      · rw [if_neg (fun q => h0 ((le0_n (by omega)).mp q)), lose_eq (by omega) (by omega) hL e63 e0, bnd_eq]
        dsimp only
        rw [lt_eq, nI_1]
        refine hrec _ ⟨?_, fun p hp' => ?_, fun k s j hk hk2 => ?_⟩
        · show nI _ = nI (x.2.2.2 2 + (btF b x.1 i + _))
          rw [Nat.add_assoc]
          by_cases hl1 : x.1 i = 1
          · rw [if_pos hl1, if_pos ⟨hib', hl1⟩]
          · rw [if_neg hl1, if_neg (fun w => hl1 w.2)]
        · rw [wr_other (by decide), wa_g, nI_clamp (by omega), show 0 % cnt 63 = 0 from rfl]
          by_cases hpi : p = i
          · subst hpi
            rw [if_pos ⟨rfl, rfl, rfl⟩, if_pos (by omega)]
          · rw [if_neg (by omega), e1 p hp']
            by_cases hlt : p < i ∧ p ≠ b
            · rw [if_pos hlt, if_pos (by omega)]
            · rw [if_neg hlt, if_neg (by omega)]
        · rw [wr_g, if_neg (by omega), wa_g, if_neg (by omega)]; exact e2 k s j hk hk2
  · rintro h1 rec ⟨e0, e1, e2⟩
    have hf := btF_le b x.1 n
    unfold fX12_beat_l7
    have q2 : rd h1 10 0 22 = nI n := (e2 10 0 22 (by decide) (by decide)).trans c2
    rw [q2, if_pos (nI_le (Nat.le_refl n) (by omega))]
    dsimp only
    have s30 : rd h1 10 0 30 = nI (x.2.2.2 1) := (e2 10 0 30 (by decide) (by decide)).trans d30
    have s35 : h1.1 10 0 35 = nI (x.2.2.2 6) := (e2 10 0 35 (by decide) (by decide)).trans d35
    have s36 : h1.1 10 0 36 = nI (x.2.2.2 7) := (e2 10 0 36 (by decide) (by decide)).trans d36
    have s37 : h1.1 10 0 37 = nI (x.2.2.2 8) := (e2 10 0 37 (by decide) (by decide)).trans d37
    rw [lt_eq, jn_eq, s30, nI_1]
    have r31 : rd (wr h1 10 0 30 (nI (x.2.2.2 1 + 1))) 10 0 31 = nI (x.2.2.2 2 + btF b x.1 n) := e0
    have r35 : rd (wr h1 10 0 30 (nI (x.2.2.2 1 + 1))) 10 0 35 = nI (x.2.2.2 6) := s35
    rw [r31, r35]
    have fin : ∀ z cm, cm = (if btF b x.1 n = 0 then x.2.2.2 6 + 1 else 0) → z = nI cm → WP (lt (wr (wr h1 10 0 30 (nI (x.2.2.2 1 + 1))) 10 0 35 z) fun h10 =>
        bnd (fX12_greater (rd h10 10 0 36) (rd h10 10 0 35) h10) fun x12 h11 =>
        lt (wr h11 10 0 36 x12) fun h13 =>
        bnd (fX12_greater (rd h13 10 0 37) ((rd h13 10 0 31) - nI (x.2.2.2 2)) h13) fun x15 h14 =>
        lt (wr h14 10 0 37 x15) fun h16 =>
        if (64 : Int32) ≤ (rd h16 10 0 30) then (some ((), h16))
        else (bnd (fX12_standNow h16) fun x18 h17 =>
        ck (ib (rd h16 10 0 30) 64) (lt (wa h17 57 0 (rd h16 10 0 30) x18) fun h19 =>
        some ((), h19)))) (fun _ h' => MS h' n sp pl (bt1 n b x)) := by
      rintro z cm hcm rfl
      have hcb : cm ≤ x.2.2.2 1 + 1 := by rw [hcm]; split <;> omega
      rw [lt_eq]
      have g1 : fX12_greater (rd (wr (wr h1 10 0 30 (nI (x.2.2.2 1 + 1))) 10 0 35 (nI cm)) 10 0 36) (rd (wr (wr h1 10 0 30 (nI (x.2.2.2 1 + 1))) 10 0 35 (nI cm)) 10 0 35) (wr (wr h1 10 0 30 (nI (x.2.2.2 1 + 1))) 10 0 35 (nI cm)) = some (nI (max (x.2.2.2 7) cm), wr (wr h1 10 0 30 (nI (x.2.2.2 1 + 1))) 10 0 35 (nI cm)) := by
        rw [show rd (wr (wr h1 10 0 30 (nI (x.2.2.2 1 + 1))) 10 0 35 (nI cm)) 10 0 36 = nI (x.2.2.2 7) from s36, show rd (wr (wr h1 10 0 30 (nI (x.2.2.2 1 + 1))) 10 0 35 (nI cm)) 10 0 35 = nI cm from rfl]
        exact maxI' (by omega) (by omega) _
      rw [g1, bnd_eq, lt_eq]
      have r37 : rd (wr (wr (wr h1 10 0 30 (nI (x.2.2.2 1 + 1))) 10 0 35 (nI cm)) 10 0 36 (nI (max (x.2.2.2 7) cm))) 10 0 37 = nI (x.2.2.2 8) := s37
      have r31' : rd (wr (wr (wr h1 10 0 30 (nI (x.2.2.2 1 + 1))) 10 0 35 (nI cm)) 10 0 36 (nI (max (x.2.2.2 7) cm))) 10 0 31 = nI (x.2.2.2 2 + btF b x.1 n) := e0
      rw [r37, r31', nI_sub (by omega), Nat.add_sub_cancel_left, maxI' (by omega) (by omega), bnd_eq, lt_eq]
      have r30 : rd (wr (wr (wr (wr h1 10 0 30 (nI (x.2.2.2 1 + 1))) 10 0 35 (nI cm)) 10 0 36 (nI (max (x.2.2.2 7) cm))) 10 0 37 (nI (max (x.2.2.2 8) (btF b x.1 n)))) 10 0 30 = nI (x.2.2.2 1 + 1) := rfl
      rw [r30]
      have k0 : ∀ k s j, ¬ (k = 10 ∧ (j = 30 ∨ j = 35 ∨ j = 36 ∨ j = 37)) → (wr (wr (wr (wr h1 10 0 30 (nI (x.2.2.2 1 + 1))) 10 0 35 (nI cm)) 10 0 36 (nI (max (x.2.2.2 7) cm))) 10 0 37 (nI (max (x.2.2.2 8) (btF b x.1 n)))).1 k s j = h1.1 k s j := by
        intro k s j hh
        rw [wr_g, if_neg (by omega), wr_g, if_neg (by omega), wr_g, if_neg (by omega), wr_g, if_neg (by omega)]
      have scal : ∀ hh : Hp, (∀ k s j, k ≠ 57 → hh.1 k s j = (wr (wr (wr (wr h1 10 0 30 (nI (x.2.2.2 1 + 1))) 10 0 35 (nI cm)) 10 0 36 (nI (max (x.2.2.2 7) cm))) 10 0 37 (nI (max (x.2.2.2 8) (btF b x.1 n)))).1 k s j) → (∀ t, t ≤ x.2.2.2 1 + 1 → t < 64 → hh.1 57 0 t = nI ((bt1 n b x).2.2.2 (100 + t))) → MS hh n sp pl (bt1 n b x) := by
        intro hh k57 h57
        refine ⟨?_, ?_, fun p hp' => ⟨?_, ?_, ?_, ?_⟩, ?_, ?_, ?_, ?_, ?_, ?_, ?_, ?_, ?_, h57⟩
        · rw [k57 _ _ _ (by decide), k0 _ _ _ (by decide), e2 _ _ _ (by decide) (by decide)]; exact c1
        · rw [k57 _ _ _ (by decide), k0 _ _ _ (by decide)]; exact q2
        · rw [k57 _ _ _ (by decide), k0 _ _ _ (by omega), e2 _ _ _ (by decide) (by omega)]; exact (c3 p hp').1
        · rw [k57 _ _ _ (by decide), k0 _ _ _ (by omega), e2 _ _ _ (by decide) (by omega)]; exact (c3 p hp').2.1
        · rw [k57 _ _ _ (by decide), k0 _ _ _ (by omega)]; exact e1 p hp'
        · rw [k57 _ _ _ (by decide), k0 _ _ _ (by omega), e2 _ _ _ (by decide) (by omega)]; exact (c3 p hp').2.2.2
        · rw [k57 _ _ _ (by decide), k0 _ _ _ (by decide), e2 _ _ _ (by decide) (by decide)]; exact d29
        · rw [k57 _ _ _ (by decide)]; rfl
        · rw [k57 _ _ _ (by decide), k0 _ _ _ (by decide)]; exact e0
        · rw [k57 _ _ _ (by decide), k0 _ _ _ (by decide), e2 _ _ _ (by decide) (by decide)]; exact d32
        · rw [k57 _ _ _ (by decide), k0 _ _ _ (by decide), e2 _ _ _ (by decide) (by decide)]; exact d33
        · rw [k57 _ _ _ (by decide), k0 _ _ _ (by decide), e2 _ _ _ (by decide) (by decide)]; exact d34
        · rw [k57 _ _ _ (by decide), hcm]; rfl
        · rw [k57 _ _ _ (by decide), hcm]; rfl
        · rw [k57 _ _ _ (by decide)]; rfl
      have old : ∀ t, t ≤ x.2.2.2 1 → (bt1 n b x).2.2.2 (100 + t) = x.2.2.2 (100 + t) := by
        intro t ht
        show (if 100 ≤ 100 + t then (if 100 + t = 101 + x.2.2.2 1 then _ else x.2.2.2 (100 + t)) else _) = _
        rw [if_pos (by omega), if_neg (by omega)]
      have new : (bt1 n b x).2.2.2 (100 + (x.2.2.2 1 + 1)) = sbN (btL n b x.1) n := by
        show (if 100 ≤ 100 + (x.2.2.2 1 + 1) then (if 100 + (x.2.2.2 1 + 1) = 101 + x.2.2.2 1 then sbN (btL n b x.1) n else _) else _) = _
        rw [if_pos (by omega), if_pos (by omega)]
      by_cases h64 : 64 ≤ x.2.2.2 1 + 1
      · rw [if_pos (show (64 : Int32) ≤ nI (x.2.2.2 1 + 1) from nI_le h64 (by omega))]
        refine wp_some (scal _ (fun _ _ _ _ => rfl) (fun t ht ht2 => ?_))
        rw [old t (by omega), k0 _ _ _ (by omega), e2 _ _ _ (by decide) (by omega)]
        exact d57 t (by omega) ht2
      · rw [if_neg (show ¬ (64 : Int32) ≤ nI (x.2.2.2 1 + 1) from fun w => h64 ((le_n (a := 64) (by decide) (by omega)).mp w)), standNow_eq (L := btL n b x.1) hn ((k0 _ _ _ (by decide)).trans q2) (fun p hp' => ⟨?_, (k0 _ _ _ (by omega)).trans (e1 p hp')⟩), bnd_eq, ck_p (ib_nI (by omega) (by decide)), lt_eq]
        · refine wp_some (scal _ (fun k s j hk => by rw [wa_g, if_neg (by omega)]) (fun t ht ht2 => ?_))
          rw [wa_g, nI_clamp (by omega), show 0 % cnt 57 = 0 from rfl]
          by_cases hte : t = x.2.2.2 1 + 1
          · rw [if_pos ⟨rfl, rfl, hte⟩, hte, new]
          · rw [if_neg (by omega), old t (by omega), k0 _ _ _ (by omega), e2 _ _ _ (by decide) (by omega)]
            exact d57 t (by omega) ht2
        · have := (v1 p hp').1
          show (if p < n ∧ p ≠ b then x.1 p - 1 else x.1 p) ≤ 6
          split <;> omega
    by_cases h0 : btF b x.1 n = 0
    · rw [if_pos (show nI (x.2.2.2 2 + btF b x.1 n) = nI (x.2.2.2 2) by rw [h0]; rfl)]
      rw [nI_1]
      exact fin _ _ (by rw [if_pos h0]) rfl
    · rw [if_neg (show ¬ nI (x.2.2.2 2 + btF b x.1 n) = nI (x.2.2.2 2) from fun q => h0 (by have := (eq_n (by omega) (by omega)).mp q; omega))]
      exact fin _ 0 (by rw [if_neg h0]) rfl
