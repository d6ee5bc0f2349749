/-! save: the reference -/
theorem saved_wp {h : Hp} {j sp st n m N : Nat} {pl li le : Nat → Nat} (e21 : h.1 10 0 21 = nI j) (hj : j < 8) (hs : SV sp st n pl li le) (ms0 : MSt h j sp st n pl li le) (hm : m ≤ 6) (hN : N < 46656) : WP (fX12_saved (nI N) (nI m) h) (fun r h' => ((r = -1 ∧ ∀ u, ¬ PVs n sp pl li (dgS m N) m 8 0 st (peN n le) u) ∨ ∃ u, r = nI u ∧ u ≤ 5 ∧ PVs n sp pl li (dgS m N) m 8 0 st (peN n le) u) ∧ Fr wX12_saved h h') := by
  have hn := hs.2.2.2.1
  refine wp_fr ?_ (frX12_saved _ _ h)
  unfold fX12_saved
  obtain ⟨u1, h1, eb, ms1, -⟩ := beginShow_wp e21 hj hs ms0
  rw [eb, bnd_eq]
  refine wp_itr1 (fun mm x0 h' => ∃ k x a L f, mm = m - k ∧ x0 = nI k ∧ MS h' n sp pl x ∧ VX n x ∧ x.2.2.2 1 = k ∧ x.2.2.2 9 ≤ k ∧ k ≤ m ∧ PX n li x a L ∧ m - k ≤ f ∧ ∀ u, PVs n sp pl li (dgS m N) m f k a L u ↔ PVs n sp pl li (dgS m N) m 8 0 st (peN n le) u) ?_ FU m _ h1 (FUb (by omega)) ⟨0, iniP n st li le, st, peN n le, 8, by omega, rfl, ms1, iniP_VX hs, rfl, Nat.le_refl _, by omega, ini_PX, by omega, fun u => Iff.rfl⟩
  rintro mm x0 h2 rec ⟨k, x, a, L, f, rfl, rfl, ms, hx, hk1, h9, hkm, px, hf, hiff⟩ hrec
  unfold fX12_saved_l6
  by_cases hkm' : k = m
  · rw [if_pos (nI_le (by omega) (by omega))]
    dsimp only
    rw [onesNow hn hx ms px]
    have hu5 := upN_le L n
    refine wp_some (Or.inr ⟨upN L n, rfl, by omega, (hiff _).mp ?_⟩)
    cases f with
    | zero => exact ⟨hkm', rfl⟩
    | succ f => exact Or.inl ⟨hkm', rfl⟩
  have hlt : k < m := by omega
  obtain ⟨f, rfl⟩ : ∃ f', f = f' + 1 := ⟨f - 1, by omega⟩
  have hd5 := dg_lt m N k
  rw [if_neg (fun q => nI_ge hlt (by omega) q), digit_eq hm hlt hN, bnd_eq, jn_eq]
  -- the beats behind the first deed are filled up with waits
  have fill : ∀ (k' : Nat) (x' : PW) (a' : Nat) (L' : Nat → Nat) (h' : Hp), k < k' → k' ≤ 30 → MS h' n sp pl x' → VX n x' → x'.2.2.2 1 = k' → x'.2.2.2 9 ≤ k' → PX n li x' a' L' → (∀ u, PVs n sp pl li (dgS m N) m (f + 1) k a L u ↔ (k' ≤ m ∧ (∀ i, k < i → i < k' → dgS m N i = 5) ∧ PVs n sp pl li (dgS m N) m f k' a' L' u)) → WP (if (rd h' 10 0 30) ≤ nI m then (lt (nI k + (1 : Int32)) fun x6 => itr1 (fX12_saved_l63 (nI N) (nI m) (fun h10 => lt (rd h10 10 0 30) fun x11 => rec x11 h10)) FU x6 h') else (some ((-1), h'))) (fun r h' => (r = -1 ∧ ∀ u, ¬ PVs n sp pl li (dgS m N) m 8 0 st (peN n le) u) ∨ ∃ u, r = nI u ∧ u ≤ 5 ∧ PVs n sp pl li (dgS m N) m 8 0 st (peN n le) u) := by
    intro k' x' a' L' h' hkk hk30 ms' hx' hk1' h9' px' hPV
    have r30 : rd h' 10 0 30 = nI k' := by
      have := ms'.2.2.2.2.1
      rw [hk1'] at this
      exact this
    rw [r30]
    by_cases g : k' ≤ m
    · rw [if_pos (nI_le g (by omega)), nI_1, lt_eq]
      refine wp_for1 k' (fun i h'' => k < i ∧ h'' = h' ∧ ∀ q, k < q → q < i → dgS m N q = 5) ?_ ?_ FU h' (i0 := k + 1) (by omega) (FUb (by omega)) ⟨by omega, rfl, fun q w1 w2 => by omega⟩
      · rintro i h'' rec2 hi ⟨hki, rfl, hall⟩ hrec2
        unfold fX12_saved_l63
        have hdi := dg_lt m N i
        rw [r30, if_neg (fun q => nI_ge hi (by omega) q), digit_eq hm (by omega) hN, bnd_eq]
        by_cases g5 : dgS m N i = 5
        · rw [if_pos (show nI (dgS m N i) = 5 by rw [g5]; rfl), lt_eq, nI_1]
          refine hrec2 _ ⟨by omega, rfl, fun q w1 w2 => ?_⟩
          by_cases gq : q = i
          · rw [gq]; exact g5
          · exact hall q w1 (by omega)
        · rw [if_neg (show ¬ nI (dgS m N i) = 5 from fun q => g5 ((eq_n (b := 5) (by omega) (by decide)).mp q))]
          refine wp_some (Or.inl ⟨rfl, fun u hu => ?_⟩)
          obtain ⟨-, hall', -⟩ := (hPV u).mp ((hiff u).mpr hu)
          exact g5 (hall' i hki hi)
      · rintro h'' rec2 ⟨hki, rfl, hall⟩
        unfold fX12_saved_l63
        rw [r30, if_pos (nI_le (Nat.le_refl _) (by omega))]
        dsimp only
        rw [lt_eq, r30]
        refine hrec (m - k') _ _ (by omega) ⟨k', x', a', L', f, rfl, rfl, ms', hx', hk1', h9', g, px', by omega, fun u => ?_⟩
        rw [← hiff u, hPV u]
        exact ⟨fun w => ⟨g, hall, w⟩, fun w => w.2.2⟩
    · rw [if_neg (fun q => g ((le_n (by omega) (by omega)).mp q))]
      refine wp_some (Or.inl ⟨rfl, fun u hu => ?_⟩)
      exact g ((hPV u).mp ((hiff u).mpr hu)).1
  have vp := hs.vp
  by_cases g5 : dgS m N k = 5
  · rw [if_pos (show nI (dgS m N k) = 5 by rw [g5]; rfl)]
    have hm0 : mayB n sp pl x 0 0 = true := by
      unfold mayB
      rw [if_pos rfl, hk1]
      exact decide_eq_true (by omega)
    obtain ⟨r, h3, e3, h3c⟩ := does_wp (p := 0) (kd := 0) (P := -1) vp hx ms (by omega) (Or.inl rfl)
    rcases h3c with ⟨-, rfl, ms3⟩ | ⟨w, -⟩
    · have e3' : fX12_does 0 (-1) h2 = some (1, h3) := e3
      rw [e3', bnd_eq, if_neg ne10]
      have ed : doN n sp pl x 0 0 = bt1 n 9 x := rfl
      rw [ed] at ms3
      have hx3 : VX n (bt1 n 9 x) := bt1_VX hn hx (by omega)
      refine fill (k + 1) _ a (fun q => L q - 1) h3 (by omega) (by omega) ms3 hx3 (by show x.2.2.2 1 + 1 = _; rw [hk1]) (by show x.2.2.2 9 ≤ _; omega) (bt1_PX hn px) (fun u => ?_)
      constructor
      · rintro (⟨w, -⟩ | ⟨-, ⟨-, w⟩ | ⟨w, -⟩⟩)
        · omega
        · exact ⟨by omega, fun i w1 w2 => by omega, w⟩
        · rw [g5] at w; omega
      · rintro ⟨-, -, w⟩
        exact Or.inr ⟨hlt, Or.inl ⟨g5, w⟩⟩
    · rw [hm0] at w; cases w
  · rw [if_neg (show ¬ nI (dgS m N k) = 5 from fun q => g5 ((eq_n (b := 5) (by omega) (by decide)).mp q))]
    obtain ⟨r, h3, e3, h3c⟩ := does_wp (p := dgS m N k) (kd := 1) (P := nI (dgS m N k)) vp hx ms (by omega) (Or.inr ⟨rfl, by omega⟩)
    have e3' : fX12_does 1 (nI (dgS m N k)) h2 = some (r, h3) := e3
    have hmay : mayB n sp pl x 1 (dgS m N k) = true ↔ dgS m N k < n ∧ 0 < L (dgS m N k) := by
      unfold mayB
      rw [if_neg (by decide), if_pos rfl, Bool.and_eq_true, Bool.and_eq_true, decide_eq_true_eq, decide_eq_true_eq, decide_eq_true_eq]
      constructor
      · rintro ⟨w1, w2, -⟩
        exact ⟨w1, by rw [← (px.1 _ w1).1]; exact w2⟩
      · rintro ⟨w1, w2⟩
        have := wayN_le vp.2.1 hx.2.1 (vp.2.2.2 _ w1)
        exact ⟨w1, by rw [(px.1 _ w1).1]; exact w2, by omega⟩
    rw [e3', bnd_eq]
    rcases h3c with ⟨hm1, rfl, ms3⟩ | ⟨hm0, rfl, -⟩
    · obtain ⟨hdn, h0⟩ := hmay.mp hm1
      have hw := wayN_le vp.2.1 hx.2.1 (vp.2.2.2 _ hdn)
      rw [px.2] at hw
      rw [if_neg ne10]
      have ed : doN n sp pl x 1 (dgS m N k) = runP n sp pl (dgS m N k) x := rfl
      have hx3 := doN_VX vp hx (by omega) hm1
      have hc9 := doN_c9 n sp pl x 1 (dgS m N k)
      rw [ed] at ms3 hx3 hc9
      obtain ⟨px3, hb3⟩ := run_PX (sp := sp) (pl := pl) hn hdn px
      refine fill (k + (wayN sp a (pl (dgS m N k)) + 1)) _ _ _ h3 (by omega) (by omega) ms3 hx3 (by rw [hb3, hk1]) (by omega) px3 (fun u => ?_)
      constructor
      · rintro (⟨w, -⟩ | ⟨-, ⟨w, -⟩ | ⟨-, -, w1, w2, w3⟩⟩)
        · omega
        · exact absurd w g5
        · exact ⟨w1, w2, w3⟩
      · rintro ⟨w1, w2, w3⟩
        exact Or.inr ⟨hlt, Or.inr ⟨hdn, h0, w1, w2, w3⟩⟩
    · rw [if_pos rfl]
      refine wp_some (Or.inl ⟨rfl, fun u hu => ?_⟩)
      have w := (hiff u).mpr hu
      rcases w with ⟨w, -⟩ | ⟨-, ⟨w, -⟩ | ⟨w1, w2, -⟩⟩
      · omega
      · exact g5 w
      · rw [hmay.mpr ⟨w1, w2⟩] at hm0; cases hm0
theorem p66 {m : Nat} (hm : m ≤ 6) : 6 ^ m ≤ 46656 := Nat.pow_le_pow_right (show 0 < 6 by decide) hm
theorem saveM {h : Hp} {j sp st n m : Nat} {pl li le : Nat → Nat} {z : Int32} (e21 : h.1 10 0 21 = nI j) (hj : j < 8) (hs : SV sp st n pl li le) (ms0 : MSt h j sp st n pl li le) (hm : m ≤ 6) : ∃ M d h', itr3 (fX12_save_l35 (nI m) (fun y19 y20 h21 => if z = 0 then (some (y19, h21)) else (some (y20, h21)))) FU (-1) (-1) 0 h = some (if z = 0 then nI M else if m = 0 then -1 else nI d, h') ∧ BSp n sp pl li m st (peN n le) M d := by
  have hn := hs.2.2.2.1
  have h66 := p66 hm
  have hpos : 1 ≤ 6 ^ m := Nat.one_le_pow _ _ (by decide)
  suffices hw : WP (itr3 (fX12_save_l35 (nI m) (fun y19 y20 h21 => if z = 0 then (some (y19, h21)) else (some (y20, h21)))) FU (-1) (-1) 0 h) (fun r h' => ∃ M d, r = (if z = 0 then nI M else if m = 0 then -1 else nI d) ∧ BSp n sp pl li m st (peN n le) M d) by
    obtain ⟨r, h', e, M, d, rfl, q⟩ := hw
    exact ⟨M, d, h', e, q⟩
  refine wp_for3 (6 ^ m) (fun N a b h' => h'.1 10 0 21 = nI j ∧ (∀ i, h'.1 48 0 i = h.1 48 0 i) ∧ ((a = -1 ∧ b = -1 ∧ ∀ N', N' < N → ∀ u, ¬ PVs n sp pl li (dgS m N') m 8 0 st (peN n le) u) ∨ ∃ M N0, a = nI M ∧ M ≤ 5 ∧ N0 < N ∧ b = (if m = 0 then -1 else nI (dgS m N0 0)) ∧ PVs n sp pl li (dgS m N0) m 8 0 st (peN n le) M ∧ ∀ N', N' < N → ∀ u, PVs n sp pl li (dgS m N') m 8 0 st (peN n le) u → u ≤ M ∧ (u = M → N0 ≤ N'))) ?_ ?_ FU _ _ h (i0 := 0) (by omega) (FUb (by omega)) ⟨e21, fun _ => rfl, Or.inl ⟨rfl, rfl, fun N' hN' => absurd hN' (Nat.not_lt_zero _)⟩⟩
  · rintro N a b h1 rec hN ⟨t21, t48, hab⟩ hrec
    unfold fX12_save_l35
    have ms1 : MSt h1 j sp st n pl li le := by
      obtain ⟨a1, a2, a3, a4⟩ := ms0
      refine ⟨(t48 _).trans a1, (t48 _).trans a2, (t48 _).trans a3, fun p hp => ?_⟩
      rw [t48, t48, t48]; exact a4 p hp
    obtain ⟨r, h2, e2, hr, fr⟩ := saved_wp t21 hj hs ms1 hm (show N < 46656 by omega)
    have t21' : h2.1 10 0 21 = nI j := (fr.at 10 0 21 rfl).trans t21
    have t48' : ∀ i, h2.1 48 0 i = h.1 48 0 i := fun i => (fr.cell 48 0 rfl i).trans (t48 i)
    rw [sixes_eq hm, bnd_eq, if_neg (fun q => nI_ge hN (by omega) q), e2, bnd_eq, jn_eq, jn_eq]
    -- the same stay
    have stay : ∀ a', (a' = a) → (∀ u, PVs n sp pl li (dgS m N) m 8 0 st (peN n le) u → ∃ M, a = nI M ∧ M ≤ 5 ∧ u ≤ M) → WP (rec a' b (nI (N + 1)) h2) (fun r h' => ∃ M d, r = (if z = 0 then nI M else if m = 0 then -1 else nI d) ∧ BSp n sp pl li m st (peN n le) M d) := by
      rintro a' rfl hle
      refine hrec _ _ _ ⟨t21', t48', ?_⟩
      rcases hab with ⟨e1, e2, hno⟩ | ⟨M, N0, e1, hM5, hN0, e2, hP, hmax⟩
      · refine Or.inl ⟨e1, e2, fun N' hN' u hu => ?_⟩
        by_cases g : N' = N
        · rw [g] at hu
          obtain ⟨M, w, hM5, -⟩ := hle u hu
          rw [e1] at w
          exact nI_nm1 (show M < 2 ^ 31 by omega) w.symm
        · exact hno N' (by omega) u hu
      · refine Or.inr ⟨M, N0, e1, hM5, by omega, e2, hP, fun N' hN' u hu => ?_⟩
        by_cases g : N' = N
        · rw [g] at hu ⊢
          obtain ⟨M', w, hM5', hle'⟩ := hle u hu
          rw [e1] at w
          have := (eq_n (by omega) (by omega)).mp w
          exact ⟨by omega, fun _ => by omega⟩
        · exact hmax N' (by omega) u hu
    -- a greater one is taken
    have take : ∀ u, u ≤ 5 → PVs n sp pl li (dgS m N) m 8 0 st (peN n le) u → (∀ u', PVs n sp pl li (dgS m N) m 8 0 st (peN n le) u' → u' = u) → (a = -1 ∨ ∃ M, a = nI M ∧ M ≤ 5 ∧ M < u) → ∀ b', b' = (if m = 0 then -1 else nI (dgS m N 0)) → WP (rec (nI u) b' (nI (N + 1)) h2) (fun r h' => ∃ M d, r = (if z = 0 then nI M else if m = 0 then -1 else nI d) ∧ BSp n sp pl li m st (peN n le) M d) := by
      intro u hu5 hu huq hlt b' eb
      refine hrec _ _ _ ⟨t21', t48', Or.inr ⟨u, N, rfl, hu5, by omega, eb, hu, fun N' hN' u' hu' => ?_⟩⟩
      by_cases g : N' = N
      · rw [g] at hu' ⊢
        rw [huq u' hu']
        exact ⟨Nat.le_refl _, fun _ => Nat.le_refl _⟩
      · rcases hab with ⟨e1, e2, hno⟩ | ⟨M, N0, e1, hM5, hN0, e2, hP, hmax⟩
        · exact absurd hu' (hno N' (by omega) u')
        · rcases hlt with w | ⟨M', w, hM5', w2⟩
          · rw [e1] at w
            exact absurd w (nI_nm1 (by omega))
          · rw [e1] at w
            have e3 := (eq_n (by omega) (by omega)).mp w
            have := (hmax N' (by omega) u' hu').1
            exact ⟨by omega, fun _ => by omega⟩
    have det : ∀ f k a L u u', m - k ≤ f → PVs n sp pl li (dgS m N) m f k a L u → PVs n sp pl li (dgS m N) m f k a L u' → u = u' := by
      intro f
      induction f with
      | zero => rintro k a L u u' _ ⟨-, rfl⟩ ⟨-, rfl⟩; rfl
      | succ f ih =>
        rintro k a L u u' hkf w1 w2
        rcases w1 with ⟨p1, rfl⟩ | ⟨p1, ⟨p2, p3⟩ | ⟨p2, -, p4, -, p3⟩⟩
        · rcases w2 with ⟨-, rfl⟩ | ⟨q1, -⟩
          · rfl
          · omega
        · rcases w2 with ⟨q1, -⟩ | ⟨-, ⟨-, q3⟩ | ⟨q2, -⟩⟩
          · omega
          · exact ih _ _ _ _ _ (by omega) p3 q3
          · omega
        · rcases w2 with ⟨q1, -⟩ | ⟨-, ⟨q2, -⟩ | ⟨-, -, -, -, q3⟩⟩
          · omega
          · omega
          · exact ih _ _ _ _ _ (by omega) p3 q3
    rcases hr with ⟨rfl, hno⟩ | ⟨u, rfl, hu5, hu⟩
    · -- it can't be so
      have ha : (-1 : Int32) ≤ a := by
        rcases hab with ⟨e1, -⟩ | ⟨M, N0, e1, hM5, -⟩
        · rw [e1]; decide
        · rw [e1, Int32.le_iff_toInt_le, nI_toInt (by omega)]
          show (-1 : Int) ≤ _
          omega
      rw [if_pos ha]
      dsimp only
      unfold fX12_greater
      by_cases g : a ≤ -1
      · rw [if_pos g, bnd_eq, lt_eq, nI_1]
        refine stay _ ?_ (fun u hu => absurd hu (hno u))
        exact Int32.le_antisymm ha g
      · rw [if_neg g, bnd_eq, lt_eq, nI_1]
        exact stay _ rfl (fun u hu => absurd hu (hno u))
    · have huq : ∀ u', PVs n sp pl li (dgS m N) m 8 0 st (peN n le) u' → u' = u := fun u' hu' => det 8 0 _ _ _ _ (by omega) hu' hu
      by_cases g : nI u ≤ a
      · -- no greater
        obtain ⟨M, N0, e1, hM5, hN0, e2, hP, hmax⟩ : ∃ M N0, a = nI M ∧ M ≤ 5 ∧ N0 < N ∧ b = (if m = 0 then -1 else nI (dgS m N0 0)) ∧ PVs n sp pl li (dgS m N0) m 8 0 st (peN n le) M ∧ ∀ N', N' < N → ∀ u, PVs n sp pl li (dgS m N') m 8 0 st (peN n le) u → u ≤ M ∧ (u = M → N0 ≤ N') := by
          rcases hab with ⟨e1, -⟩ | w
          · rw [e1, Int32.le_iff_toInt_le, nI_toInt (by omega)] at g
            have : (u : Int) ≤ -1 := g
            omega
          · exact w
        have huM : u ≤ M := by
          rw [e1] at g
          exact (le_n (by omega) (by omega)).mp g
        rw [if_pos g]
        dsimp only
        have eg : fX12_greater a (nI u) h2 = some (a, h2) := by
          rw [e1, maxI' (by omega) (by omega), Nat.max_eq_left huM]
        rw [eg, bnd_eq, lt_eq, nI_1]
        exact stay _ rfl (fun u' hu' => ⟨M, e1, hM5, by rw [huq u' hu']; exact huM⟩)
      · have hlt : a = -1 ∨ ∃ M, a = nI M ∧ M ≤ 5 ∧ M < u := by
          rcases hab with ⟨e1, -⟩ | ⟨M, N0, e1, hM5, -⟩
          · exact Or.inl e1
          · refine Or.inr ⟨M, e1, hM5, ?_⟩
            apply Classical.byContradiction
            intro q
            exact g (by rw [e1]; exact nI_le (by omega) (by omega))
        have eg : fX12_greater a (nI u) h2 = some (nI u, h2) := by
          unfold fX12_greater
          rw [if_pos]
          rcases hlt with e1 | ⟨M, e1, hM5, w⟩
          · rw [e1, Int32.le_iff_toInt_le, nI_toInt (by omega)]
            show (-1 : Int) ≤ _
            omega
          · rw [e1]; exact nI_le (by omega) (by omega)
        rw [if_neg g]
        by_cases g0 : m = 0
        · rw [if_pos ((le0_n (by omega)).mpr g0)]
          dsimp only
          rw [eg, bnd_eq, lt_eq, nI_1]
          refine take u hu5 hu huq hlt b ?_
          rw [if_pos g0]
          rcases hab with ⟨-, e2, -⟩ | ⟨M, N0, -, -, -, e2, -⟩
          · exact e2
          · rw [e2, if_pos g0]
        · rw [if_neg (fun q => g0 ((le0_n (by omega)).mp q)), show (0 : Int32) = nI 0 from rfl, digit_eq hm (by omega) (by omega), bnd_eq]
          dsimp only
          rw [eg, bnd_eq, lt_eq, nI_1]
          exact take u hu5 hu huq hlt _ (by rw [if_neg g0])
  · rintro a b h1 rec ⟨t21, t48, hab⟩
    unfold fX12_save_l35
    rw [sixes_eq hm, bnd_eq, if_pos (nI_le (Nat.le_refl _) (by omega))]
    dsimp only
    have num : ∀ δ u, (∀ i, δ i ≤ 5) → PVs n sp pl li δ m 8 0 st (peN n le) u → PVs n sp pl li (dgS m (nuN δ m)) m 8 0 st (peN n le) u ∧ nuN δ m < 6 ^ m := fun δ u hb hP => ⟨PV_cg 8 _ _ _ _ (fun i _ hi => (nu_dg hb m i hi).symm) hP, nu_lt hb m⟩
    obtain ⟨M, N0, e1, hM5, hN0, e2, hP, hmax⟩ : ∃ M N0, a = nI M ∧ M ≤ 5 ∧ N0 < 6 ^ m ∧ b = (if m = 0 then -1 else nI (dgS m N0 0)) ∧ PVs n sp pl li (dgS m N0) m 8 0 st (peN n le) M ∧ ∀ N', N' < 6 ^ m → ∀ u, PVs n sp pl li (dgS m N') m 8 0 st (peN n le) u → u ≤ M ∧ (u = M → N0 ≤ N') := by
      rcases hab with ⟨-, -, hno⟩ | w
      · obtain ⟨u, hu⟩ := RS_ex (n := n) (sp := sp) (pl := pl) (li := li) 8 m st (peN n le) (by omega)
        obtain ⟨δ, hb, hP⟩ := RS_PV (m := m) hn _ _ _ _ _ hu 0 (by omega)
        obtain ⟨w1, w2⟩ := num δ u hb hP
        exact absurd w1 (hno _ w2 u)
      · exact w
    have hd5 := dg_lt m N0 0
    have spec : BSp n sp pl li m st (peN n le) M (if m = 0 then 5 else dgS m N0 0) := by
      by_cases g0 : m = 0
      · rw [if_pos g0]
        refine ⟨by omega, hM5, Or.inl ⟨g0, ?_, rfl⟩⟩
        rcases hP with ⟨-, w⟩ | ⟨w, -⟩
        · exact w
        · omega
      · rw [if_neg g0]
        have h1m : 1 ≤ m := by omega
        refine ⟨hd5, hM5, Or.inr ⟨h1m, PV_FD h1m hP, fun d' u hd => ?_, fun d' hd => ?_⟩⟩
        · obtain ⟨δ, hb, -, hP'⟩ := FD_PV hn h1m hd
          obtain ⟨w1, w2⟩ := num δ u hb hP'
          exact (hmax _ w2 u w1).1
        · obtain ⟨δ, hb, h0, hP'⟩ := FD_PV hn h1m hd
          obtain ⟨w1, w2⟩ := num δ M hb hP'
          have hle := (hmax _ w2 M w1).2 rfl
          have := dg_mono h1m w2 hle
          rw [nu_dg hb m 0 (by omega), h0] at this
          exact this
    by_cases hz : z = 0
    · rw [if_pos hz]
      exact wp_some ⟨M, _, by rw [if_pos hz]; exact e1, spec⟩
    · rw [if_neg hz]
      refine wp_some ⟨M, _, ?_, spec⟩
      rw [if_neg hz, e2]
      by_cases g0 : m = 0
      · rw [if_pos g0, if_pos g0]
      · rw [if_neg g0, if_neg g0, if_neg g0]
theorem BSp.uniq {n sp b a M d M' d' : Nat} {pl li L : Nat → Nat} (x : BSp n sp pl li b a L M d) (y : BSp n sp pl li b a L M' d') : M = M' ∧ d = d' := by
  obtain ⟨-, -, ⟨x1, x2, x3⟩ | ⟨x1, x2⟩⟩ := x
  · obtain ⟨-, -, ⟨y1, y2, y3⟩ | ⟨y1, y2⟩⟩ := y
    · exact ⟨by rw [x2, y2], by rw [x3, y3]⟩
    · omega
  · obtain ⟨-, -, ⟨y1, y2, y3⟩ | ⟨y1, y2⟩⟩ := y
    · omega
    · exact x2.uniq y2
theorem st_save : Stp_save (Rel KIv) := by
  intro a l2 z hz
  refine stp_q KIv_stab (frX11_save a l2 z) (frX12_save a l2 z) rfl rfl rfl rfl (fun hC hM hR => ?_)
  obtain ⟨⟨-, -, -, -, c0, c1, c2, ⟨v0, v1, -⟩, ⟨e0, e1, e2⟩, ⟨m0, m1, m2⟩, hSt, -⟩, -, -, hI⟩ := hR
  unfold fX11_save fX12_save
  rw [lt_eq, in_eq, bnd_eq]
  have i6 : (l2 < 0 ∨ (6 : Int32) < l2) ↔ (l2 < 0 ∨ nI 7 ≤ l2) := out_iff2 (c := 6) (by decide)
  rcases int_cases a c0 (by omega) with ha | ⟨j, hj, rfl⟩
  · rw [stageAt_no e0 ha, bnd_eq, nl_n]
    by_cases g : l2 < 0 ∨ (6 : Int32) < l2
    · rw [if_pos g, if_pos rfl]
      exact ⟨_, _, _, rfl, rfl⟩
    · rw [if_neg g, if_neg ne10, hand_no (show (wr hM 10 0 0 0).1 47 0 0 = nI c0 from m0) v0 ha, bnd_eq, if_pos rfl]
      exact ⟨_, _, _, rfl, rfl⟩
  · obtain ⟨sp, st, n, pl, li, le, hv, hcs, hms⟩ := hSt j hj
    rw [Nat.mul_zero, Nat.zero_add] at hcs hms
    have hn := hv.2.2.2.1
    obtain ⟨hB, eB, mhB, e21, iB, e48⟩ := handK m0 v0 hj hv hms hI
    have msB : MSt hB j sp st n pl li le := by
      obtain ⟨a1, a2, a3, a4⟩ := hms
      refine ⟨(e48 _).trans a1, (e48 _).trans a2, (e48 _).trans a3, fun p hp => ?_⟩
      rw [e48, e48, e48]; exact a4 p hp
    rw [stageAt_yes e0 hj v0, bnd_eq, nl_s]
    by_cases g : l2 < 0 ∨ (6 : Int32) < l2
    · rw [if_pos g, if_pos rfl]
      by_cases g0 : l2 < 0
      · rw [if_pos g0]
        exact ⟨_, _, _, rfl, rfl⟩
      · rw [if_neg g0, if_neg (fun q => by
          have z1 := Int32.lt_iff_toInt_lt.mp (g.resolve_left g0)
          have z2 := Int32.le_iff_toInt_le.mp q
          omega)]
        exact ⟨_, _, _, rfl, rfl⟩
    · have g0 : ¬ l2 < 0 := fun q => g (Or.inl q)
      have g6 : ¬ (6 : Int32) < l2 := fun q => g (Or.inr q)
      obtain ⟨m, hm, rfl⟩ := nI_of g0
      have hm6 : m ≤ 6 := by
        apply Classical.byContradiction
        intro q
        exact g6 (nI_lt (a := 6) (by omega) hm)
      obtain ⟨M, d, hM1, eM, specM⟩ := saveM (z := z) e21 (by omega) hv msB hm6
      have hD : D7 (peN n le) := fun k hk => by
        unfold peN
        split
        · have := hv.2.2.2.2 k (by omega); omega
        · omega
      obtain ⟨M', d', eC, specC⟩ := bestC (show j < 10 by omega) hv hcs 8 m st (peN n le) (by omega) hm6 hv.2.2.1 hD (fun q hq => by unfold peN; rw [if_neg (by omega)])
      obtain ⟨rfl, rfl⟩ := specC.uniq specM
      have r1 : rd hC 6 j 1 = nI st := by show hC.1 6 (j % cnt 6) 1 = _; rw [mj12 (by omega) rfl]; exact hcs.2.1
      have eS : fX1_saving j (nI m) hC = some (nI (8 * M' + 5 - d'), hC) := by
        unfold fX1_saving
        rw [packed_eq (by omega) hv hcs, bnd_eq, if_neg (show ¬ (6 : Int32) < nI m from g6), lt_eq, r1, eC, bnd_eq]
      rw [if_neg g, if_neg ne10, eB, bnd_eq, if_neg ne10, eM, if_neg g0, if_pos (Int32.not_lt.mp g6), jn_eq]
      dsimp only
      by_cases hz0 : z = 0
      · rw [if_pos hz0, eS, bnd_eq, if_pos hz0, val_eq specC.1 (by have := specC.2.1; omega), bnd_eq, if_pos hz0]
        exact ⟨_, _, _, rfl, rfl⟩
      · rw [if_neg hz0]
        by_cases hm0 : m = 0
        · rw [if_pos ((eq0_n (by omega)).mpr hm0), if_neg hz0, if_pos hm0]
          exact ⟨_, _, _, rfl, rfl⟩
        · rw [if_neg (fun q => hm0 ((eq0_n (by omega)).mp q)), eS, bnd_eq, if_neg hz0, cho_eq specC.1 (by have := specC.2.1; omega), bnd_eq, if_neg hz0, if_neg hm0]
          exact ⟨_, _, _, rfl, rfl⟩
