/-! numbers of a line, in step -/
theorem numberRead_eq {h : Hp} {b : Nat → Nat} {n q r : Nat} (c : CT h b n r) (h9 : h.1 3 0 9 = nI q) (hq : q ≤ r) (hd : ∀ j, q ≤ j → j < r → pD (b j) = true) : fX5_numberRead h = some (nI (num b q (r - q)), h) := by
  have hn : n ≤ 600 := c.2.2.2.1
  have hr : r ≤ n := c.2.2.2.2.1
  have e7 : rd h 3 0 7 = nI r := c.2.2.1
  have e9 : rd h 3 0 9 = nI q := h9
  unfold fX5_numberRead
  rw [lt_eq, e9]
  suffices hh : ∀ (m j : Nat), j ≤ r - q → r - q - j < m → itr2 (fX5_numberRead_l7 (fun y6 h7 => some (y6, h7))) m (nI (num b q j)) (nI (q + j)) h = some (nI (num b q (r - q)), h) from hh FU 0 (by omega) (by unfold FU; omega)
  intro m
  induction m with
  | zero => intro j _ hm; exact absurd hm (Nat.not_lt_zero _)
  | succ m ih =>
    intro j hj hm
    rw [itr2_s]
    generalize itr2 (fX5_numberRead_l7 (fun y6 h7 => some (y6, h7))) m = R at ih ⊢
    unfold fX5_numberRead_l7
    rw [e7]
    by_cases hjl : j = r - q
    · rw [if_pos (nI_le (by omega) (by omega)), hjl]
    · have h48 : 48 ≤ b (q + j) := by
        have := hd (q + j) (by omega) (by omega)
        unfold pD at this
        simp only [Bool.and_eq_true, decide_eq_true_eq] at this
        exact this.1
      rw [if_neg (nI_ge (by omega) (by omega)), byteAt_eq c (show q + j ≤ n by omega), bnd_eq, if_pos (show q + j < n by omega), lt_eq, lt_eq, nI_1, show (10 : Int32) = nI 10 from rfl, nI_mul, nI_add, show (48 : Int32) = nI 48 from rfl, nI_sub (by omega), show num b q j * 10 + b (q + j) - 48 = num b q (j + 1) by show _ = 10 * num b q j + b (q + j) - 48; omega]
      exact ih (j + 1) (by omega) (by omega)
theorem num_lt {b : Nat → Nat} {q k : Nat} (hk : k ≤ 2) (hd : ∀ j, j < k → pD (b (q + j)) = true) : num b q k < 100 := by
  have key : ∀ j, j < k → b (q + j) ≤ 57 := by
    intro j hj
    have := hd j hj
    unfold pD at this
    simp only [Bool.and_eq_true, decide_eq_true_eq] at this
    exact this.2
  rcases (show k = 0 ∨ k = 1 ∨ k = 2 by omega) with rfl | rfl | rfl
  · show 0 < 100
    decide
  · have := key 0 (by omega)
    show 10 * 0 + b (q + 0) - 48 < 100
    omega
  · have a := key 0 (by omega)
    have a1 := key 1 (by omega)
    show 10 * (10 * 0 + b (q + 0) - 48) + b (q + 1) - 48 < 100
    omega
theorem tk2 {b : Nat → Nat} {n q : Nat} (h : tk b n q = 2) : q < n ∧ tr b n q = rn pD b (n - q) q ∧ tr b n q - q ≤ 2 ∧ ∀ j, q ≤ j → j < tr b n q → pD (b j) = true := by
  unfold tk at h
  by_cases h1 : n ≤ q
  · rw [if_pos h1] at h; cases h
  · rw [if_neg h1] at h
    by_cases h2 : b q = 59
    · rw [if_pos h2] at h; cases h
    · rw [if_neg h2] at h
      by_cases h3 : pL (b q) = true
      · rw [if_pos h3] at h; cases h
      · rw [if_neg h3] at h
        by_cases h4 : pD (b q) = true
        · rw [if_pos h4] at h
          have er : tr b n q = rn pD b (n - q) q := by unfold tr; rw [if_neg h1, if_neg h2, if_neg h3, if_pos h4]
          by_cases h5 : rn pD b (n - q) q - q ≤ 2
          · exact ⟨by omega, er, by rw [er]; exact h5, fun j a c => rn_all pD b _ _ j a (by rw [← er]; exact c)⟩
          · rw [if_neg h5] at h; cases h
        · rw [if_neg h4] at h; cases h
theorem tk1 {b : Nat → Nat} {n q : Nat} (h : tk b n q = 1) : q < n ∧ ∀ j, q ≤ j → j < tr b n q → pL (b j) = true := by
  unfold tk at h
  by_cases h1 : n ≤ q
  · rw [if_pos h1] at h; cases h
  · rw [if_neg h1] at h
    by_cases h2 : b q = 59
    · rw [if_pos h2] at h; cases h
    · rw [if_neg h2] at h
      by_cases h3 : pL (b q) = true
      · have er : tr b n q = rn pL b (n - q) q := by unfold tr; rw [if_neg h1, if_neg h2, if_pos h3]
        exact ⟨by omega, fun j a c => rn_all pL b _ _ j a (by rw [← er]; exact c)⟩
      · rw [if_neg h3] at h
        by_cases h4 : pD (b q) = true
        · rw [if_pos h4] at h
          split at h <;> cases h
        · rw [if_neg h4] at h; cases h
theorem tk_lt (b : Nat → Nat) (n q : Nat) : tk b n q < 5 := by
  unfold tk
  split
  · decide
  · split
    · decide
    · split
      · decide
      · split
        · split <;> decide
        · decide
theorem mk_eq {k : Nat} (hk : k < 5) (c : Nat) (hc : c < 5) : (nI (mk k) = nI (mk c)) ↔ k = c := by
  rcases (show k = 0 ∨ k = 1 ∨ k = 2 ∨ k = 3 ∨ k = 4 by omega) with rfl | rfl | rfl | rfl | rfl <;> rcases (show c = 0 ∨ c = 1 ∨ c = 2 ∨ c = 3 ∨ c = 4 by omega) with rfl | rfl | rfl | rfl | rfl <;> decide
/-- the faults found so far, in class and reference; each before place x -/
def FLT (hC hM : Hp) (f x : Nat) : Prop := f ≤ 3 ∧ hC.1 3 0 3 = nI f ∧ hM.1 10 0 16 = nI f ∧ (f = 0 → hC.1 3 0 4 = -1) ∧ (f ≠ 0 → ∃ a, a < x ∧ x ≤ 700 ∧ hC.1 3 0 4 = nI a ∧ hM.1 10 0 17 = nI a)
theorem FLT.mono {hC hM : Hp} {f x y : Nat} (h : FLT hC hM f x) (hxy : x ≤ y) (hy : y ≤ 700) : FLT hC hM f y := by
  obtain ⟨h1, h2, h3, h4, h5⟩ := h
  refine ⟨h1, h2, h3, h4, fun hf => ?_⟩
  obtain ⟨a, a1, a2, a3⟩ := h5 hf
  exact ⟨a, by omega, hy, a3⟩
theorem FLT.same {hC hM hC' hM' : Hp} {f x : Nat} (e3 : hC'.1 3 0 3 = hC.1 3 0 3) (e4 : hC'.1 3 0 4 = hC.1 3 0 4) (m16 : hM'.1 10 0 16 = hM.1 10 0 16) (m17 : hM'.1 10 0 17 = hM.1 10 0 17) (h : FLT hC hM f x) : FLT hC' hM' f x := by
  obtain ⟨h1, h2, h3, h4, h5⟩ := h
  refine ⟨h1, e3.trans h2, m16.trans h3, fun hf => e4.trans (h4 hf), fun hf => ?_⟩
  obtain ⟨a, a1, a2, a3, a4⟩ := h5 hf
  exact ⟨a, a1, a2, e4.trans a3, m17.trans a4⟩
/-- both blame the token at place a -/
theorem blame_both {hC hM : Hp} {f x a w : Nat} (h : FLT hC hM f x) (hxa : x ≤ a) (ha : a < 700) (hw : w = 2 ∨ w = 3) (h9 : hC.1 3 0 9 = nI a) :
    ∃ hC' hM', fX5_blame (nI w) hC = some ((), hC') ∧ fX12_addsFault (nI w) (nI a) hM = some ((), hM') ∧ (∃ f', f' ≠ 0 ∧ FLT hC' hM' f' (a + 1)) ∧ (∀ k s i, ¬ (k = 3 ∧ (i = 3 ∨ i = 4)) → hC'.1 k s i = hC.1 k s i) ∧ (∀ k s i, ¬ (k = 10 ∧ (i = 16 ∨ i = 17)) → hM'.1 k s i = hM.1 k s i) ∧ hM'.2 = hM.2 := by
  obtain ⟨h1, h2, h3, h4, h5⟩ := h
  have e3 : rd hC 3 0 3 = nI f := h2
  have e9 : ∀ v, rd (wr hC 3 0 3 v) 3 0 9 = nI a := fun v => h9
  have m16 : rd hM 10 0 16 = nI f := h3
  unfold fX5_blame fX12_addsFault
  simp only [jn_eq, lt_eq]
  rw [e3, m16]
  by_cases hf : f = 0
  · subst hf
    rw [if_pos (show nI 0 = 0 from rfl), if_pos (show nI 0 = 0 from rfl), e9]
    refine ⟨_, _, rfl, rfl, ⟨w, by omega, by omega, rfl, rfl, fun q => by omega, fun _ => ⟨a, by omega, by omega, rfl, rfl⟩⟩, fun k s i hk => ?_, fun k s i hk => ?_, rfl⟩
    · rw [wr_g, if_neg (by omega), wr_g, if_neg (by omega)]
    · rw [wr_g, if_neg (by omega), wr_g, if_neg (by omega)]
  · obtain ⟨y, y1, y2, y3, y4⟩ := h5 hf
    have n0 : ¬ nI f = 0 := fun q => hf ((eq_n (b := 0) (by omega) (by decide)).mp q)
    have m17 : rd hM 10 0 17 = nI y := y4
    rw [if_neg n0, if_neg n0, m17, if_neg (show ¬ nI a < nI y from fun q => by rw [lt_n (by omega) (by omega)] at q; omega), if_neg (show ¬ nI a = nI y from fun q => by rw [eq_n (by omega) (by omega)] at q; omega)]
    exact ⟨_, _, rfl, rfl, ⟨f, hf, h1, h2, h3, h4, fun _ => ⟨y, by omega, by omega, y3, y4⟩⟩, fun _ _ _ _ => rfl, fun _ _ _ _ => rfl, rfl⟩
/-- what the reading of numbers leaves alone -/
def KeepC (hC hC' : Hp) (i : Nat) : Prop := (∀ k s j, k ≠ 3 → ¬ (k = 26 ∧ j = i) → hC'.1 k s j = hC.1 k s j)
def KeepM (hM hM' : Hp) (i : Nat) : Prop := (∀ k s j, k ≠ 10 → ¬ (k = 52 ∧ j = i) → hM'.1 k s j = hM.1 k s j)
theorem refuse_eq {h : Hp} {q : Nat} (h9 : h.1 3 0 9 = nI q) : ∃ h', fX5_refuse h = some (0, h') ∧ h'.1 3 0 3 = 1 ∧ h'.1 3 0 4 = nI q ∧ (∀ k s j, k ≠ 3 → h'.1 k s j = h.1 k s j) ∧ h'.1 3 0 5 = h.1 3 0 5 ∧ h'.1 3 0 6 = h.1 3 0 6 := by
  unfold fX5_refuse
  simp only [lt_eq, zk_0, ck_t]
  exact ⟨_, rfl, rfl, h9, fun k s j hk => by rw [wr_g, if_neg (by omega), wr_g, if_neg (by omega)], rfl, rfl⟩
theorem fails_eq {h : Hp} {q : Nat} (h11 : h.1 10 0 11 = nI q) : ∃ h', fX12_fails h = some (0, h') ∧ h'.1 10 0 15 = nI q ∧ (∀ k s j, k ≠ 10 → h'.1 k s j = h.1 k s j) ∧ (∀ j, j ≠ 15 → h'.1 10 0 j = h.1 10 0 j) := by
  unfold fX12_fails
  simp only [lt_eq, zk_0, ck_t]
  exact ⟨_, rfl, h11, fun k s j hk => by rw [wr_g, if_neg (by omega)], fun j hj => by rw [wr_g, if_neg (by omega)]⟩
theorem num_step {hC hM : Hp} {b : Nat → Nat} {n p f x g i k lo hi hdn c : Nat} (cC : CT hC b n p) (cM : MTk hM b n (tq b n p)) (fl : FLT hC hM f x) (hx : x ≤ tq b n p) (hg : hM.1 10 0 20 = nI g) (hgf : g = 1 ∨ f ≠ 0)
    (hnum : ∀ h, fX5_numbersOf (nI hdn) h = some (nI c, h)) (hic : i < c) (hc3 : c ≤ 3) (hk3 : k < 3) (hlo : lo ≤ 99) (hhi : hi ≤ 99)
    (hcb : ∀ v h', v < 100 → h'.1 26 0 i = nI v → (∀ j, j ≠ i → h'.1 26 0 j = hC.1 26 0 j) → fX5_canBe (nI hdn) (nI i) h' = some (if lo ≤ v ∧ v ≤ hi then 1 else 0, h')) :
    (tk b n (tq b n p) = 2 ∧ ∃ v f' g' hC' hM', v < 100 ∧ (∀ m K, itr1 (fX5_readLine_l31 (nI hdn) K) (m + 1) (nI i) hC = itr1 (fX5_readLine_l31 (nI hdn) K) m (nI (i + 1)) hC') ∧ fX12_take (nI k) (nI lo) (nI hi) hM = some (1, hM') ∧ CT hC' b n (tr b n (tq b n p)) ∧ MTk hM' b n (tq b n (tr b n (tq b n p))) ∧ FLT hC' hM' f' (tq b n p + 1) ∧ hM'.1 10 0 20 = nI g' ∧ (g' = 1 ∨ f' ≠ 0) ∧ (f' = 0 → f = 0 ∧ lo ≤ v ∧ v ≤ hi) ∧ hC'.1 26 0 i = nI v ∧ hM'.1 52 0 k = nI v ∧ KeepC hC hC' i ∧ KeepM hM hM' k) ∨
    (tk b n (tq b n p) ≠ 2 ∧ ∃ hC' hM', (∀ m K, itr1 (fX5_readLine_l31 (nI hdn) K) (m + 1) (nI i) hC = some (0, hC')) ∧ fX12_take (nI k) (nI lo) (nI hi) hM = some (0, hM') ∧ hC'.1 3 0 3 = 1 ∧ hC'.1 3 0 4 = nI (tq b n p) ∧ hM'.1 10 0 15 = nI (tq b n p) ∧ KeepC hC hC' i ∧ KeepM hM hM' k) := by
  have hn : n ≤ 600 := cC.2.2.2.1
  have hpn : p ≤ n := cC.2.2.2.2.1
  have hqn := tq_le (b := b) hpn
  obtain ⟨u, h1, e1, c1, k1, p1, fr1⟩ := nextToken_wp cC
  have kc : ∀ k s j, k ≠ 3 → h1.1 k s j = hC.1 k s j := fun k s j hk => fr1 k s j (fun q hq hcov => by
    simp [wX5_nextToken] at hq
    rcases hq with rfl | rfl | rfl <;> exact hk hcov.1.symm)
  have k3 : ∀ j, j = 3 ∨ j = 4 → h1.1 3 0 j = hC.1 3 0 j := fun j hj => by
    rcases hj with rfl | rfl <;> exact fr1.at 3 0 _ rfl
  have clsU : ∀ m K, itr1 (fX5_readLine_l31 (nI hdn) K) (m + 1) (nI i) hC = fX5_readLine_l31 (nI hdn) K (itr1 (fX5_readLine_l31 (nI hdn) K) m) (nI i) hC := fun m K => by rw [itr1_s]
  have i12 : rd hM 10 0 12 = nI (mk (tk b n (tq b n p))) := cM.2.2.2.2.2.1
  have i11 : hM.1 10 0 11 = nI (tq b n p) := cM.2.2.2.2.1
  have e8 : rd h1 3 0 8 = nI (tk b n (tq b n p)) := k1
  by_cases h2 : tk b n (tq b n p) = 2
  · left
    refine ⟨h2, ?_⟩
    obtain ⟨t1, t2, t3, t4⟩ := tk2 h2
    have hge := tr_ge b n (tq b n p)
    have hnr := numberRead_eq c1 p1 hge t4
    have hv := num_lt (b := b) (q := tq b n p) t3 (fun j hj => t4 _ (by omega) (by omega))
    have i13 : rd hM 10 0 13 = nI (num b (tq b n p) (tr b n (tq b n p) - tq b n p)) := cM.2.2.2.2.2.2.2.1 h2
    have i9 : hM.1 10 0 9 = nI (tr b n (tq b n p)) := cM.2.2.2.2.2.2.2.2 (by omega)
    generalize num b (tq b n p) (tr b n (tq b n p) - tq b n p) = v at hnr hv i13
    -- the class up to canBe
    have w26 : ∀ j, (wa h1 26 0 (nI i) (nI v)).1 26 0 j = if j = i then nI v else hC.1 26 0 j := fun j => by
      rw [wa_g, nI_clamp (by omega)]
      by_cases hj : j = i
      · rw [if_pos ⟨rfl, rfl, hj⟩, if_pos hj]
      · rw [if_neg (by omega), if_neg hj]; exact kc _ _ _ (by decide)
    have hcb' := hcb v (wa h1 26 0 (nI i) (nI v)) hv (by rw [w26, if_pos rfl]) (fun j hj => by rw [w26, if_neg hj])
    have clsA : ∀ m K, itr1 (fX5_readLine_l31 (nI hdn) K) (m + 1) (nI i) hC = if (if lo ≤ v ∧ v ≤ hi then (1 : Int32) else 0) = 0 then (bnd (fX5_blame 2 (wa h1 26 0 (nI i) (nI v))) fun _ h20 => itr1 (fX5_readLine_l31 (nI hdn) K) m (nI (i + 1)) h20) else itr1 (fX5_readLine_l31 (nI hdn) K) m (nI (i + 1)) (wa h1 26 0 (nI i) (nI v)) := by
      intro m K
      rw [clsU]
      generalize itr1 (fX5_readLine_l31 (nI hdn) K) m = R
      unfold fX5_readLine_l31
      rw [hnum, bnd_eq, if_neg (nI_ge hic (by omega)), e1, bnd_eq, e8, h2, if_pos (show nI 2 = 2 from rfl), hnr, bnd_eq, ck_p (ib_nI (by omega) (by decide)), lt_eq, hcb', bnd_eq]
      simp only [jn_eq, lt_eq, nI_1]
    have h2C : CT (wa h1 26 0 (nI i) (nI v)) b n (tr b n (tq b n p)) := ⟨c1.1, c1.2.1, c1.2.2.1, c1.2.2.2.1, c1.2.2.2.2.1, c1.2.2.2.2.2⟩
    have h2p : (wa h1 26 0 (nI i) (nI v)).1 3 0 9 = nI (tq b n p) := p1
    have keepW : KeepC hC (wa h1 26 0 (nI i) (nI v)) i := fun k s j hk hj => by
      rw [wa_g, nI_clamp (by omega), if_neg (by omega)]; exact kc k s j hk
    have w26i : (wa h1 26 0 (nI i) (nI v)).1 26 0 i = nI v := by rw [w26, if_pos rfl]
    have f34 : ∀ j, j = 3 ∨ j = 4 → (wa h1 26 0 (nI i) (nI v)).1 3 0 j = hC.1 3 0 j := fun j hj => k3 j hj
    generalize wa h1 26 0 (nI i) (nI v) = hA at clsA h2C h2p keepW w26i f34
    -- the reference up to the range
    have hMA : ∀ j, (wa hM 52 0 (nI k) (nI v)).1 10 0 j = hM.1 10 0 j := fun j => rfl
    have w52 : (wa hM 52 0 (nI k) (nI v)).1 52 0 k = nI v := by rw [wa_g, nI_clamp (by omega), if_pos ⟨rfl, rfl, rfl⟩]
    have keepM1 : KeepM hM (wa hM 52 0 (nI k) (nI v)) k := fun k' s j hk hj => by rw [wa_g, nI_clamp (by omega), if_neg (by omega)]
    have by1 : BY (wa hM 52 0 (nI k) (nI v)) 43 b := cM.2.2.2.1
    have hin : (nI v < nI lo ∨ nI hi < nI v) ↔ ¬ (lo ≤ v ∧ v ≤ hi) := by
      rw [lt_n (by omega) (by omega), lt_n (by omega) (by omega)]; omega
    have modA : fX12_take (nI k) (nI lo) (nI hi) hM = if (if lo ≤ v ∧ v ≤ hi then (1 : Int32) else 0) = 0 then (bnd (fX12_addsFault 2 (nI (tq b n p)) (wa hM 52 0 (nI k) (nI v))) fun _ h7 => bnd (fX12_token (wr h7 10 0 20 0)) fun _ h6 => some (1, h6)) else bnd (fX12_token (wa hM 52 0 (nI k) (nI v))) fun _ h6 => some (1, h6) := by
      unfold fX12_take
      rw [i12, h2, if_pos (show nI (mk 2) = 3 from rfl), ck_p (ib_nI hk3 (by decide)), i13, lt_eq, in_eq, bnd_eq]
      have r13 : rd (wa hM 52 0 (nI k) (nI v)) 10 0 13 = nI v := i13
      have r11 : rd (wa hM 52 0 (nI k) (nI v)) 10 0 11 = nI (tq b n p) := i11
      rw [r13, r11]
      simp only [jn_eq, lt_eq, zk_0, zk_1, ck_t]
      by_cases hr : lo ≤ v ∧ v ≤ hi
      · rw [if_pos hr, if_neg (show ¬ (nI v < nI lo ∨ nI hi < nI v) by rw [hin]; exact fun q => q hr)]
      · rw [if_neg hr, if_pos (hin.mpr hr)]
    generalize wa hM 52 0 (nI k) (nI v) = hB at hMA w52 keepM1 by1 modA
    have hrn := tr_le (b := b) hqn
    by_cases hr : lo ≤ v ∧ v ≤ hi
    · have mB : MT hB b n (tr b n (tq b n p)) := ⟨(hMA 10).trans cM.1, (hMA 9).trans i9, hn, hrn, by1⟩
      obtain ⟨u2, h3, e3, t3', fr3⟩ := token_wp mB
      have kM : ∀ k s j, k ≠ 10 → h3.1 k s j = hB.1 k s j := fun k s j hk => fr3 k s j (fun q hq hcov => by
        simp [wX12_token] at hq
        rcases hq with rfl | rfl | rfl | rfl <;> exact hk hcov.1.symm)
      refine ⟨v, f, g, hA, h3, hv, fun m K => ?_, ?_, h2C, t3', ?_, ?_, hgf, fun hf => ⟨hf, hr⟩, w26i, ?_, keepW, fun k' s j hk hj => (kM k' s j hk).trans (keepM1 k' s j hk hj)⟩
      · rw [clsA, if_pos hr, if_neg (by decide)]
      · rw [modA, if_pos hr, if_neg (by decide), e3, bnd_eq]
      · exact (fl.same (f34 3 (by omega)) (f34 4 (by omega)) ((fr3.at 10 0 16 rfl).trans (hMA 16)) ((fr3.at 10 0 17 rfl).trans (hMA 17))).mono (by omega) (by omega)
      · exact ((fr3.at 10 0 20 rfl).trans (hMA 20)).trans hg
      · exact (kM 52 0 k (by decide)).trans w52
    · have flB : FLT hA hB f x := fl.same (f34 3 (by omega)) (f34 4 (by omega)) (hMA 16) (hMA 17)
      obtain ⟨hA', hB', eA, eB, ⟨f', hf', fl'⟩, kA, kB, -⟩ := blame_both (w := 2) flB hx (by omega) (Or.inl rfl) h2p
      have mB : MT (wr hB' 10 0 20 0) b n (tr b n (tq b n p)) := ⟨(kB 10 0 10 (by omega)).trans ((hMA 10).trans cM.1), (kB 10 0 9 (by omega)).trans ((hMA 9).trans i9), hn, hrn, fun j hj => by
        have : (wr hB' 10 0 20 0).1 43 0 j = hB.1 43 0 j := kB 43 0 j (by omega)
        rw [this]; exact by1 j hj⟩
      obtain ⟨u2, h3, e3, t3', fr3⟩ := token_wp mB
      have kM : ∀ k s j, k ≠ 10 → h3.1 k s j = hB.1 k s j := fun k s j hk => (fr3 k s j (fun q hq hcov => by
        simp [wX12_token] at hq
        rcases hq with rfl | rfl | rfl | rfl <;> exact hk hcov.1.symm)).trans ((by rw [wr_g, if_neg (by omega)] : (wr hB' 10 0 20 0).1 k s j = hB'.1 k s j).trans (kB k s j (by omega)))
      refine ⟨v, f', 0, hA', h3, hv, fun m K => ?_, ?_, ?_, t3', ?_, ?_, Or.inr hf', fun hf => absurd hf hf', ?_, ?_, fun k' s j hk hj => (kA k' s j (by omega)).trans (keepW k' s j hk hj), fun k' s j hk hj => (kM k' s j hk).trans (keepM1 k' s j hk hj)⟩
      · rw [clsA, if_neg hr, if_pos rfl, show (2 : Int32) = nI 2 from rfl, eA, bnd_eq]
      · rw [modA, if_neg hr, if_pos rfl, show (2 : Int32) = nI 2 from rfl, eB, bnd_eq, e3, bnd_eq]
      · exact ⟨(kA 3 0 5 (by omega)).trans h2C.1, (kA 3 0 6 (by omega)).trans h2C.2.1, (kA 3 0 7 (by omega)).trans h2C.2.2.1, hn, hrn, fun j hj => by rw [kA 36 0 j (by omega)]; exact h2C.2.2.2.2.2 j hj⟩
      · exact fl'.same rfl rfl (fr3.at 10 0 16 rfl) (fr3.at 10 0 17 rfl)
      · exact fr3.at 10 0 20 rfl
      · exact (kA 26 0 i (by omega)).trans w26i
      · exact (kM 52 0 k (by decide)).trans w52
  · right
    refine ⟨h2, ?_⟩
    obtain ⟨hR, eR, r3, r4, rk, -, -⟩ := refuse_eq p1
    obtain ⟨hF, eF, f15, fk, fj⟩ := fails_eq i11
    refine ⟨hR, hF, fun m K => ?_, ?_, r3, r4, f15, fun k s j hk hj => (rk k s j hk).trans (kc k s j hk), fun k s j hk hj => fk k s j hk⟩
    · rw [clsU]
      generalize itr1 (fX5_readLine_l31 (nI hdn) K) m = R
      unfold fX5_readLine_l31
      rw [hnum, bnd_eq, if_neg (nI_ge hic (by omega)), e1, bnd_eq, e8, if_neg (show ¬ nI (tk b n (tq b n p)) = 2 from fun q => h2 ((eq_n (b := 2) (by have := tk_lt b n (tq b n p); omega) (by decide)).mp q)), eR, bnd_eq]
      rfl
    · unfold fX12_take
      rw [i12, if_neg (show ¬ nI (mk (tk b n (tq b n p))) = 3 from fun q => h2 ((mk_eq (tk_lt b n _) 2 (by decide)).mp q)), eF, bnd_eq]
      rfl
