/-! save, pure: the plays of so many beats and how many stand behind them -/
def RS (n sp : Nat) (pl li : Nat → Nat) : Nat → Nat → Nat → (Nat → Nat) → Nat → Prop
  | 0, b, _, L, u => b = 0 ∧ u = upN L n
  | f + 1, b, a, L, u => (b = 0 ∧ u = upN L n) ∨ (1 ≤ b ∧ (RS n sp pl li f (b - 1) a (fun k => L k - 1) u ∨ ∃ p, p < n ∧ 0 < L p ∧ wayN sp a (pl p) + 1 ≤ b ∧ RS n sp pl li f (b - (wayN sp a (pl p) + 1)) (pl p) (rnL (wayN sp a (pl p)) p (li p) L) u))
theorem up_mono {L L' : Nat → Nat} (h : ∀ p, 0 < L' p → 0 < L p) : ∀ k, upN L' k ≤ upN L k := by
  intro k
  induction k with
  | zero => exact Nat.le_refl _
  | succ k ih =>
    show upN L' k + (if 0 < L' k then 1 else 0) ≤ upN L k + (if 0 < L k then 1 else 0)
    by_cases g : 0 < L' k
    · rw [if_pos g, if_pos (h k g)]; omega
    · rw [if_neg g]; omega
theorem up_rn {w p e : Nat} {L : Nat → Nat} (k : Nat) : upN (rnL w p e L) k ≤ upN L k := up_mono (fun q hq => by
  unfold rnL at hq
  by_cases g : q = p ∧ w < L p
  · rw [g.1]; omega
  · rw [if_neg g] at hq; omega) k
theorem up_ps {L : Nat → Nat} (t k : Nat) : upN (fun q => L q - t) k ≤ upN L k := up_mono (fun q hq => by
  have : 0 < L q - t := hq
  omega) k
section RSS
variable {n sp : Nat} {pl li : Nat → Nat}
theorem RS_up : ∀ f b a L u, RS n sp pl li f b a L u → u ≤ upN L n := by
  intro f
  induction f with
  | zero => rintro b a L u ⟨-, rfl⟩; exact Nat.le_refl _
  | succ f ih =>
    rintro b a L u (⟨-, rfl⟩ | ⟨-, h | ⟨p, hp, h0, hw, h⟩⟩)
    · exact Nat.le_refl _
    · exact Nat.le_trans (ih _ _ _ _ h) (up_ps 1 n)
    · exact Nat.le_trans (ih _ _ _ _ h) (up_rn n)
theorem RS_ex : ∀ f b a L, b ≤ f → ∃ u, RS n sp pl li f b a L u := by
  intro f
  induction f with
  | zero => intro b a L hb; exact ⟨_, by omega, rfl⟩
  | succ f ih =>
    intro b a L hb
    by_cases g : b = 0
    · exact ⟨_, Or.inl ⟨g, rfl⟩⟩
    · obtain ⟨u, hu⟩ := ih (b - 1) a (fun k => L k - 1) (by omega)
      exact ⟨u, Or.inr ⟨by omega, Or.inl hu⟩⟩
theorem RS_fu : ∀ f f' b a L u, b ≤ f → b ≤ f' → RS n sp pl li f b a L u → RS n sp pl li f' b a L u := by
  intro f
  induction f with
  | zero =>
    rintro f' b a L u hb _ ⟨h0, h1⟩
    cases f' with
    | zero => exact ⟨h0, h1⟩
    | succ f' => exact Or.inl ⟨h0, h1⟩
  | succ f ih =>
    rintro f' b a L u hb hb' h
    cases f' with
    | zero =>
      rcases h with h | ⟨h1, -⟩
      · exact h
      · omega
    | succ f' =>
      rcases h with h | ⟨h1, h | ⟨p, hp, h0, hw, h⟩⟩
      · exact Or.inl h
      · exact Or.inr ⟨h1, Or.inl (ih f' _ _ _ _ (by omega) (by omega) h)⟩
      · exact Or.inr ⟨h1, Or.inr ⟨p, hp, h0, hw, ih f' _ _ _ _ (by omega) (by omega) h⟩⟩
/-- the first choice and what comes of it -/
def FDs (n sp : Nat) (pl li : Nat → Nat) (b a : Nat) (L : Nat → Nat) (d u : Nat) : Prop := (d = 5 ∧ RS n sp pl li 7 (b - 1) a (fun k => L k - 1) u) ∨ (d < n ∧ 0 < L d ∧ wayN sp a (pl d) + 1 ≤ b ∧ RS n sp pl li 7 (b - (wayN sp a (pl d) + 1)) (pl d) (rnL (wayN sp a (pl d)) d (li d) L) u)
theorem FD_RS {b a : Nat} {L : Nat → Nat} {u : Nat} (h1 : 1 ≤ b) (h6 : b ≤ 6) : RS n sp pl li 7 b a L u ↔ ∃ d, FDs n sp pl li b a L d u := by
  constructor
  · rintro (⟨h0, -⟩ | ⟨-, h | ⟨p, hp, h0, hw, h⟩⟩)
    · omega
    · exact ⟨5, Or.inl ⟨rfl, RS_fu 6 7 _ _ _ _ (by omega) (by omega) h⟩⟩
    · exact ⟨p, Or.inr ⟨hp, h0, hw, RS_fu 6 7 _ _ _ _ (by omega) (by omega) h⟩⟩
  · rintro ⟨d, ⟨rfl, h⟩ | ⟨hp, h0, hw, h⟩⟩
    · exact Or.inr ⟨h1, Or.inl (RS_fu 7 6 _ _ _ _ (by omega) (by omega) h)⟩
    · exact Or.inr ⟨h1, Or.inr ⟨d, hp, h0, hw, RS_fu 7 6 _ _ _ _ (by omega) (by omega) h⟩⟩
end RSS
def SVR (A : Nat → Nat → Prop) (M d : Nat) : Prop := A d M ∧ (∀ d' u, A d' u → u ≤ M) ∧ ∀ d', A d' M → d ≤ d'
theorem SVR.uniq {A : Nat → Nat → Prop} {M d M' d' : Nat} (x : SVR A M d) (y : SVR A M' d') : M = M' ∧ d = d' := by
  have h1 := x.2.1 d' M' y.1
  have h2 := y.2.1 d M x.1
  have e : M = M' := by omega
  subst e
  exact ⟨rfl, Nat.le_antisymm (x.2.2 d' y.1) (y.2.2 d x.1)⟩
theorem up_n {L : Nat → Nat} {n : Nat} (hz : ∀ q, n ≤ q → L q = 0) : ∀ k, n ≤ k → upN L k = upN L n := by
  intro k
  induction k with
  | zero => intro hk; rw [show n = 0 by omega]
  | succ k ih =>
    intro hk
    by_cases g : n = k + 1
    · rw [g]
    · show upN L k + (if 0 < L k then 1 else 0) = _
      rw [ih (by omega), hz k (by omega), if_neg (by omega), Nat.add_zero]
/-! save: the class -/
def BSp (n sp : Nat) (pl li : Nat → Nat) (b a : Nat) (L : Nat → Nat) (M d : Nat) : Prop := d ≤ 5 ∧ M ≤ 5 ∧ ((b = 0 ∧ M = upN L n ∧ d = 5) ∨ (1 ≤ b ∧ SVR (FDs n sp pl li b a L) M d))
theorem BSp.mx {n sp b a M d : Nat} {pl li L : Nat → Nat} (h6 : b ≤ 6) (h : BSp n sp pl li b a L M d) : RS n sp pl li 7 b a L M ∧ ∀ u, RS n sp pl li 7 b a L u → u ≤ M := by
  obtain ⟨-, -, ⟨rfl, rfl, -⟩ | ⟨h1, x⟩⟩ := h
  · refine ⟨Or.inl ⟨rfl, rfl⟩, fun u hu => ?_⟩
    exact RS_up 7 _ _ _ _ hu
  · refine ⟨(FD_RS h1 h6).mpr ⟨d, x.1⟩, fun u hu => ?_⟩
    obtain ⟨d', hd⟩ := (FD_RS h1 h6).mp hu
    exact x.2.1 d' u hd
theorem rat_eq {M d : Nat} (hd : d ≤ 5) (h : Hp) : fX1_rated (nI M) (nI d) h = some (nI (8 * M + 5 - d), h) := by
  unfold fX1_rated
  rw [show nI M * (8 : Int32) = nI (M * 8) from nI_mul M 8, show nI (M * 8) + (5 : Int32) = nI (M * 8 + 5) from nI_add _ 5, nI_sub (by omega), Nat.mul_comm]
theorem val_eq {M d : Nat} (hd : d ≤ 5) (hM : M ≤ 1000) (h : Hp) : fX1_valueOf (nI (8 * M + 5 - d)) h = some (nI M, h) := by
  unfold fX1_valueOf
  rw [show nI (8 * M + 5 - d) / (8 : Int32) = nI ((8 * M + 5 - d) / 8) from nI_div (b := 8) (by omega) (by decide), show (8 * M + 5 - d) / 8 = M by omega]
theorem cho_eq {M d : Nat} (hd : d ≤ 5) (hM : M ≤ 1000) (h : Hp) : fX1_choiceOf (nI (8 * M + 5 - d)) h = some (nI d, h) := by
  unfold fX1_choiceOf
  rw [show irm (nI (8 * M + 5 - d)) (8 : Int32) = nI ((8 * M + 5 - d) % 8) from nI_rem (b := 8) (by omega) (by decide), show (8 * M + 5 - d) % 8 = 5 - d by omega, show (5 : Int32) - nI (5 - d) = nI (5 - (5 - d)) from nI_sub (a := 5) (by omega), show 5 - (5 - d) = d by omega]
theorem m1_div : (-1 : Int32) / 8 = 0 := by decide
theorem bestC {h : Hp} {j sp st n : Nat} {pl li le : Nat → Nat} (hj : j < 10) (hs : SV sp st n pl li le) (c : CSt h j sp st n pl li le) : ∀ F b a L, b < F → b ≤ 6 → a ≤ 9 → D7 L → (∀ q, n ≤ q → L q = 0) → ∃ M d, fxX1_bestSaving F j (nI a) (nI (pkN L)) (nI b) h = some (nI (8 * M + 5 - d), h) ∧ BSp n sp pl li b a L M d := by
  have hn := hs.2.2.2.1
  intro F
  induction F with
  | zero => intro b a L hb; exact absurd hb (Nat.not_lt_zero _)
  | succ F ih =>
    intro b a L hb h6 ha hD hz
    have hup : upN L 5 = upN L n := up_n hz 5 hn
    have hu5 := upN_le L n
    show ∃ M d, fX1_bestSaving (fxX1_bestSaving F) j (nI a) (nI (pkN L)) (nI b) h = some (nI (8 * M + 5 - d), h) ∧ BSp n sp pl li b a L M d
    suffices hw : WP (fX1_bestSaving (fxX1_bestSaving F) j (nI a) (nI (pkN L)) (nI b) h) (fun r h' => h' = h ∧ ∃ M d, r = nI (8 * M + 5 - d) ∧ BSp n sp pl li b a L M d) by
      obtain ⟨r, h', e, rfl, M, d, rfl, q⟩ := hw
      exact ⟨M, d, e, q⟩
    have hDp : D7 (fun k => L k - 1) := fun k hk => by have := hD k hk; show L k - 1 ≤ 7; omega
    have hzp : ∀ q, n ≤ q → (fun k => L k - 1) q = 0 := fun q hq => by show L q - 1 = 0; rw [hz q hq]
    unfold fX1_bestSaving
    rw [standing_eq hD, bnd_eq, jn_eq, hup]
    by_cases g0 : b = 0
    · rw [if_pos ((le0_n (by omega)).mpr g0)]
      dsimp only
      rw [show (5 : Int32) = nI 5 from rfl, rat_eq (by omega), bnd_eq]
      exact wp_some ⟨rfl, _, 5, rfl, by omega, by omega, Or.inl ⟨g0, rfl, rfl⟩⟩
    rw [if_neg (fun q => g0 ((le0_n (by omega)).mp q))]
    by_cases gm : upN L n = 0
    · rw [if_pos ((eq0_n (by omega)).mpr gm)]
      dsimp only
      rw [show (5 : Int32) = nI 5 from rfl, rat_eq (by omega), bnd_eq]
      have hno : ∀ p, p < n → ¬ 0 < L p := fun p hp h0 => by
        have key : ∀ k, p < k → 1 ≤ upN L k := by
          intro k
          induction k with
          | zero => intro q; exact absurd q (Nat.not_lt_zero _)
          | succ k ihk =>
            intro hk
            show 1 ≤ upN L k + (if 0 < L k then 1 else 0)
            by_cases gk : p = k
            · rw [← gk, if_pos h0]; omega
            · have := ihk (by omega); omega
        have := key n hp
        omega
      obtain ⟨u, hu⟩ := RS_ex (n := n) (sp := sp) (pl := pl) (li := li) 7 (b - 1) a (fun k => L k - 1) (by omega)
      have hu0 : u = 0 := by
        have h1 := RS_up 7 _ _ _ _ hu
        have h2 := up_ps (L := L) 1 n
        omega
      subst hu0
      rw [gm]
      refine wp_some ⟨rfl, 0, 5, rfl, by omega, by omega, Or.inr ⟨by omega, Or.inl ⟨rfl, hu⟩, fun d' u' hd => ?_, fun d' hd => ?_⟩⟩
      · rcases hd with ⟨-, hr⟩ | ⟨hp, h0, -⟩
        · have h1 := RS_up 7 _ _ _ _ hr
          have h2 := up_ps (L := L) 1 n
          omega
        · exact absurd h0 (hno d' hp)
      · rcases hd with ⟨rfl, -⟩ | ⟨hp, h0, -⟩
        · exact Nat.le_refl _
        · exact absurd h0 (hno d' hp)
    rw [if_neg (fun q => gm ((eq0_n (by omega)).mp q))]
    -- what is known of the plates below i
    let B : Nat → Int32 → Prop := fun i x => (x = -1 ∧ ∀ d u, d < i → ¬ FDs n sp pl li b a L d u) ∨ ∃ M d, x = nI (8 * M + 5 - d) ∧ d < i ∧ M ≤ upN L n ∧ FDs n sp pl li b a L d M ∧ (∀ d' u, d' < i → FDs n sp pl li b a L d' u → u ≤ M) ∧ ∀ d', d' < d → ¬ FDs n sp pl li b a L d' M
    have FDup : ∀ d u, FDs n sp pl li b a L d u → u ≤ upN L n := fun d u hd => by
      rcases hd with ⟨-, hr⟩ | ⟨-, -, -, hr⟩
      · exact Nat.le_trans (RS_up 7 _ _ _ _ hr) (up_ps 1 n)
      · exact Nat.le_trans (RS_up 7 _ _ _ _ hr) (up_rn n)
    have fin : ∀ i x, i ≤ n → B i x → (i = n ∨ ∃ d, x = nI (8 * upN L n + 5 - d) ∧ d < n) → WP (bnd (fX1_valueOf x h) fun x29 h28 => if nI (upN L n) ≤ x29 then (some (x, h28)) else (bnd (fX0_passed (nI (pkN L)) 1 h28) fun x31 h30 => bnd (fxX1_bestSaving F j (nI a) x31 (nI b - (1 : Int32)) h30) fun x33 h32 => bnd (fX1_valueOf x33 h32) fun x35 h34 => bnd (fX1_rated x35 5 h34) fun x37 h36 => lt (if x < x37 then x37 else x) fun x38 => some (x38, h36))) (fun r h' => h' = h ∧ ∃ M d, r = nI (8 * M + 5 - d) ∧ BSp n sp pl li b a L M d) := by
      intro i x hin hB hlast
      obtain ⟨Mw, dw, ew, hbw⟩ := ih (b - 1) a (fun k => L k - 1) (by omega) (by omega) ha hDp hzp
      obtain ⟨rw1, rw2⟩ := hbw.mx (by omega)
      have hMw : Mw ≤ upN L n := Nat.le_trans (RS_up 7 _ _ _ _ rw1) (up_ps 1 n)
      have dw5 := hbw.1
      have eps : fX0_passed (nI (pkN L)) 1 h = some (nI (pkN (fun k => L k - 1)), h) := passed_eq (t := 1) hD (by omega) h
      have eb1 : nI b - (1 : Int32) = nI (b - 1) := nI_sub (b := 1) (by omega)
      have rest : fX0_passed (nI (pkN L)) 1 h = some (nI (pkN (fun k => L k - 1)), h) := eps
      rcases hB with ⟨rfl, hno⟩ | ⟨M, d, rfl, hdi, hMu, hFD, hmax, hleast⟩
      · have hi : i = n := by
          rcases hlast with q | ⟨d, q, hd⟩
          · exact q
          · exact absurd q.symm (nI_nm1 (by omega))
        have ev : fX1_valueOf (-1) h = some (nI 0, h) := by unfold fX1_valueOf; rw [m1_div]; rfl
        rw [ev, bnd_eq, if_neg (fun q => by have := (le_n (by omega) (by omega)).mp q; omega), eps, bnd_eq, eb1, ew, bnd_eq, val_eq dw5 (by omega), bnd_eq, show (5 : Int32) = nI 5 from rfl, rat_eq (by omega), bnd_eq, lt_eq, if_pos (show (-1 : Int32) < nI (8 * Mw + 5 - 5) from by
          rw [Int32.lt_iff_toInt_lt, nI_toInt (by omega)]
          show (-1 : Int) < _
          omega)]
        refine wp_some ⟨rfl, Mw, 5, rfl, by omega, by omega, Or.inr ⟨by omega, Or.inl ⟨rfl, rw1⟩, fun d' u hd => ?_, fun d' hd => ?_⟩⟩
        · rcases id hd with ⟨-, hr⟩ | ⟨hp, -⟩
          · exact rw2 u hr
          · exact absurd hd (hno d' u (by omega))
        · rcases id hd with ⟨rfl, -⟩ | ⟨hp, -⟩
          · exact Nat.le_refl _
          · exact absurd hd (hno d' Mw (by omega))
      · rw [val_eq (by omega) (by omega), bnd_eq]
        by_cases gl : upN L n ≤ M
        · rw [if_pos (nI_le gl (by omega))]
          refine wp_some ⟨rfl, M, d, rfl, by omega, by omega, Or.inr ⟨by omega, hFD, fun d' u hd => Nat.le_trans (FDup d' u hd) gl, fun d' hd => ?_⟩⟩
          apply Classical.byContradiction
          intro q
          exact hleast d' (by omega) hd
        · have hi : i = n := by
            rcases hlast with q | ⟨d2, q, hd2⟩
            · exact q
            · have := (eq_n (by omega) (by omega)).mp q
              omega
          rw [if_neg (fun q => gl ((le_n (by omega) (by omega)).mp q)), eps, bnd_eq, eb1, ew, bnd_eq, val_eq dw5 (by omega), bnd_eq, show (5 : Int32) = nI 5 from rfl, rat_eq (by omega), bnd_eq, lt_eq]
          by_cases gw : M < Mw
          · rw [if_pos (nI_lt (by omega) (by omega))]
            refine wp_some ⟨rfl, Mw, 5, rfl, by omega, by omega, Or.inr ⟨by omega, Or.inl ⟨rfl, rw1⟩, fun d' u hd => ?_, fun d' hd => ?_⟩⟩
            · rcases id hd with ⟨-, hr⟩ | ⟨hp, -⟩
              · exact rw2 u hr
              · have := hmax d' u (by omega) hd; omega
            · rcases id hd with ⟨rfl, -⟩ | ⟨hp, -⟩
              · exact Nat.le_refl _
              · have := hmax d' Mw (by omega) hd; omega
          · rw [if_neg (fun q => by have := (lt_n (by omega) (by omega)).mp q; omega)]
            refine wp_some ⟨rfl, M, d, rfl, by omega, by omega, Or.inr ⟨by omega, hFD, fun d' u hd => ?_, fun d' hd => ?_⟩⟩
            · rcases id hd with ⟨-, hr⟩ | ⟨hp, -⟩
              · have := rw2 u hr; omega
              · exact hmax d' u (by omega) hd
            · apply Classical.byContradiction
              intro q
              exact hleast d' (by omega) hd
    refine wp_for2 n (fun i x h' => h' = h ∧ B i x) ?_ ?_ FU _ h (i0 := 0) (by omega) (FUb (by omega)) ⟨rfl, Or.inl ⟨rfl, fun d u hd => absurd hd (Nat.not_lt_zero _)⟩⟩
    · rintro i x h1 rec hi ⟨rfl, hB⟩ hrec
      unfold fX1_bestSaving_l28
      rw [c.r2 hj, if_neg (fun q => nI_ge hi (by omega) q)]
      have hp := hs.2.2.2.2 i hi
      have hw := wayN_le hs.1 ha hp.1
      have h7 := hD i (by omega)
      -- how the loop goes on
      have step : ∀ y, B (i + 1) y → WP (lt (nI i + 1) fun x16 => rec y x16 h1) (fun r h' => h' = h1 ∧ ∃ M d, r = nI (8 * M + 5 - d) ∧ BSp n sp pl li b a L M d) := fun y hy => by
        rw [lt_eq, nI_1]
        exact hrec _ _ ⟨rfl, hy⟩
      have cont : ((x = -1 ∧ ∀ d u, d < i → ¬ FDs n sp pl li b a L d u) ∨ ∃ M d, x = nI (8 * M + 5 - d) ∧ d < i ∧ M ≤ upN L n ∧ M < upN L n ∧ FDs n sp pl li b a L d M ∧ (∀ d' u, d' < i → FDs n sp pl li b a L d' u → u ≤ M) ∧ ∀ d', d' < d → ¬ FDs n sp pl li b a L d' M) → WP (ck (ib (nI i) 5) (bnd (fX8_way j (nI a) (ra h1 33 j (nI i)) h1) fun x10 h9 => lt (x10 + (1 : Int32)) fun x11 => bnd (fX0_leftOf (nI (pkN L)) (nI i) h9) fun x13 h12 => jn (κ := Int32 → Hp → Option (Int32 × Hp)) (fun y5_13 h15 => lt (nI i + 1) fun x16 => rec y5_13 x16 h15) fun k124_13 => if x13 ≤ 0 then (k124_13 x h12) else (if nI b < x11 then (k124_13 x h12) else (bnd (fX0_behindRun j (nI a) (nI (pkN L)) (nI i) h12) fun x18 h17 => ck (ib (nI i) 5) (bnd (fxX1_bestSaving F j (ra h17 33 j (nI i)) x18 (nI b - x11) h17) fun x20 h19 => bnd (fX1_valueOf x20 h19) fun x22 h21 => bnd (fX1_rated x22 (nI i) h21) fun x24 h23 => lt (if x < x24 then x24 else x) fun x25 => k124_13 x25 h23))))) (fun r h' => h' = h1 ∧ ∃ M d, r = nI (8 * M + 5 - d) ∧ BSp n sp pl li b a L M d) := by
        intro hB2
        have skip : (∀ u, ¬ FDs n sp pl li b a L i u) → B (i + 1) x := fun hno => by
          rcases hB with ⟨e, h0⟩ | ⟨M, d, e, hdi, hMu, hFD, hmax, hleast⟩
          · refine Or.inl ⟨e, fun d u hd => ?_⟩
            by_cases gd : d = i
            · rw [gd]; exact hno u
            · exact h0 d u (by omega)
          · refine Or.inr ⟨M, d, e, by omega, hMu, hFD, fun d' u hd' hF => ?_, hleast⟩
            by_cases gd : d' = i
            · rw [gd] at hF; exact absurd hF (hno u)
            · exact hmax d' u (by omega) hF
        rw [ck_p (ib_nI (by omega) (by decide)), c.r33 hj hn hi, way8_eq (by omega) hs.1 hs.2.1 c.1 ha hp.1, bnd_eq, nI_1, lt_eq, leftOf_eq hD (by omega), bnd_eq, jn_eq]
        by_cases gL : L i = 0
        · rw [if_pos ((le0_n (by omega)).mpr gL)]
          refine step x (skip (fun u hF => ?_))
          rcases hF with ⟨q, -⟩ | ⟨-, q, -⟩ <;> omega
        · rw [if_neg (fun q => gL ((le0_n (by omega)).mp q))]
          by_cases gb : b < wayN sp a (pl i) + 1
          · rw [if_pos (nI_lt gb (by omega))]
            refine step x (skip (fun u hF => ?_))
            rcases hF with ⟨q, -⟩ | ⟨-, -, q, -⟩ <;> omega
          · have hDr : D7 (rnL (wayN sp a (pl i)) i (li i) L) := rnL_D7 hD (by omega)
            have hzr : ∀ q, n ≤ q → rnL (wayN sp a (pl i)) i (li i) L q = 0 := fun q hq => by
              unfold rnL
              rw [if_neg (by omega), hz q hq]; omega
            obtain ⟨Mr, dr, er, hbr⟩ := ih (b - (wayN sp a (pl i) + 1)) (pl i) (rnL (wayN sp a (pl i)) i (li i) L) (by omega) (by omega) hp.1 hDr hzr
            obtain ⟨rr1, rr2⟩ := hbr.mx (by omega)
            have hMr : Mr ≤ upN L n := Nat.le_trans (RS_up 7 _ _ _ _ rr1) (up_rn n)
            have hFi : FDs n sp pl li b a L i Mr := Or.inr ⟨hi, by omega, by omega, rr1⟩
            have hFm : ∀ u, FDs n sp pl li b a L i u → u ≤ Mr := fun u hF => by
              rcases hF with ⟨q, -⟩ | ⟨-, -, -, hr⟩
              · omega
              · exact rr2 u hr
            rw [if_neg (fun q => gb ((lt_n (by omega) (by omega)).mp q)), behindRunC_eq hD (by omega) hs c ha hi, bnd_eq, ck_p (ib_nI (by omega) (by decide)), c.r33 hj hn hi, nI_sub (by omega), er, bnd_eq, val_eq hbr.1 (by omega), bnd_eq, rat_eq (by omega), bnd_eq, lt_eq]
            rcases hB2 with ⟨rfl, h0⟩ | ⟨M, d, rfl, hdi, hMu, hMl, hFD, hmax, hleast⟩
            · rw [if_pos (show (-1 : Int32) < nI (8 * Mr + 5 - i) from by
                rw [Int32.lt_iff_toInt_lt, nI_toInt (by omega)]
                show (-1 : Int) < _
                omega)]
              refine step _ (Or.inr ⟨Mr, i, rfl, by omega, hMr, hFi, fun d' u hd' hF => ?_, fun d' hd' hF => h0 d' Mr hd' hF⟩)
              by_cases gd : d' = i
              · rw [gd] at hF; exact hFm u hF
              · exact absurd hF (h0 d' u (by omega))
            · by_cases gw : M < Mr
              · rw [if_pos (nI_lt (by omega) (by omega))]
                refine step _ (Or.inr ⟨Mr, i, rfl, by omega, hMr, hFi, fun d' u hd' hF => ?_, fun d' hd' hF => ?_⟩)
                · by_cases gd : d' = i
                  · rw [gd] at hF; exact hFm u hF
                  · have := hmax d' u (by omega) hF; omega
                · have := hmax d' Mr hd' hF; omega
              · rw [if_neg (fun q => by have := (lt_n (by omega) (by omega)).mp q; omega)]
                refine step _ (Or.inr ⟨M, d, rfl, by omega, hMu, hFD, fun d' u hd' hF => ?_, hleast⟩)
                by_cases gd : d' = i
                · rw [gd] at hF; have := hFm u hF; omega
                · exact hmax d' u (by omega) hF
      rcases id hB with ⟨rfl, h0⟩ | ⟨M, d, rfl, hdi, hMu, hFD, hmax, hleast⟩
      · have ev : fX1_valueOf (-1) h1 = some (nI 0, h1) := by unfold fX1_valueOf; rw [m1_div]; rfl
        rw [ev, bnd_eq, if_neg (fun q => by have := (le_n (by omega) (by omega)).mp q; omega)]
        exact cont (Or.inl ⟨rfl, h0⟩)
      · rw [val_eq (by omega) (by omega), bnd_eq]
        by_cases gl : upN L n ≤ M
        · rw [if_pos (nI_le gl (by omega))]
          have eM : M = upN L n := by omega
          exact fin i _ (by omega) hB (Or.inr ⟨d, by rw [eM], by omega⟩)
        · rw [if_neg (fun q => gl ((le_n (by omega) (by omega)).mp q))]
          exact cont (Or.inr ⟨M, d, rfl, hdi, hMu, by omega, hFD, hmax, hleast⟩)
    · rintro x h1 rec ⟨rfl, hB⟩
      unfold fX1_bestSaving_l28
      rw [c.r2 hj, if_pos (nI_le (Nat.le_refl _) (by omega))]
      exact fin n x (Nat.le_refl _) hB (Or.inl rfl)
