/-! duel, pure -/
abbrev DTs : Type := Nat × (Nat → Nat)
def fdS (mo : Bool) (k : Nat) (p : Option (Nat × Nat)) (x : Option Nat) : Option (Nat × Nat) :=
  match x with
  | none => p
  | some v => match p with
    | none => some (v, k)
    | some q => if (if mo = true then decide (q.1 < v) else decide (v < q.1)) = true then some (v, k) else some q
def fdO (mo : Bool) (f : Nat → Option Nat) : Nat → Option (Nat × Nat)
  | 0 => none
  | k + 1 => fdS mo k (fdO mo f k) (f k)
theorem fd_sp (mo : Bool) (f : Nat → Option Nat) : ∀ k, (fdO mo f k = none ∧ ∀ d, d < k → f d = none) ∨ ∃ v w, fdO mo f k = some (v, w) ∧ w < k ∧ f w = some v ∧ ∀ d u, d < k → f d = some u → (mo = true → u ≤ v ∧ (u = v → w ≤ d)) ∧ (mo = false → v ≤ u) := by
  intro k
  induction k with
  | zero => exact Or.inl ⟨rfl, fun d hd => absurd hd (Nat.not_lt_zero _)⟩
  | succ k ih =>
    have e : fdO mo f (k + 1) = fdS mo k (fdO mo f k) (f k) := rfl
    rw [e]
    cases hx : f k with
    | none =>
      show (fdO mo f k = none ∧ _) ∨ ∃ v w, fdO mo f k = some (v, w) ∧ _
      rcases ih with ⟨h1, h2⟩ | ⟨v, w, h1, h2, h3, h4⟩
      · refine Or.inl ⟨h1, fun d hd => ?_⟩
        by_cases g : d = k
        · rw [g]; exact hx
        · exact h2 d (by omega)
      · refine Or.inr ⟨v, w, h1, by omega, h3, fun d u hd hu => ?_⟩
        by_cases g : d = k
        · rw [g, hx] at hu; cases hu
        · exact h4 d u (by omega) hu
    | some y =>
      rcases ih with ⟨h1, h2⟩ | ⟨v, w, h1, h2, h3, h4⟩
      · rw [h1]
        refine Or.inr ⟨y, k, rfl, by omega, hx, fun d u hd hu => ?_⟩
        by_cases g : d = k
        · rw [g, hx] at hu
          cases hu
          exact ⟨fun _ => ⟨Nat.le_refl _, fun _ => by omega⟩, fun _ => Nat.le_refl _⟩
        · rw [h2 d (by omega)] at hu; cases hu
      · rw [h1]
        have e2 : fdS mo k (some (v, w)) (some y) = if (if mo = true then decide (v < y) else decide (y < v)) = true then some (y, k) else some (v, w) := rfl
        rw [e2]
        by_cases c : (if mo = true then decide (v < y) else decide (y < v)) = true
        · rw [if_pos c]
          refine Or.inr ⟨y, k, rfl, by omega, hx, fun d u hd hu => ?_⟩
          by_cases g : d = k
          · rw [g, hx] at hu
            cases hu
            exact ⟨fun _ => ⟨Nat.le_refl _, fun _ => by omega⟩, fun _ => Nat.le_refl _⟩
          · have h5 := h4 d u (by omega) hu
            refine ⟨fun hm => ?_, fun hm => ?_⟩
            · rw [if_pos hm, decide_eq_true_eq] at c
              have := (h5.1 hm).1
              exact ⟨by omega, fun _ => by omega⟩
            · rw [if_neg (by rw [hm]; decide), decide_eq_true_eq] at c
              have := h5.2 hm
              omega
        · rw [if_neg c]
          refine Or.inr ⟨v, w, rfl, by omega, h3, fun d u hd hu => ?_⟩
          by_cases g : d = k
          · rw [g, hx] at hu
            cases hu
            refine ⟨fun hm => ?_, fun hm => ?_⟩
            · rw [if_pos hm, decide_eq_true_eq] at c
              exact ⟨by omega, fun _ => by omega⟩
            · rw [if_neg (by rw [hm]; decide), decide_eq_true_eq] at c
              omega
          · exact h4 d u (by omega) hu
def stD (n sp : Nat) (pl li : Nat → Nat) (i d : Nat) (s : DTs) : Option DTs :=
  if i % 2 = 0 then (if d = 5 then some (s.1, fun q => s.2 q - 1) else if d < n ∧ 0 < s.2 d then some (pl d, rnL (wayN sp s.1 (pl d)) d (li d) s.2) else none)
  else (if d = 5 then some s else if d < n ∧ 0 < s.2 d then some (s.1, updN s.2 d (s.2 d - 1)) else none)
def dvF (n sp : Nat) (pl li : Nat → Nat) : Nat → Nat → DTs → Nat
  | 0, _, s => upN s.2 n
  | r + 1, i, s => ((fdO (decide (i % 2 = 0)) (fun d => (stD n sp pl li i d s).map (dvF n sp pl li r (i + 1))) 6).getD (0, 0)).1
def chD (n sp : Nat) (pl li : Nat → Nat) (r i : Nat) (s : DTs) : Nat → Option Nat := fun d => (stD n sp pl li i d s).map (dvF n sp pl li r (i + 1))
section DUS
variable {n sp : Nat} {pl li : Nat → Nat}
theorem ch5 (r i : Nat) (s : DTs) : ∃ v, chD n sp pl li r i s 5 = some v := by
  unfold chD stD
  by_cases g : i % 2 = 0
  · rw [if_pos g, if_pos rfl]; exact ⟨_, rfl⟩
  · rw [if_neg g, if_pos rfl]; exact ⟨_, rfl⟩
/-- the best choice is there, and gives the value -/
theorem fd_dv (r i : Nat) (s : DTs) : ∃ w, fdO (decide (i % 2 = 0)) (chD n sp pl li r i s) 6 = some (dvF n sp pl li (r + 1) i s, w) ∧ w < 6 ∧ chD n sp pl li r i s w = some (dvF n sp pl li (r + 1) i s) := by
  obtain ⟨v5, h5⟩ := ch5 (n := n) (sp := sp) (pl := pl) (li := li) r i s
  rcases fd_sp (decide (i % 2 = 0)) (chD n sp pl li r i s) 6 with ⟨-, h⟩ | ⟨v, w, h1, h2, h3, -⟩
  · rw [h 5 (by decide)] at h5; cases h5
  · have e : dvF n sp pl li (r + 1) i s = v := by
      show ((fdO (decide (i % 2 = 0)) (chD n sp pl li r i s) 6).getD (0, 0)).1 = v
      rw [h1]; rfl
    rw [e]
    exact ⟨w, h1, h2, h3⟩
theorem dv_le : ∀ r i s, dvF n sp pl li r i s ≤ n := by
  intro r
  induction r with
  | zero => intro i s; exact upN_le _ n
  | succ r ih =>
    intro i s
    obtain ⟨w, -, -, h3⟩ := fd_dv (n := n) (sp := sp) (pl := pl) (li := li) r i s
    unfold chD at h3
    cases hs : stD n sp pl li i w s with
    | none => rw [hs] at h3; cases h3
    | some s' =>
      rw [hs] at h3
      have e : dvF n sp pl li r (i + 1) s' = dvF n sp pl li (r + 1) i s := Option.some.inj h3
      rw [← e]
      exact ih _ _
end DUS
theorem ch_run {n sp r i d a : Nat} {pl li L : Nat → Nat} (hi : i % 2 = 0) (hd : d < 5) : chD n sp pl li r i (a, L) d = if d < n ∧ 0 < L d then some (dvF n sp pl li r (i + 1) (pl d, rnL (wayN sp a (pl d)) d (li d) L)) else none := by
  unfold chD stD
  rw [if_pos hi, if_neg (by omega)]
  by_cases g : d < n ∧ 0 < L d
  · rw [if_pos g, if_pos g]; rfl
  · rw [if_neg g, if_neg g]; rfl
theorem ch_wait {n sp r i a : Nat} {pl li L : Nat → Nat} (hi : i % 2 = 0) : chD n sp pl li r i (a, L) 5 = some (dvF n sp pl li r (i + 1) (a, fun q => L q - 1)) := by
  unfold chD stD
  rw [if_pos hi, if_pos rfl]; rfl
theorem ch_gust {n sp r i d a : Nat} {pl li L : Nat → Nat} (hi : i % 2 = 1) (hd : d < 5) : chD n sp pl li r i (a, L) d = if d < n ∧ 0 < L d then some (dvF n sp pl li r (i + 1) (a, updN L d (L d - 1))) else none := by
  unfold chD stD
  rw [if_neg (by omega), if_neg (by omega)]
  by_cases g : d < n ∧ 0 < L d
  · rw [if_pos g, if_pos g]; rfl
  · rw [if_neg g, if_neg g]; rfl
theorem ch_calm {n sp r i a : Nat} {pl li L : Nat → Nat} (hi : i % 2 = 1) : chD n sp pl li r i (a, L) 5 = some (dvF n sp pl li r (i + 1) (a, L)) := by
  unfold chD stD
  rw [if_neg (by omega), if_pos rfl]; rfl
/-! duel: the class -/
theorem worstC {h : Hp} {j sp st n : Nat} {pl li le : Nat → Nat} {self : Nat → Int32 → Int32 → Int32 → Hp → Option (Int32 × Hp)} (hj : j < 10) (hs : SV sp st n pl li le) (c : CSt h j sp st n pl li le) {t i a : Nat} {L : Nat → Nat} (ht : t ≤ 3) (hi : i % 2 = 1) (ha : a ≤ 9) (hD : D7 L) (hz : ∀ q, n ≤ q → L q = 0) (hself : 1 ≤ t → ∀ L', D7 L' → (∀ q, n ≤ q → L' q = 0) → ∃ d, d ≤ 5 ∧ self j (nI a) (nI (pkN L')) (nI (t - 1)) h = some (nI (8 * dvF n sp pl li (t - 1) (i + 1) (a, L') + 5 - d), h)) : fX1_worstOf self j (nI a) (nI (pkN L)) (nI t) h = some (nI (dvF n sp pl li t i (a, L)), h) := by
  have hn := hs.2.2.2.1
  unfold fX1_worstOf
  by_cases g0 : t = 0
  · subst g0
    rw [if_neg (show ¬ (0 : Int32) < nI 0 by decide), standing_eq hD, bnd_eq, up_n hz 5 hn]
    rfl
  obtain ⟨r, rfl⟩ : ∃ r, t = r + 1 := ⟨t - 1, by omega⟩
  rw [Nat.add_sub_cancel] at hself
  have et : nI (r + 1) - (1 : Int32) = nI r := nI_sub (b := 1) (by omega)
  obtain ⟨d0, hd0, e0⟩ := hself (by omega) L hD hz
  have b0 := dv_le (n := n) (sp := sp) (pl := pl) (li := li) r (i + 1) (a, L)
  rw [if_pos (show (0 : Int32) < nI (r + 1) from nI_lt (a := 0) (by omega) (by omega)), et, e0, bnd_eq, val_eq hd0 (by omega), bnd_eq]
  obtain ⟨w, hf, hw6, hfw⟩ := fd_dv (n := n) (sp := sp) (pl := pl) (li := li) r i (a, L)
  have bv := dv_le (n := n) (sp := sp) (pl := pl) (li := li) (r + 1) i (a, L)
  have hmo : decide (i % 2 = 0) = false := decide_eq_false (by omega)
  have hmin : ∀ d u, d < 6 → chD n sp pl li r i (a, L) d = some u → dvF n sp pl li (r + 1) i (a, L) ≤ u := by
    rcases fd_sp (decide (i % 2 = 0)) (chD n sp pl li r i (a, L)) 6 with ⟨h1, -⟩ | ⟨v, w', h1, -, -, h4⟩
    · rw [h1] at hf; cases hf
    · rw [hf] at h1
      cases h1
      exact fun d u hd hu => (h4 d u hd hu).2 hmo
  apply wp_same
  refine wp_for2 n (fun k x h' => h' = h ∧ ∃ v d, x = nI v ∧ v ≤ 5 ∧ d < 6 ∧ chD n sp pl li r i (a, L) d = some v ∧ ∀ d' u, (d' < k ∨ d' = 5) → chD n sp pl li r i (a, L) d' = some u → v ≤ u) ?_ ?_ FU _ h (i0 := 0) (by omega) (FUb (by omega)) ⟨rfl, _, 5, rfl, by omega, by omega, ch_calm hi, fun d' u hd hu => ?_⟩
  · rintro k x h1 rec hk ⟨rfl, v, d, rfl, hv5, hd6, hch, hmn⟩ hrec
    unfold fX1_worstOf_l26
    have h7 := hD k (by omega)
    rw [c.r2 hj, if_neg (fun q => nI_ge hk (by omega) q), leftOf_eq hD (by omega), bnd_eq, jn_eq]
    by_cases gL : L k = 0
    · rw [if_pos ((le0_n (by omega)).mpr gL)]
      dsimp only
      rw [lt_eq, nI_1]
      refine hrec _ _ ⟨rfl, v, d, rfl, hv5, hd6, hch, fun d' u hd' hu => ?_⟩
      by_cases g : d' = k
      · rw [g, ch_gust hi (by omega), if_neg (by omega)] at hu; cases hu
      · exact hmn d' u (by omega) hu
    · have hDg : D7 (updN L k (L k - 1)) := hD.up (by omega)
      have hzg : ∀ q, n ≤ q → updN L k (L k - 1) q = 0 := fun q hq => by unfold updN; rw [if_neg (by omega)]; exact hz q hq
      obtain ⟨dg, hdg, eg⟩ := hself (by omega) _ hDg hzg
      have bg := dv_le (n := n) (sp := sp) (pl := pl) (li := li) r (i + 1) (a, updN L k (L k - 1))
      have hck : chD n sp pl li r i (a, L) k = some (dvF n sp pl li r (i + 1) (a, updN L k (L k - 1))) := by rw [ch_gust hi (by omega), if_pos ⟨hk, by omega⟩]
      rw [if_neg (fun q => gL ((le0_n (by omega)).mp q)), show nI (L k) - (1 : Int32) = nI (L k - 1) from nI_sub (b := 1) (by omega), with_eq hD (by omega) (by omega), bnd_eq, et, eg, bnd_eq, val_eq hdg (by omega), bnd_eq, minI (by omega) (by omega), lt_eq]
      dsimp only
      rw [lt_eq, nI_1]
      by_cases gm : v ≤ dvF n sp pl li r (i + 1) (a, updN L k (L k - 1))
      · rw [Nat.min_eq_left gm]
        refine hrec _ _ ⟨rfl, v, d, rfl, hv5, hd6, hch, fun d' u hd' hu => ?_⟩
        by_cases g : d' = k
        · rw [g, hck] at hu
          cases hu
          exact gm
        · exact hmn d' u (by omega) hu
      · rw [Nat.min_eq_right (by omega)]
        refine hrec _ _ ⟨rfl, _, k, rfl, by omega, by omega, hck, fun d' u hd' hu => ?_⟩
        by_cases g : d' = k
        · rw [g, hck] at hu
          cases hu
          exact Nat.le_refl _
        · have := hmn d' u (by omega) hu; omega
  · rintro x h1 rec ⟨rfl, v, d, rfl, hv5, hd6, hch, hmn⟩
    unfold fX1_worstOf_l26
    rw [c.r2 hj, if_pos (nI_le (Nat.le_refl _) (by omega))]
    refine wp_some ⟨?_, rfl⟩
    have h1' := hmin d v hd6 hch
    have h2' : v ≤ dvF n sp pl li (r + 1) i (a, L) := by
      by_cases g5 : w = 5
      · exact hmn w _ (Or.inr g5) hfw
      · have hwn : w < n := by
          rw [ch_gust hi (by omega)] at hfw
          apply Classical.byContradiction
          intro q
          rw [if_neg (by omega)] at hfw; cases hfw
        exact hmn w _ (Or.inl hwn) hfw
    rw [show v = dvF n sp pl li (r + 1) i (a, L) by omega]
  · have : d' = 5 := by omega
    rw [this, ch_calm hi] at hu
    cases hu
    exact Nat.le_refl _
theorem duelC {h : Hp} {j sp st n : Nat} {pl li le : Nat → Nat} (hj : j < 10) (hs : SV sp st n pl li le) (c : CSt h j sp st n pl li le) : ∀ F t i a L, t < 2 * F → t ≤ 3 → i % 2 = 0 → a ≤ 9 → D7 L → (∀ q, n ≤ q → L q = 0) → ∃ d, d ≤ 5 ∧ fxX1_bestAgainst F j (nI a) (nI (pkN L)) (nI t) h = some (nI (8 * dvF n sp pl li t i (a, L) + 5 - d), h) ∧ (1 ≤ t → fdO true (chD n sp pl li (t - 1) i (a, L)) 6 = some (dvF n sp pl li t i (a, L), d)) := by
  have hn := hs.2.2.2.1
  intro F
  induction F with
  | zero => intro t i a L ht; omega
  | succ F ih =>
    intro t i a L ht ht3 hi ha hD hz
    show ∃ d, d ≤ 5 ∧ fX1_bestAgainst (fX1_worstOf (fxX1_bestAgainst F)) j (nI a) (nI (pkN L)) (nI t) h = some (nI (8 * dvF n sp pl li t i (a, L) + 5 - d), h) ∧ (1 ≤ t → fdO true (chD n sp pl li (t - 1) i (a, L)) 6 = some (dvF n sp pl li t i (a, L), d))
    have hu5 := upN_le L n
    by_cases g0 : t = 0
    · subst g0
      refine ⟨5, Nat.le_refl _, ?_, fun q => by omega⟩
      unfold fX1_bestAgainst
      rw [if_neg (show ¬ (0 : Int32) < nI 0 by decide), standing_eq hD, bnd_eq, up_n hz 5 hn, show (5 : Int32) = nI 5 from rfl, rat_eq (by omega), bnd_eq]
      rfl
    obtain ⟨r, rfl⟩ : ∃ r, t = r + 1 := ⟨t - 1, by omega⟩
    have et : nI (r + 1) - (1 : Int32) = nI r := nI_sub (b := 1) (by omega)
    -- what the rival makes of a stand
    have wor : ∀ a' L', a' ≤ 9 → D7 L' → (∀ q, n ≤ q → L' q = 0) → fX1_worstOf (fxX1_bestAgainst F) j (nI a') (nI (pkN L')) (nI r) h = some (nI (dvF n sp pl li r (i + 1) (a', L')), h) := fun a' L' ha' hD' hz' => by
      refine worstC hj hs c (by omega) (by omega) ha' hD' hz' (fun h1 L2 hD2 hz2 => ?_)
      obtain ⟨d, hd, e, -⟩ := ih (r - 1) (i + 1 + 1) a' L2 (by omega) (by omega) (by omega) ha' hD2 hz2
      exact ⟨d, hd, e⟩
    obtain ⟨w, hf, hw6, hfw⟩ := fd_dv (n := n) (sp := sp) (pl := pl) (li := li) r i (a, L)
    have bv := dv_le (n := n) (sp := sp) (pl := pl) (li := li) (r + 1) i (a, L)
    have hmo : decide (i % 2 = 0) = true := decide_eq_true hi
    rw [hmo] at hf
    have hmax : ∀ d u, d < 6 → chD n sp pl li r i (a, L) d = some u → u ≤ dvF n sp pl li (r + 1) i (a, L) ∧ (u = dvF n sp pl li (r + 1) i (a, L) → w ≤ d) := by
      rcases fd_sp true (chD n sp pl li r i (a, L)) 6 with ⟨h1, -⟩ | ⟨v, w', h1, -, -, h4⟩
      · rw [h1] at hf; cases hf
      · rw [hf] at h1
        cases h1
        exact fun d u hd hu => (h4 d u hd hu).1 rfl
    refine ⟨w, by omega, ?_, fun _ => by rw [Nat.add_sub_cancel]; exact hf⟩
    have hDp : D7 (fun k => L k - 1) := fun k hk => by have := hD k hk; show L k - 1 ≤ 7; omega
    have hzp : ∀ q, n ≤ q → (fun k => L k - 1) q = 0 := fun q hq => by show L q - 1 = 0; rw [hz q hq]
    have bw := dv_le (n := n) (sp := sp) (pl := pl) (li := li) r (i + 1) (a, fun k => L k - 1)
    have eps : fX0_passed (nI (pkN L)) 1 h = some (nI (pkN (fun k => L k - 1)), h) := passed_eq (t := 1) hD (by omega) h
    apply wp_same
    unfold fX1_bestAgainst
    rw [if_pos (show (0 : Int32) < nI (r + 1) from nI_lt (a := 0) (by omega) (by omega)), eps, bnd_eq, et, wor a _ ha hDp hzp, bnd_eq, show (5 : Int32) = nI 5 from rfl, rat_eq (by omega), bnd_eq]
    refine wp_for2 n (fun k x h' => h' = h ∧ ∃ v d, x = nI (8 * v + 5 - d) ∧ v ≤ 5 ∧ (d < k ∨ d = 5) ∧ chD n sp pl li r i (a, L) d = some v ∧ ∀ d' u, (d' < k ∨ d' = 5) → chD n sp pl li r i (a, L) d' = some u → u ≤ v ∧ (u = v → d ≤ d')) ?_ ?_ FU _ h (i0 := 0) (by omega) (FUb (by omega)) ⟨rfl, _, 5, rfl, by omega, Or.inr rfl, ch_wait hi, fun d' u hd hu => ?_⟩
    · rintro k x h1 rec hk ⟨rfl, v, d, rfl, hv5, hd, hch, hmx⟩ hrec
      unfold fX1_bestAgainst_l35
      have h7 := hD k (by omega)
      have hp := hs.2.2.2.2 k hk
      have hwl := wayN_le hs.1 ha hp.1
      rw [c.r2 hj, if_neg (fun q => nI_ge hk (by omega) q), leftOf_eq hD (by omega), bnd_eq, jn_eq]
      by_cases gL : L k = 0
      · rw [if_pos ((le0_n (by omega)).mpr gL)]
        dsimp only
        rw [lt_eq, nI_1]
        refine hrec _ _ ⟨rfl, v, d, rfl, hv5, by omega, hch, fun d' u hd' hu => ?_⟩
        by_cases g : d' = k
        · rw [g, ch_run hi (by omega), if_neg (by omega)] at hu; cases hu
        · exact hmx d' u (by omega) hu
      · have hDr : D7 (rnL (wayN sp a (pl k)) k (li k) L) := rnL_D7 hD (by omega)
        have hzr : ∀ q, n ≤ q → rnL (wayN sp a (pl k)) k (li k) L q = 0 := fun q hq => by
          unfold rnL
          rw [if_neg (by omega), hz q hq]; omega
        have br := dv_le (n := n) (sp := sp) (pl := pl) (li := li) r (i + 1) (pl k, rnL (wayN sp a (pl k)) k (li k) L)
        have hck : chD n sp pl li r i (a, L) k = some (dvF n sp pl li r (i + 1) (pl k, rnL (wayN sp a (pl k)) k (li k) L)) := by rw [ch_run hi (by omega), if_pos ⟨hk, by omega⟩]
        rw [if_neg (fun q => gL ((le0_n (by omega)).mp q)), behindRunC_eq hD (by omega) hs c ha hk, bnd_eq, ck_p (ib_nI (by omega) (by decide)), c.r33 hj hn hk, et, wor (pl k) _ hp.1 hDr hzr, bnd_eq, rat_eq (by omega), bnd_eq, lt_eq]
        dsimp only
        generalize hy : dvF n sp pl li r (i + 1) (pl k, rnL (wayN sp a (pl k)) k (li k) L) = y at br hck
        rw [maxI (by omega) (by omega), lt_eq, nI_1]
        by_cases gm : 8 * v + 5 - d < 8 * y + 5 - k
        · rw [Nat.max_eq_right (by omega)]
          refine hrec _ _ ⟨rfl, y, k, rfl, by omega, Or.inl (by omega), hck, fun d' u hd' hu => ?_⟩
          by_cases g : d' = k
          · rw [g, hck] at hu
            cases hu
            exact ⟨Nat.le_refl _, fun _ => by omega⟩
          · have := hmx d' u (by omega) hu
            exact ⟨by omega, fun _ => by omega⟩
        · rw [Nat.max_eq_left (by omega)]
          refine hrec _ _ ⟨rfl, v, d, rfl, hv5, by omega, hch, fun d' u hd' hu => ?_⟩
          by_cases g : d' = k
          · rw [g, hck] at hu
            cases hu
            exact ⟨by omega, fun _ => by omega⟩
          · exact hmx d' u (by omega) hu
    · rintro x h1 rec ⟨rfl, v, d, rfl, hv5, hd, hch, hmx⟩
      unfold fX1_bestAgainst_l35
      rw [c.r2 hj, if_pos (nI_le (Nat.le_refl _) (by omega))]
      refine wp_some ⟨?_, rfl⟩
      have h1' := hmax d v (by omega) hch
      have hwk : w < n ∨ w = 5 := by
        by_cases g5 : w = 5
        · exact Or.inr g5
        · left
          rw [ch_run hi (by omega)] at hfw
          apply Classical.byContradiction
          intro q
          rw [if_neg (by omega)] at hfw; cases hfw
      have h2' := hmx w _ hwk hfw
      have ev : v = dvF n sp pl li (r + 1) i (a, L) := by omega
      have ed : d = w := Nat.le_antisymm (h2'.2 ev.symm) (h1'.2 ev)
      rw [ev, ed]
    · have : d' = 5 := by omega
      rw [this, ch_wait hi] at hu
      cases hu
      exact ⟨Nat.le_refl _, fun _ => by omega⟩
