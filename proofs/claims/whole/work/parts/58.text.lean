/-! all lines of a text, in step -/
def ZR (o : Option (Int32 × Hp)) : Prop := ∀ z h, o = some (z, h) → z = 0 ∨ z = 1
theorem zr_zk (x : Int32) (h : Hp) : ZR (ck (zk x) (some (x, h))) := by
  intro z h' e
  unfold ck at e
  by_cases q : zk x = true
  · rw [if_pos q] at e
    cases e
    unfold zk at q
    simp only [Bool.or_eq_true, decide_eq_true_eq, beq_iff_eq] at q
    exact q
  · rw [if_neg q] at e; cases e
theorem zr_bnd {ρ' : Type} {o' : Option (ρ' × Hp)} {f : ρ' → Hp → Option (Int32 × Hp)} (k : ∀ r h, ZR (f r h)) : ZR (bnd o' f) := by
  intro z h e
  cases o' with
  | none => cases e
  | some q => exact k q.1 q.2 z h e
theorem zr_ck {b : Bool} {o : Option (Int32 × Hp)} (k : ZR o) : ZR (ck b o) := by
  intro z h e
  unfold ck at e
  by_cases q : b = true
  · rw [if_pos q] at e; exact k z h e
  · rw [if_neg q] at e; cases e
theorem zr_lt {α : Type} {x : α} {f : α → Option (Int32 × Hp)} (k : ∀ y, ZR (f y)) : ZR (lt x f) := k x
theorem zr_jn {κ : Type} {k : κ} {b : κ → Option (Int32 × Hp)} (kk : ZR (b k)) : ZR (jn k b) := kk
theorem zr_if {c : Prop} [Decidable c] {o1 o2 : Option (Int32 × Hp)} (h1 : ZR o1) (h2 : ZR o2) : ZR (if c then o1 else o2) := by
  by_cases hc : c
  · rw [if_pos hc]; exact h1
  · rw [if_neg hc]; exact h2
theorem zr_itr1 {body : (Int32 → Hp → Option (Int32 × Hp)) → Int32 → Hp → Option (Int32 × Hp)} (k : ∀ rec x h, (∀ y h', ZR (rec y h')) → ZR (body rec x h)) : ∀ n x h, ZR (itr1 body n x h) := by
  intro n
  induction n with
  | zero => intro x h z h' e; cases e
  | succ n ih => intro x h; exact k _ x h ih
theorem zr_logl (l : Int32) (K : Hp → Option (Int32 × Hp)) (hK : ∀ h, ZR (K h)) (n : Nat) (x : Int32) (h : Hp) : ZR (itr1 (fX12_logLine_l148 l K) n x h) := by
  refine zr_itr1 (fun rec x h ih => ?_) n x h
  unfold fX12_logLine_l148
  exact zr_if (hK _) (zr_if (hK _) (zr_ck (zr_ck (zr_lt fun _ => zr_lt fun _ => ih _ _))))
theorem zr_jn1 {k : Hp → Option (Int32 × Hp)} {b : (Hp → Option (Int32 × Hp)) → Option (Int32 × Hp)} (h1 : ∀ h, ZR (k h)) (h2 : ∀ k : Hp → Option (Int32 × Hp), (∀ h, ZR (k h)) → ZR (b k)) : ZR (jn k b) := h2 k h1
theorem zr_jn2 {k : Int32 → Hp → Option (Int32 × Hp)} {b : (Int32 → Hp → Option (Int32 × Hp)) → Option (Int32 × Hp)} (h1 : ∀ x h, ZR (k x h)) (h2 : ∀ k : Int32 → Hp → Option (Int32 × Hp), (∀ x h, ZR (k x h)) → ZR (b k)) : ZR (jn k b) := h2 k h1
theorem zr_log (w : Int64) (a : Int32) (h : Hp) : ZR (fX12_logLine w a h) := by
  unfold fX12_logLine
  exact zr_jn1 (fun h2 => zr_if (zr_bnd fun _ _ => zr_bnd fun _ _ => zr_if (zr_zk _ _) (zr_if (zr_ck (zr_ck (zr_lt fun _ => zr_zk _ _))) (zr_ck (zr_ck (zr_lt fun _ => zr_zk _ _))))) (zr_bnd fun _ _ => zr_bnd fun _ _ => zr_bnd fun _ _ => zr_if (zr_zk _ _) (zr_bnd fun _ _ => zr_if (zr_zk _ _) (zr_ck (zr_lt fun _ => zr_jn2 (fun z h16 => zr_ck (zr_lt fun h17 => zr_logl _ _ (fun _ => zr_bnd fun _ _ => zr_ck (zr_lt fun _ => zr_zk _ _)) _ _ _)) (fun k hk => zr_if (hk _ _) (hk _ _))))))) (fun k hk => zr_if (hk _) (zr_if (hk _) (zr_if (hk _) (zr_bnd fun _ _ => zr_zk _ _))))
theorem zr_stage (w : Int64) (a : Int32) (h : Hp) : ZR (fX12_stageLine w a h) := by
  unfold fX12_stageLine
  exact zr_if (zr_bnd fun _ _ => zr_zk _ _) (zr_jn1 (fun h4 => zr_bnd fun _ _ => zr_jn2 (fun z h7 => zr_bnd fun _ _ => zr_if (zr_zk _ _) (zr_jn2 (fun z h11 => zr_if (zr_ck (zr_ck (zr_lt fun _ => zr_zk _ _))) (zr_ck (zr_ck (zr_lt fun _ => zr_zk _ _)))) (fun k hk => zr_if (hk _ _) (hk _ _)))) (fun k hk => zr_if (hk _ _) (hk _ _))) (fun k hk => zr_if (hk _) (zr_if (hk _) (zr_bnd fun _ _ => zr_zk _ _))))
theorem zr_show (w : Int64) (a : Int32) (h : Hp) : ZR (fX12_showLine w a h) := by
  unfold fX12_showLine
  exact zr_bnd fun _ _ => zr_if (zr_bnd fun _ _ => zr_zk _ _) (zr_bnd fun _ _ => zr_bnd fun _ _ => zr_ck (zr_lt fun _ => zr_jn1 (fun h9 => zr_ck (zr_lt fun _ => zr_jn1 (fun h12 => zr_bnd fun _ _ => zr_ck (zr_lt fun _ => zr_zk _ _)) (fun k hk => zr_if (hk _) (zr_ck (zr_lt fun _ => zr_ck (zr_ck (zr_lt fun _ => hk _))))))) (fun k hk => zr_if (hk _) (zr_bnd fun _ _ => zr_if (zr_zk _ _) (hk _)))))
theorem zr_Line (s : Nat) (w : Int64) (a : Int32) (h : Hp) : ZR (Line s w a h) := by
  unfold Line
  exact zr_if (zr_stage _ _ _) (zr_if (zr_show _ _ _) (zr_log _ _ _))
/-- one turn of the reference's loop over lines -/
theorem all_turn {s : Nat} (hs : s < 3) (K rec : Int32 → Hp → Option (Int32 × Hp)) {h : Hp} {b : Nat → Nat} {n q : Nat} (cM : MTk h b n q) (h0 : tk b n q ≠ 0) {z : Int32} {h' : Hp} (e : mLine s (mW (wr h 10 0 20 1) b n q) (nI q) (wr h 10 0 20 1) = some (z, h')) : fX12_allLines_l2 (nI s) K rec 1 h = rec z h' := by
  have i12 : rd h 10 0 12 = nI (mk (tk b n q)) := cM.2.2.2.2.2.1
  have i11 : rd h 10 0 11 = nI q := cM.2.2.2.2.1
  have n0 : ¬ rd h 10 0 12 = 0 := by
    rw [i12]; exact fun w => h0 ((mk_eq (tk_lt b n q) 0 (by decide)).mp w)
  rw [mLine_eq] at e
  have main : ∀ w, w = mW (wr h 10 0 20 1) b n q → (bnd (Line s w (nI q) (wr h 10 0 20 1)) fun z0_4 h6 => jn (κ := Int32 → Hp → Option (Int32 × Hp)) (fun y2_6 h8 => jn (κ := Hp → Option (Int32 × Hp)) (fun h10 => rec y2_6 h10) fun k103_8 =>
      if y2_6 = 0 then (k103_8 h8)
      else (bnd (fX12_token h8) fun _ h11 =>
      k103_8 h11)) fun k95_6 =>
      if z0_4 = 0 then (k95_6 z0_4 h6)
      else (if (rd h6 10 0 12) = 4 then (k95_6 z0_4 h6)
      else (bnd (fX12_fails h6) fun x13 h12 =>
      k95_6 x13 h12))) = rec z h' := by
    rintro w rfl
    cases hl : Line s (mW (wr h 10 0 20 1) b n q) (nI q) (wr h 10 0 20 1) with
    | none => rw [hl] at e; cases e
    | some y =>
      obtain ⟨y, h6⟩ := y
      have hy := zr_Line _ _ _ _ _ _ hl
      rw [hl, bnd_eq] at e
      rw [bnd_eq, jn_eq]
      simp only [jn_eq]
      rcases hy with rfl | rfl
      · rw [if_pos rfl] at e
        cases e
        rw [if_pos rfl, if_pos rfl]
      · rw [if_neg (by decide)] at e
        rw [if_neg (by decide)]
        by_cases h4 : rd h6 10 0 12 = 4
        · rw [if_pos h4] at e
          rw [if_pos h4, if_neg (by decide)]
          cases ht : fX12_token h6 with
          | none => rw [ht] at e; cases e
          | some v => rw [ht] at e; cases e; rfl
        · rw [if_neg h4] at e
          rw [if_neg h4]
          have hf : fX12_fails h6 = some (0, wr h6 10 0 15 (rd h6 10 0 11)) := rfl
          rw [hf] at e
          cases e
          rw [hf, bnd_eq, if_pos rfl]
  unfold fX12_allLines_l2
  rw [if_neg (show ¬ (1 : Int32) = 0 by decide), if_neg n0, lt_eq, i11, jn_eq]
  have hL : ∀ w : Int64, ∀ kk : Int32 → Hp → Option (Int32 × Hp), (if nI s = 0 then (bnd (fX12_stageLine w (nI q) (wr h 10 0 20 1)) fun x15 h14 => kk x15 h14) else (if nI s = 1 then (bnd (fX12_showLine w (nI q) (wr h 10 0 20 1)) fun x17 h16 => kk x17 h16) else (bnd (fX12_logLine w (nI q) (wr h 10 0 20 1)) fun x19 h18 => kk x19 h18))) = bnd (Line s w (nI q) (wr h 10 0 20 1)) kk := by
    intro w kk
    unfold Line
    rcases (show s = 0 ∨ s = 1 ∨ s = 2 by omega) with rfl | rfl | rfl
    · rw [if_pos (show nI 0 = 0 from rfl), if_pos rfl]
    · rw [if_neg (show ¬ nI 1 = 0 by decide), if_pos (show nI 1 = 1 from rfl), if_neg (by decide), if_pos rfl]
    · rw [if_neg (show ¬ nI 2 = 0 by decide), if_neg (show ¬ nI 2 = 1 by decide), if_neg (by decide), if_neg (by decide)]
  have hz1 : zk 1 = true := rfl
  by_cases h1 : tk b n q = 1
  · have : rd h 10 0 12 = 2 := by rw [i12, h1]; rfl
    rw [if_pos this]
    dsimp only
    rw [ck_p hz1, lt_eq, jn_eq]
    exact (hL _ _).trans (main _ (by unfold mW; rw [if_pos h1]; rfl))
  · have : ¬ rd h 10 0 12 = 2 := by rw [i12]; exact fun w => h1 ((mk_eq (tk_lt b n q) 1 (by decide)).mp w)
    rw [if_neg this]
    dsimp only
    rw [ck_p hz1, lt_eq, jn_eq]
    exact (hL _ _).trans (main _ (by unfold mW; rw [if_neg h1]))
def CoS (Co : Nat → Hp → Hp → Prop) : Prop := ∀ f hC hM hC' hM', (∀ k s j, k ≠ 3 → hC'.1 k s j = hC.1 k s j) → (∀ k s j, k ≠ 10 → hM'.1 k s j = hM.1 k s j) → Co f hC hM → Co f hC' hM'
def LOK (s : Nat) (Co : Nat → Hp → Hp → Prop) : Prop := ∀ {f x q n : Nat} {b : Nat → Nat} {hC hM : Hp}, CT hC b n (tr b n q) → hC.1 3 0 8 = nI (tk b n q) → hC.1 3 0 9 = nI q → MTk hM b n q → FLT hC hM f x → x ≤ q → hM.1 10 0 20 = 1 → Co f hC hM → LRes s Co hC hM b n q
theorem lines {s : Nat} (hs : s < 3) {Co : Nat → Hp → Hp → Prop} (hCo : CoS Co) (hL : LOK s Co) {b : Nat → Nat} {n : Nat} (hn : n ≤ 600) : ∀ (k m1 m2 p i f x : Nat) (hC hM : Hp), n - p < k → k ≤ m1 → k ≤ m2 → CT hC b n p → MTk hM b n (tq b n p) → FLT hC hM f x → x ≤ p → i ≤ p → Co f hC hM →
    ∃ z hC' hM', itr1 (fX5_readTape_l63 (nI s) (fun h14 => some ((), h14))) m1 (nI i) hC = some ((), hC') ∧ itr1 (fX12_allLines_l2 (nI s) (fun y20 h21 => ck (zk y20) (some (y20, h21)))) m2 1 hM = some (z, hM') ∧
      ((z = 1 ∧ ∃ f x, FLT hC' hM' f x ∧ Co f hC' hM') ∨ (z = 0 ∧ hC'.1 3 0 3 = 1 ∧ ∃ a, hC'.1 3 0 4 = nI a ∧ hM'.1 10 0 15 = nI a)) := by
  intro k
  induction k with
  | zero => intro m1 m2 p i f x hC hM h0; exact absurd h0 (Nat.not_lt_zero _)
  | succ k ih =>
    intro m1 m2 p i f x hC hM hk hm1 hm2 cC cM fl hx hi co
    obtain ⟨m1, rfl⟩ : ∃ m, m1 = m + 1 := ⟨m1 - 1, by omega⟩
    obtain ⟨m2, rfl⟩ : ∃ m, m2 = m + 1 := ⟨m2 - 1, by omega⟩
    have hpn : p ≤ n := cC.2.2.2.2.1
    have hq0 : ¬ tk b n (tq b n p) = 0 → tq b n p < n := fun w => Nat.lt_of_not_le (fun g => w (by unfold tk; rw [if_pos g]))
    obtain ⟨u, h1, e1, c1, c8, c9, fr1⟩ := nextToken_wp cC
    have k1 : ∀ k s j, k ≠ 3 → h1.1 k s j = hC.1 k s j := fun k s j hk => fr1 k s j (fun q hq hcov => by
      simp [wX5_nextToken] at hq
      rcases hq with rfl | rfl | rfl <;> exact hk hcov.1.symm)
    have f3 : h1.1 3 0 3 = hC.1 3 0 3 := fr1.at 3 0 3 rfl
    have f4 : h1.1 3 0 4 = hC.1 3 0 4 := fr1.at 3 0 4 rfl
    generalize hRC : itr1 (fX5_readTape_l63 (nI s) (fun h14 => some ((), h14))) m1 = RC
    generalize hRM : itr1 (fX12_allLines_l2 (nI s) (fun y20 h21 => ck (zk y20) (some (y20, h21)))) m2 = RM
    have uC : itr1 (fX5_readTape_l63 (nI s) (fun h14 => some ((), h14))) (m1 + 1) (nI i) hC = if nI (tk b n (tq b n p)) = 0 then some ((), h1) else bnd (fX5_readLine (nI s) h1) fun x12 h11 => if x12 = 0 then some ((), h11) else RC (nI (i + 1)) h11 := by
      rw [itr1_s, hRC]
      unfold fX5_readTape_l63
      rw [if_neg (show ¬ (600 : Int32) < nI i from fun w => absurd ((lt_n (a := 600) (by decide) (by omega)).mp w) (by omega)), e1, bnd_eq, show rd h1 3 0 8 = nI (tk b n (tq b n p)) from c8]
      rw [show nI (i + 1) = nI i + 1 from (nI_add i 1).symm]
      rfl
    by_cases h0 : tk b n (tq b n p) = 0
    · refine ⟨1, h1, hM, ?_, ?_, Or.inl ⟨rfl, f, x, fl.same f3 f4 rfl rfl, hCo _ _ _ _ _ k1 (fun _ _ _ _ => rfl) co⟩⟩
      · rw [uC, h0]; rfl
      · rw [itr1_s, hRM]
        unfold fX12_allLines_l2
        rw [if_neg (show ¬ (1 : Int32) = 0 by decide), if_pos (show rd hM 10 0 12 = 0 from by rw [show rd hM 10 0 12 = nI (mk (tk b n (tq b n p))) from cM.2.2.2.2.2.1, h0]; rfl)]
        rfl
    · have nz : ¬ nI (tk b n (tq b n p)) = 0 := fun w => h0 ((eq_n (b := 0) (by have := tk_lt b n (tq b n p); omega) (by decide)).mp w)
      rw [if_neg nz] at uC
      have hge := tq_ge b n p
      have hqn := hq0 h0
      have cM2 : MTk (wr hM 10 0 20 1) b n (tq b n p) := cM
      have fl2 : FLT h1 (wr hM 10 0 20 1) f x := fl.same f3 f4 rfl rfl
      have kM2 : ∀ k s j, k ≠ 10 → (wr hM 10 0 20 1).1 k s j = hM.1 k s j := fun k s j hk => wr_other hk
      rcases hL c1 c8 c9 cM2 fl2 (by omega) rfl (hCo _ _ _ _ _ k1 kM2 co) with ⟨f', p2, hC', hM', a1, a2, a3, a4, a5, a6, a7⟩ | ⟨a, hC', hM', a1, a2, a3, a4, a5⟩
      · obtain ⟨z, hC2, hM2, r1, r2, r3⟩ := ih m1 m2 p2 (i + 1) f' p2 hC' hM' (by omega) (by omega) (by omega) a4 a5 a6 (Nat.le_refl _) (by omega) a7
        refine ⟨z, hC2, hM2, ?_, ?_, r3⟩
        · rw [uC, a1, bnd_eq, if_neg (by decide), ← hRC]; exact r1
        · rw [itr1_s, all_turn hs _ _ cM h0 a2]; exact r2
      · refine ⟨0, hC', hM', ?_, ?_, Or.inr ⟨rfl, a3, a, a4, a5⟩⟩
        · rw [uC, a1, bnd_eq, if_pos rfl]
        · rw [itr1_s, all_turn hs _ _ cM h0 a2]
          obtain ⟨m2, rfl⟩ : ∃ m, m2 = m + 1 := ⟨m2 - 1, by omega⟩
          rw [itr1_s]
          unfold fX12_allLines_l2
          rw [if_pos rfl]
          rfl
