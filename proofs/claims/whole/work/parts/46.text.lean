/-- class and reference read one line of a sort alike -/
def LRes (s : Nat) (Co : Nat → Hp → Hp → Prop) (hC hM : Hp) (b : Nat → Nat) (n q : Nat) : Prop :=
  (∃ f' p2 hC' hM', fX5_readLine (nI s) hC = some (1, hC') ∧ mLine s (mW hM b n q) (nI q) hM = some (1, hM') ∧ q < p2 ∧ CT hC' b n p2 ∧ MTk hM' b n (tq b n p2) ∧ FLT hC' hM' f' p2 ∧ Co f' hC' hM') ∨
  (∃ a hC' hM', fX5_readLine (nI s) hC = some (0, hC') ∧ mLine s (mW hM b n q) (nI q) hM = some (0, hM') ∧ hC'.1 3 0 3 = 1 ∧ hC'.1 3 0 4 = nI a ∧ hM'.1 10 0 15 = nI a)
def asg (idx : Nat) (h8 : Hp) : Hp := if rd h8 10 0 20 = 0 then wa h8 51 0 (nI idx) (ra h8 51 0 (nI idx)) else wa h8 51 0 (nI idx) (ra h8 52 0 0)
def Line (s : Nat) (w : Int64) (a : Int32) (h : Hp) : Option (Int32 × Hp) := if s = 0 then fX12_stageLine w a h else if s = 1 then fX12_showLine w a h else fX12_logLine w a h
theorem mLine_eq (s : Nat) (w : Int64) (a : Int32) (h : Hp) : mLine s w a h = bnd (Line s w a h) fun z h6 => if z = 0 then some (0, h6) else if rd h6 10 0 12 = 4 then (bnd (fX12_token h6) fun _ h11 => some (1, h11)) else fX12_fails h6 := rfl
theorem FU4 : FU = 3999996 + 1 + 1 + 1 + 1 := rfl
theorem line_asg {s hdn lo hi idx kk fi f x q n : Nat} {b : Nat → Nat} {Co : Nat → Hp → Hp → Prop} {hC hM : Hp} (hk1 : tk b n q = 1) (cC : CT hC b n (tr b n q)) (p9 : hC.1 3 0 9 = nI q) (cM : MTk hM b n q) (fl : FLT hC hM f x) (hx : x ≤ q) (hg : hM.1 10 0 20 = 1)
    (hh : fX5_headOf (nI s) hC = some (nI hdn, hC)) (hd : hdn < 11) (hfull : ∀ h, fX5_isFull (nI hdn) h = some (0, h)) (hnum : ∀ h, fX5_numbersOf (nI hdn) h = some (nI 1, h)) (hlo : lo ≤ 99) (hhi : hi ≤ 99) (hidx : idx < 81)
    (hcb : ∀ v h', v < 100 → h'.1 26 0 0 = nI v → fX5_canBe (nI hdn) (nI 0) h' = some (if lo ≤ v ∧ v ≤ hi then 1 else 0, h'))
    (hline : Line s (mW hM b n q) (nI q) hM = bnd (fX12_token hM) fun _ h5 => bnd (fX12_take (nI 0) (nI lo) (nI hi) h5) fun x9 h8 => if x9 = 0 then some (0, h8) else some (1, asg idx h8))
    (htell : ∀ h, fX5_tell (nI hdn) h = some ((), wr h kk 8 fi (ra h 26 0 0))) (hkk : kk ≠ 3 ∧ kk ≠ 36 ∧ kk ≠ 26) (hcnt : 8 < cnt kk)
    (hco : ∀ f' v hB hM', (f' = 0 → f = 0 ∧ lo ≤ v ∧ v ≤ hi) → (∀ k s j, k ≠ 3 → k ≠ 26 → ¬ (k = kk ∧ s = 8 ∧ j = fi) → hB.1 k s j = hC.1 k s j) → hB.1 kk 8 fi = nI v → (∀ k s j, k ≠ 10 → k ≠ 52 → ¬ (k = 51 ∧ j = idx) → hM'.1 k s j = hM.1 k s j) → (hM'.1 51 0 idx = nI v ∨ (f' ≠ 0 ∧ hM'.1 51 0 idx = hM.1 51 0 idx)) → Co f' hB hM') :
    LRes s Co hC hM b n q := by
  have hn : n ≤ 600 := cC.2.2.2.1
  have hrn : tr b n q ≤ n := cC.2.2.2.2.1
  have hqr := tr_gt (b := b) (n := n) (q := q) (by omega) (by omega)
  obtain ⟨h5, e5, c5, k5, j5⟩ := tok_next cM (by omega)
  have fl5 : FLT hC h5 f x := fl.same rfl rfl (j5 16 (by omega)) (j5 17 (by omega))
  have hge := tq_ge b n (tr b n q)
  have hqn := tq_le (b := b) hrn
  have g5 : h5.1 10 0 20 = nI 1 := (j5 20 (by omega)).trans hg
  have rl := readLine_unf (s := s) false hh hd (hfull hC)
  rw [if_neg (show ¬ false = true by decide), bnd_eq, FU4] at rl
  unfold LRes
  rw [mLine_eq, hline, e5, bnd_eq, rl]
  rcases num_step (i := 0) (k := 0) (c := 1) cC c5 fl5 (by omega) g5 (Or.inl rfl) hnum (by decide) (by decide) (by decide) hlo hhi (fun v h' hv e _ => hcb v h' hv e) with ⟨h2, v, f', g', hC1, hM1, hv, eC, eM, cC1, cM1, fl1, hg1, hgf, hff, v26, v52, kC, kM⟩ | ⟨h2, hC1, hM1, eC, eM, r3, r4, m15, -, -⟩
  · rw [eC, rl_end hnum (by decide), eM, bnd_eq, if_neg (show ¬ (1 : Int32) = 0 by decide)]
    have hasg : (∀ k s j, k ≠ 51 → (asg idx hM1).1 k s j = hM1.1 k s j) ∧ (∀ s j, j ≠ idx → (asg idx hM1).1 51 s j = hM1.1 51 s j) ∧ (asg idx hM1).2 = hM1.2 ∧ ((asg idx hM1).1 51 0 idx = nI v ∨ (f' ≠ 0 ∧ (asg idx hM1).1 51 0 idx = hM1.1 51 0 idx)) := by
      unfold asg
      by_cases hz : rd hM1 10 0 20 = 0
      · rw [if_pos hz]
        refine ⟨fun k s j hk => by rw [wa_g, if_neg (by omega)], fun s j hj => by rw [wa_g, nI_clamp (by omega), if_neg (by omega)], rfl, Or.inr ⟨?_, ?_⟩⟩
        · rcases hgf with w | w
          · subst w
            rw [show rd hM1 10 0 20 = nI 1 from hg1] at hz
            exact absurd hz (by decide)
          · exact w
        · rw [wa_g, nI_clamp (by omega), if_pos ⟨rfl, rfl, rfl⟩, ra_n (by omega)]; rfl
      · rw [if_neg hz]
        refine ⟨fun k s j hk => by rw [wa_g, if_neg (by omega)], fun s j hj => by rw [wa_g, nI_clamp (by omega), if_neg (by omega)], rfl, Or.inl ?_⟩
        rw [wa_g, nI_clamp (by omega), if_pos ⟨rfl, rfl, rfl⟩]
        exact v52
    obtain ⟨q1, q2, q3, q4⟩ := hasg
    have cM2 : MTk (asg idx hM1) b n (tq b n (tr b n (tq b n (tr b n q)))) := by
      obtain ⟨d1, d2, d3, d4, d5, d6, d7, d8, d9⟩ := cM1
      refine ⟨(q1 _ _ _ (by decide)).trans d1, d2, d3, fun j hj => by rw [q1 43 0 j (by decide)]; exact d4 j hj, (q1 _ _ _ (by decide)).trans d5, (q1 _ _ _ (by decide)).trans d6, fun w => q3.trans (d7 w), fun w => (q1 _ _ _ (by decide)).trans (d8 w), fun w => (q1 _ _ _ (by decide)).trans (d9 w)⟩
    have fl2 : FLT hC1 (asg idx hM1) f' (tq b n (tr b n q) + 1) := fl1.same rfl rfl (q1 _ _ _ (by decide)) (q1 _ _ _ (by decide))
    have hgt2 := tr_gt (b := b) (n := n) (q := tq b n (tr b n q)) (by omega) (by omega)
    rcases line_end (hdn := hdn) cC1 cM2 fl2 (by omega) rfl (Co f') (fun hA hM' kA kM' => by
      refine ⟨_, htell hA, fun k s j hk => by rw [wr_g, if_neg (by omega)], ?_⟩
      refine hco f' v _ hM' hff (fun k s j h3 h26 hno => ?_) ?_ (fun k s j h10 h52 h51 => ?_) ?_
      · rw [wr_g, Nat.mod_eq_of_lt hcnt, if_neg hno, kA k s j h3]
        exact kC k s j h3 (fun w => h26 w.1)
      · rw [wr_g, Nat.mod_eq_of_lt hcnt, if_pos ⟨rfl, rfl, rfl⟩]
        exact (kA 26 0 0 (by decide)).trans v26
      · rw [kM' k s j h10]
        by_cases hk51 : k = 51
        · subst hk51
          rw [q2 s j (by omega), kM 51 s j (by decide) (by omega)]
          exact k5 _ _ _ h10
        · rw [q1 k s j hk51, kM k s j h10 (by omega)]
          exact k5 _ _ _ h10
      · rw [kM' 51 0 idx (by decide)]
        rcases q4 with w | ⟨w, w2⟩
        · exact Or.inl w
        · exact Or.inr ⟨w, w2.trans ((kM 51 0 idx (by decide) (by omega)).trans (k5 _ _ _ (by decide)))⟩) with ⟨p2, hC', hM', a1, a2, a3, a4, a5, a6, a7⟩ | ⟨a, hC', hM', a1, a2, a3, a4, a5⟩
    · exact Or.inl ⟨f', p2, hC', hM', a1, a2, by omega, a4, a5, a6, a7⟩
    · exact Or.inr ⟨a, hC', hM', a1, a2, a3, a4, a5⟩
  · rw [eC, eM, bnd_eq, if_pos rfl, bnd_eq, if_pos rfl]
    exact Or.inr ⟨_, hC1, hM1, rfl, rfl, r3, r4, m15⟩
