/-! a stage with no plate -/
theorem finish0_wp {h : Hp} {L : Nat → Nat} (hd : D7 L) (e2 : h.1 6 10 2 = nI 0) (e13 : h.1 13 0 0 = nI (pkN L)) : ∃ h', fX2_finish (nI 0) h = some ((), h') ∧ (∀ k s j, ¬ (k = 14 ∧ j = 0) → ¬ (k = 16 ∧ j = 0) → h'.1 k s j = h.1 k s j) ∧ h'.1 14 0 0 = 3 ∧ h'.1 16 0 0 = 0 := by
  suffices hw : WP (fX2_finish (nI 0) h) (fun _ h' => (∀ k s j, ¬ (k = 14 ∧ j = 0) → ¬ (k = 16 ∧ j = 0) → h'.1 k s j = h.1 k s j) ∧ h'.1 14 0 0 = 3 ∧ h'.1 16 0 0 = 0) by
    obtain ⟨u, h', e, q⟩ := hw
    exact ⟨h', e, q⟩
  unfold fX2_finish
  have r2 : rd h 6 10 2 = nI 0 := e2
  have hib : ib (nI 0) 2200 = true := ib_nI (by omega) (by decide)
  rw [jn_eq, r2, if_pos (show nI 0 = (0 : Int32) from rfl)]
  dsimp only
  rw [ck_p hib, show ra h 13 0 (nI 0) = nI (pkN L) by rw [ra_n (by omega)]; exact e13, soonest_eq hd (by decide) (Nat.zero_le 5) e2, bnd_eq]
  refine wp_for3 0 (fun p a b h' => a = 1 ∧ h' = h) ?_ ?_ FU _ _ h (i0 := 0) (by omega) (FUb (by omega)) ⟨rfl, rfl⟩
  · intro p a b h1 rec hp
    exact absurd hp (Nat.not_lt_zero _)
  · rintro a b h1 rec ⟨rfl, rfl⟩
    unfold fX2_finish_l33
    rw [r2, if_pos (nI_le (Nat.le_refl _) (by omega))]
    dsimp only
    rw [jn_eq, if_neg ne10]
    dsimp only
    rw [ck_p hib, lt_eq, if_neg ne10, ck_p hib, lt_eq]
    refine wp_some ⟨fun k s j u1 u2 => ?_, ?_, ?_⟩
    · rw [wa_g, nI_clamp (by omega), if_neg (by omega), wa_g, nI_clamp (by omega), if_neg (by omega)]
    · rw [wa_g, if_neg (by omega), wa_g, nI_clamp (by omega), if_pos ⟨rfl, rfl, rfl⟩]; exact nar_b (x := 3) (by decide)
    · rw [wa_g, nI_clamp (by omega), if_pos ⟨rfl, rfl, rfl⟩]; exact nar_s (x := 0) (by decide)
theorem rc_none {sp st : Nat} {pl li le : Nat → Nat} {c : Nat} (h : Rc (GC 0 sp st pl li le) c) : c = c0N (GC 0 sp st pl li le) := by
  obtain ⟨m, hm⟩ := h
  cases m with
  | zero => exact hm
  | succ m =>
    obtain ⟨d, q, -, -, hk, -⟩ := hm
    have w : decide (q < 0) = true := (kp_le hk).1
    exact absurd (of_decide_eq_true w) (Nat.not_lt_zero _)
def FT0 (h : Hp) (sp st : Nat) (pl li le : Nat → Nat) : Prop := h.1 14 0 0 = 3 ∧ h.1 16 0 0 = 0 ∧ ∃ s, KT h 0 (GC 0 sp st pl li le) 1 s ∧ s 0 = c0N (GC 0 sp st pl li le)
theorem explore0_wp {h : Hp} {sp st a : Nat} {pl li le : Nat → Nat} {l2 : Int32} (hv : SV sp st 0 pl li le) (ha : a < 12) (ha10 : a ≠ 10) (hc : CSt h a sp st 0 pl li le) (hk : KB h) (hl : zk l2 = true) : ∃ h', fX2_explore a l2 h = some (1, h') ∧ KY h h' ∧ CSt h' 10 sp st 0 pl li le ∧ h'.1 0 0 1 = l2 ∧ FT0 h' sp st pl li le := by
  obtain ⟨h1, f, s, e, t, b1, b2, b3, b4, b5, b6, b7, b8, b9, c1, c2, ky⟩ := beginC_wp hv ha ha10 hc hk hl
  have hf1 : f = 1 := by
    apply Classical.byContradiction
    intro hne
    have := t.inj (by omega) 0 1 (by omega) (by omega) ((rc_none (t.2.1 0 (by omega)).1).trans (rc_none (t.2.1 1 (by omega)).1).symm)
    omega
  obtain ⟨h2, e2, o2, m2, n2⟩ := finish0_wp (lpC_D7 0 (s 0)) b4.2.2.1 (t.2.1 0 b1).2.2.1
  have hib : ib (nI 0) 2200 = true := ib_nI (by omega) (by decide)
  have hw : WP (itr1 (fX2_explore_l40 l2 (fun h23 => bnd (fX2_isForever 0 h23) fun x25 h24 => ck (zk x25) (some (x25, h24)))) FU 0 h1) (fun r h' => r = 1 ∧ h' = wr h2 0 0 3 (nI 0)) := by
    refine wp_itr1 (fun m x h' => (m = 2 ∧ x = nI 0 ∧ h' = h1) ∨ (m = 1 ∧ x = nI 1 ∧ h' = wr h2 0 0 3 (nI 0))) ?_ FU 2 0 h1 (FUb (by decide)) (Or.inl ⟨rfl, rfl, rfl⟩)
    rintro m x h' rec (⟨rfl, rfl, rfl⟩ | ⟨rfl, rfl, rfl⟩) hrec
    · unfold fX2_explore_l40
      have r3 : rd h' 0 0 3 = nI 1 := b6
      have r62 : rd h' 6 10 2 = nI 0 := b4.2.2.1
      have r17 : ra h' 17 0 (nI 0) = nI 0 := by rw [ra_n (by omega)]; exact b7
      have r15 : ra h' 15 0 (nI 0) = nI 0 := by rw [ra_n (by omega)]; exact c1
      rw [if_neg (show ¬ (1000000 : Int32) ≤ nI 0 by decide), r3, if_neg (show ¬ nI 1 ≤ (0 : Int32) by decide), show nI 1 - (1 : Int32) = nI 0 from nI_sub (b := 1) (by omega), ck_p hib, r17, lt_eq, ck_p hib, r15, lt_eq, jn_eq, r62, if_neg (show ¬ nI 0 < nI 0 by decide), e2, bnd_eq, show rd h2 0 0 3 = nI 1 from (o2 0 0 3 (by omega) (by omega)).trans b6, show nI 1 - (1 : Int32) = nI 0 from nI_sub (b := 1) (by omega), lt_eq]
      dsimp only
      rw [lt_eq, nI_1]
      exact hrec 1 _ _ (by omega) (Or.inr ⟨rfl, rfl, rfl⟩)
    · unfold fX2_explore_l40
      rw [if_neg (show ¬ (1000000 : Int32) ≤ nI 1 by decide), show rd (wr h2 0 0 3 (nI 0)) 0 0 3 = nI 0 from rfl, if_pos (show nI 0 ≤ (0 : Int32) by decide)]
      dsimp only
      unfold fX2_isForever
      have r2 : rd (wr h2 0 0 3 (nI 0)) 0 0 2 = nI f := (o2 0 0 2 (by omega) (by omega)).trans t.1
      rw [jn_eq, if_neg (show ¬ (0 : Int32) < 0 by decide), r2, hf1, if_neg (show ¬ nI 1 ≤ (0 : Int32) by decide), ck_p (show ib 0 2200 = true from hib), show ra (wr h2 0 0 3 (nI 0)) 14 0 0 = 3 from m2, if_pos rfl, ck_p zk_1, bnd_eq, ck_p zk_1]
      exact wp_some ⟨rfl, rfl⟩
  obtain ⟨r, h', e', rfl, rfl⟩ := hw
  have vo : ∀ k s j, ¬ (k = 14 ∧ j = 0) → ¬ (k = 16 ∧ j = 0) → ¬ (k = 0 ∧ j = 3) → (wr h2 0 0 3 (nI 0)).1 k s j = h1.1 k s j := fun k s j u1 u2 u3 => by rw [wr_g, if_neg (by omega)]; exact o2 k s j u1 u2
  refine ⟨_, e.trans e', fun k s i u1 u2 u3 => (vo k s i (by omega) (by omega) (by omega)).trans (ky k s i u1 u2 u3), b4.cp (fun k i hk => vo k 10 i (by omega) (by omega) (by omega)), (vo 0 0 1 (by omega) (by omega) (by omega)).trans b5, ?_, ?_, s, ?_, b3⟩
  · rw [wr_other (by decide)]; exact m2
  · rw [wr_other (by decide)]; exact n2
  · rw [hf1] at t
    exact t.cp (fun k i hk => vo k 0 i (by omega) (by omega) (by omega))
