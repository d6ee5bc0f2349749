/-! need -/
theorem LO.all {h : Hp} {G : KG} {f : Nat} {s : Nat → Nat} (l : LO h G f s) : ∀ c, Rc G c → ∃ j, j < f ∧ s j = c := by
  rintro c ⟨m, hm⟩
  induction m generalizing c with
  | zero => exact ⟨0, l.2.2.1, l.2.2.2.1.trans (show c = _ from hm).symm⟩
  | succ m ih =>
    obtain ⟨d, p, hd, hp, hk, rfl⟩ := hm
    obtain ⟨j, hj, ej⟩ := ih d hd
    rw [← ej] at hk ⊢
    exact l.2.2.2.2 j hj p hp hk
theorem safeC {h : Hp} {n sp st f : Nat} {pl li le s o mk us : Nat → Nat} {T : Nat → Option Nat} (hv : SV sp st n pl li le) (d : DI h n (GC n sp st pl li le) f s 0 o mk us T) : ∃ c, fX2_safe h = some (nI c, h) ∧ CTs (fun i => Ev (GC n sp st pl li le) (s i)) f c := by
  have hall := (d.all hv).2
  obtain ⟨t, hf, h0, hs0, dk, ⟨m1, m0, m2, m3, m4, m5⟩, ⟨t1, t2, t3, t4⟩⟩ := id d
  suffices hw : WP (fX2_safe h) (fun r h' => h' = h ∧ ∃ c, r = nI c ∧ CTs (fun i => Ev (GC n sp st pl li le) (s i)) f c) by
    obtain ⟨r, h', e, rfl, c, rfl, q⟩ := hw
    exact ⟨c, e, q⟩
  unfold fX2_safe
  have r2 : rd h 0 0 2 = nI f := t.1
  refine wp_for2 f (fun i a h' => h' = h ∧ ∃ c, a = nI c ∧ CTs (fun i => Ev (GC n sp st pl li le) (s i)) i c) ?_ ?_ FU 0 h (i0 := 0) (by omega) (FUb (by omega)) ⟨rfl, 0, rfl, rfl⟩
  · rintro i a h1 rec hi ⟨rfl, c, rfl, hc⟩ hrec
    unfold fX2_safe_l4
    rw [r2, if_neg (fun q => nI_ge hi (by omega) q), ck_p (ib_nI (by omega) (by decide)), jn_eq, show ra h1 14 0 (nI i) = nI (mk i) by rw [ra_n (by omega)]; exact (m1 i hi).1]
    rcases hall i hi with e | e
    · rw [e, if_neg (show ¬ nI 2 = (3 : Int32) by decide)]
      dsimp only
      rw [lt_eq, nI_1]
      obtain ⟨w, hw⟩ := t2 i hi e
      exact hrec _ _ ⟨rfl, c, rfl, c, hc, Or.inr ⟨(t3 i w hi hw).2.2.1.not_ev, rfl⟩⟩
    · rw [e, if_pos (show nI 3 = (3 : Int32) from rfl), lt_eq, nI_1]
      dsimp only
      rw [lt_eq, nI_1]
      exact hrec _ _ ⟨rfl, c + 1, rfl, c, hc, Or.inl ⟨(t4 i hi e).2, rfl⟩⟩
  · rintro a h1 rec ⟨rfl, c, rfl, hc⟩
    unfold fX2_safe_l4
    rw [r2, if_pos (nI_le (Nat.le_refl _) (by omega))]
    exact wp_some ⟨rfl, c, rfl, hc⟩
theorem safe0 {h : Hp} {sp st : Nat} {pl li le : Nat → Nat} (ft : FT0 h sp st pl li le) : fX2_safe h = some (nI 1, h) := by
  apply wp_same
  obtain ⟨a, b, s, t, -⟩ := ft
  have r2 : rd h 0 0 2 = nI 1 := t.1
  unfold fX2_safe
  refine wp_for2 1 (fun i a h' => h' = h ∧ a = nI i) ?_ ?_ FU 0 h (i0 := 0) (by omega) (FUb (by omega)) ⟨rfl, rfl⟩
  · rintro i x h1 rec hi ⟨rfl, rfl⟩ hrec
    have h0 : i = 0 := by omega
    subst h0
    unfold fX2_safe_l4
    rw [r2, if_neg (fun q => nI_ge hi (by omega) q), ck_p (ib_nI (by omega) (by decide)), jn_eq, show ra h1 14 0 (nI 0) = 3 from a, if_pos rfl, lt_eq, nI_1]
    dsimp only
    rw [lt_eq]
    exact hrec _ _ ⟨rfl, rfl⟩
  · rintro x h1 rec ⟨rfl, rfl⟩
    unfold fX2_safe_l4
    rw [r2, if_pos (nI_le (Nat.le_refl _) (by omega))]
    exact wp_some ⟨rfl, rfl⟩
theorem reachM {h : Hp} {G : KG} {v : Nat} {z : Int32} (hG : VG G) (m : MG h G v) (hI : MInv h) : ∃ c h', fX12_reachedStands z h = some (nI c, h') ∧ MInv h' ∧ ∃ f s, LO h' G f s ∧ (v = 0 → c = f) ∧ (z = 0 → c = f) ∧ (v ≠ 0 → z ≠ 0 → CTs (fun i => Ev G (s i)) f c) := by
  suffices hw : WP (fX12_reachedStands z h) (fun r h' => MInv h' ∧ ∃ c, r = nI c ∧ ∃ f s, LO h' G f s ∧ (v = 0 → c = f) ∧ (z = 0 → c = f) ∧ (v ≠ 0 → z ≠ 0 → CTs (fun i => Ev G (s i)) f c)) by
    obtain ⟨r, h', e, q, c, rfl, q2⟩ := hw
    exact ⟨c, h', e, q, q2⟩
  obtain ⟨h1, x, e1, m1, kf1, i1, hcase⟩ := isForever_wp hG m hI
  have hv32 := m.1
  unfold fX12_reachedStands
  rw [e1, bnd_eq]
  have r25 : rd h1 10 0 25 = nI v := m1.2.2.2.1
  obtain ⟨f, s, lo⟩ : ∃ f s, LO h1 G f s := by
    rcases hcase with ⟨-, -, f, s, lo⟩ | ⟨-, f, s, T, tf, -⟩
    · exact ⟨f, s, lo⟩
    · exact ⟨f, s, tf.1⟩
  by_cases hv : v = 0 ∨ z = 0
  · have hf := lo.2.1
    have r46 : rd h1 10 0 46 = nI f := lo.1.1
    refine wp_for2 f (fun i a h' => h' = h1 ∧ a = nI i) ?_ ?_ FU 0 h1 (i0 := 0) (by omega) (FUb (by omega)) ⟨rfl, rfl⟩
    · rintro i a h2 rec hi ⟨rfl, rfl⟩ hrec
      unfold fX12_reachedStands_l9
      rw [r46, if_neg (fun q => nI_ge hi (by omega) q), jn_eq, jn_eq]
      have go : WP (lt (nI i + (1 : Int32)) fun x5 => lt (nI i + 1) fun x6 => rec x5 x6 h2) (fun r h' => MInv h' ∧ ∃ c, r = nI c ∧ ∃ f s, LO h' G f s ∧ (v = 0 → c = f) ∧ (z = 0 → c = f) ∧ (v ≠ 0 → z ≠ 0 → CTs (fun i => Ev G (s i)) f c)) := by
        rw [lt_eq, lt_eq, nI_1]
        exact hrec _ _ ⟨rfl, rfl⟩
      by_cases hz : z = 0
      · rw [if_pos hz]
        exact go
      · rw [if_neg hz, r25, if_pos ((eq0_n (by omega)).mpr (hv.resolve_right hz))]
        exact go
    · rintro a h2 rec ⟨rfl, rfl⟩
      unfold fX12_reachedStands_l9
      rw [r46, if_pos (nI_le (Nat.le_refl _) (by omega))]
      exact wp_some ⟨i1, f, rfl, f, s, lo, fun _ => rfl, fun _ => rfl, fun w1 w2 => absurd hv (fun q => q.elim w1 w2)⟩
  · have hv0 : v ≠ 0 := fun q => hv (Or.inl q)
    have hz : ¬ z = 0 := fun q => hv (Or.inr q)
    obtain ⟨f, s, T, tf⟩ : ∃ f s T, TF h1 G f s T := by
      rcases hcase with ⟨w, -⟩ | ⟨-, f, s, T, tf, -⟩
      · exact absurd w hv0
      · exact ⟨f, s, T, tf⟩
    have hf := tf.1.2.1
    have r46 : rd h1 10 0 46 = nI f := tf.1.1.1
    refine wp_for2 f (fun i a h' => h' = h1 ∧ ∃ c, a = nI c ∧ CTs (fun i => Ev G (s i)) i c) ?_ ?_ FU 0 h1 (i0 := 0) (by omega) (FUb (by omega)) ⟨rfl, 0, rfl, rfl⟩
    · rintro i a h2 rec hi ⟨rfl, c, rfl, hc⟩ hrec
      unfold fX12_reachedStands_l9
      have r60 : ra h2 60 0 (nI i) = tI (T i) := by rw [ra_n (by omega)]; exact tf.2.1 i hi
      rw [r46, if_neg (fun q => nI_ge hi (by omega) q), jn_eq, jn_eq, if_neg hz, r25, if_neg (fun q => hv0 ((eq0_n (by omega)).mp q)), ck_p (ib_nI (by omega) (by decide)), r60]
      have hT := tf.2.2 i hi
      cases hq : T i with
      | none =>
        rw [if_pos (show tI none = (-1 : Int32) from rfl)]
        dsimp only
        rw [lt_eq, lt_eq, nI_1, nI_1]
        exact hrec _ _ ⟨rfl, c + 1, rfl, c, hc, Or.inl ⟨hT.1 hq, rfl⟩⟩
      | some w =>
        rw [if_neg (show ¬ tI (some w) = (-1 : Int32) from nI_nm1 (by have := (hT.2 w hq).2; omega))]
        dsimp only
        rw [lt_eq, lt_eq, nI_1, show nI c + (0 : Int32) = nI (c + 0) from nI_add c 0]
        exact hrec _ _ ⟨rfl, c, rfl, c, hc, Or.inr ⟨(hT.2 w hq).1.not_ev, rfl⟩⟩
    · rintro a h2 rec ⟨rfl, c, rfl, hc⟩
      unfold fX12_reachedStands_l9
      rw [r46, if_pos (nI_le (Nat.le_refl _) (by omega))]
      exact wp_some ⟨i1, c, rfl, f, s, tf.1, fun w => absurd w hv0, fun w => absurd w hz, fun _ _ => hc⟩
/-- both sides count alike -/
theorem reachB {hE h4 : Hp} {n sp st : Nat} {pl li le : Nat → Nat} {z : Int32} {c f' : Nat} {s' : Nat → Nat} (hv : SV sp st n pl li le) (ft : FT hE n sp st pl li le) (lo : LO h4 (GC n sp st pl li le) f' s') (c1 : 2 ^ n - 1 = 0 → c = f') (c2 : z = 0 → c = f') (c3 : 2 ^ n - 1 ≠ 0 → z ≠ 0 → CTs (fun i => Ev (GC n sp st pl li le) (s' i)) f' c) : (z = 0 → fX2_reached hE = some (nI c, hE)) ∧ (z ≠ 0 → fX2_safe hE = some (nI c, hE)) := by
  have hn := hv.2.2.2.1
  have hG := GC_VG hv
  have hinj := lo.1.inj hG (by have := lo.2.1; omega)
  rcases ft with ⟨h0, ft0⟩ | ⟨h1n, f, s, o, mk, us, T, d⟩
  · subst h0
    have hc : c = f' := c1 rfl
    have hf1 : f' = 1 := by
      have hpos := lo.2.2.1
      apply Classical.byContradiction
      intro hne
      have := hinj 0 1 (by omega) (by omega) ((rc_none (lo.1.2.1 0 (by omega)).1).trans (rc_none (lo.1.2.1 1 (by omega)).1).symm)
      omega
    refine ⟨fun _ => ?_, fun _ => ?_⟩
    · obtain ⟨-, -, s, t, -⟩ := ft0
      unfold fX2_reached
      rw [show rd hE 0 0 2 = nI 1 from t.1, hc, hf1]
    · rw [safe0 ft0, hc, hf1]
  · have hall := d.all hv
    obtain ⟨t, hf, -⟩ := id d
    have hinjC := t.inj (by omega)
    have e1 : ∀ i, i < f → ∃ j, j < f' ∧ s' j = s i := fun i hi => lo.all _ (t.2.1 i hi).1
    have e2 : ∀ i, i < f' → ∃ j, j < f ∧ s j = s' i := fun i hi => hall.1 _ (lo.1.2.1 i hi).1
    have hff : f = f' := Nat.le_antisymm (enumLe e1 hinjC) (enumLe e2 hinj)
    refine ⟨fun hz => ?_, fun hz => ?_⟩
    · unfold fX2_reached
      rw [show rd hE 0 0 2 = nI f from t.1, c2 hz, hff]
    · obtain ⟨cc, es, hcc⟩ := safeC hv d
      have hne : 2 ^ n - 1 ≠ 0 := fun q => by have := (pw0 n hn).mp q; omega
      rw [es, CTs.same hcc (c3 hne hz) e1 e2 hinjC hinj]
