/-! the reference's row of runs -/
def K9 (h h' : Hp) : Prop := ∀ k s i, k ≠ 63 → ¬ (k = 10 ∧ (i = 47 ∨ i = 49)) → h'.1 k s i = h.1 k s i
theorem KS.k9 {h h' : Hp} (a : KS h h') : K9 h h' := fun k s i u1 u2 => a k s i u1 (by omega)
theorem K9.trans {h h1 h2 : Hp} (a : K9 h h1) (b : K9 h1 h2) : K9 h h2 := fun k s i u1 u2 => (b k s i u1 u2).trans (a k s i u1 u2)
theorem MG.k9 {h h' : Hp} {G : KG} {v : Nat} (k : K9 h h') (m : MG h G v) : MG h' G v := by
  obtain ⟨a1, a2, a3, a4, a5, a6⟩ := m
  exact ⟨a1, (k 10 0 23 (by decide) (by omega)).trans a2, (k 10 0 24 (by decide) (by omega)).trans a3, (k 10 0 25 (by decide) (by omega)).trans a4, a5, fun p hp hs => ⟨(k 53 0 p (by decide) (by omega)).trans (a6 p hp hs).1, (k 54 0 p (by decide) (by omega)).trans (a6 p hp hs).2.1, (k 55 0 p (by decide) (by omega)).trans (a6 p hp hs).2.2⟩⟩
theorem TF.k9 {h h' : Hp} {G : KG} {f : Nat} {s : Nat → Nat} {T : Nat → Option Nat} (k : K9 h h') (t : TF h G f s T) : TF h' G f s T := by
  obtain ⟨⟨⟨s1, s2, s3⟩, l⟩, t1, t2⟩ := t
  exact ⟨⟨⟨(k 10 0 46 (by decide) (by omega)).trans s1, fun i hi => ⟨(s2 i hi).1, (k 58 0 i (by decide) (by omega)).trans (s2 i hi).2.1, (k 59 0 _ (by decide) (by omega)).trans (s2 i hi).2.2⟩, fun c hc hno => (k 59 0 c (by decide) (by omega)).trans (s3 c hc hno)⟩, l⟩, fun j hj => (k 60 0 j (by decide) (by omega)).trans (t1 j hj), t2⟩
theorem standBehind_wp {h : Hp} {G : KG} {v f i p : Nat} {s : Nat → Nat} {T : Nat → Option Nat} (hG : VG G) (m : MG h G v) (tf : TF h G f s T) (hi : i < f) (hp : p < 5) (hk : kpN G (s i) p = true) : ∃ j h', fX12_standBehind (nI i) (nI p) h = some (nI j, h') ∧ K9 h h' ∧ j < f ∧ s j = nxN G (s i) p ∧ h'.1 10 0 49 = h.1 10 0 49 + nI (tmN G (s i) p) := by
  obtain ⟨⟨sl, hf, hf0, hs0, clo⟩, t60, tT⟩ := id tf
  have hvn := (sl.2.1 i hi).1.vn hG
  obtain ⟨j, hj, ej⟩ := clo i hi p hp hk
  have hnv := (nx_VN hG hp hk).1
  obtain ⟨h1, e1, o1, k1⟩ := open_wp (h := h) G hvn.1
  obtain ⟨t, et, ht⟩ := beatsTo_eq hG (m.ks k1) hvn o1 hp
  have ht' := ht (kp_le hk).1
  have k2 : K9 h1 (wr h1 10 0 49 (rd h1 10 0 49 + t)) := fun k s i u1 u2 => by rw [wr_g, if_neg (by omega)]
  have o2 : OS (wr h1 10 0 49 (rd h1 10 0 49 + t)) G (s i) := ⟨by rw [wr_g, if_neg (by omega)]; exact o1.1, fun q hq hs => by rw [wr_other (by decide)]; exact o1.2 q hq hs⟩
  have k2' := k1.k9.trans k2
  obtain ⟨h3, e3, o3, k3⟩ := behindRunM_wp hG (m.k9 k2') hvn o2 hp hk
  have k3' := k2'.trans k3.k9
  have r59 : ra h3 59 0 (nI (nxN G (s i) p)) = nI (j + 1) := by
    rw [ra_n (by omega), ← ej]
    exact (k3' 59 0 _ (by decide) (by omega)).trans (sl.2.1 j hj).2.2
  refine ⟨j, h3, ?_, k3', hj, ej, ?_⟩
  · unfold fX12_standBehind
    rw [ck_p (ib_nI (by omega) (by decide)), show ra h 58 0 (nI i) = nI (s i) by rw [ra_n (by omega)]; exact (sl.2.1 i hi).2.1, e1, bnd_eq, et, bnd_eq, lt_eq, e3, bnd_eq, ck_p (ib_nI hnv (by decide)), r59, show nI (j + 1) - (1 : Int32) = nI j from nI_sub (b := 1) (by omega)]
  · rw [k3 10 0 49 (by decide) (by omega), wr_g, if_pos ⟨rfl, rfl, rfl⟩, ht']
    show h1.1 10 0 49 + _ = _
    rw [k1 10 0 49 (by decide) (by omega)]
theorem runAtM_wp {h : Hp} {G : KG} {v f k : Nat} {s : Nat → Nat} {T : Nat → Option Nat} (hG : VG G) (m : MG h G v) (tf : TF h G f s T) (hk : k ≤ 1000) : ∃ r h', fX12_runAt (nI k) h = some (r, h') ∧ K9 h h' ∧ RW G k (c0N G) r := by
  suffices hw : WP (fX12_runAt (nI k) h) (fun r h' => K9 h h' ∧ RW G k (c0N G) r) by
    obtain ⟨r, h', e, q⟩ := hw
    exact ⟨r, h', e, q⟩
  have hf0 := tf.1.2.2.1
  have hs0 := tf.1.2.2.2.1
  have hf := tf.1.2.1
  unfold fX12_runAt
  refine wp_for2 k (fun q a h' => K9 h h' ∧ ∃ i, i < f ∧ a = nI i ∧ ∀ r, RW G (k - q) (s i) r → RW G k (c0N G) r) ?_ ?_ FU 0 h (i0 := 0) (by omega) (FUb (by omega)) ⟨fun _ _ _ _ _ => rfl, 0, hf0, rfl, fun r hr => by rw [hs0] at hr; exact hr⟩
  · rintro q a h1 rec hq ⟨k1, i, hi, rfl, hrw⟩ hrec
    unfold fX12_runAt_l4
    obtain ⟨r, h2, er, k2, hr⟩ := nextRunM_wp hG (m.k9 k1) (tf.k9 k1) hi
    have k2' := k1.trans k2.k9
    rw [if_neg (fun w => nI_ge hq (by omega) w), er, bnd_eq]
    rcases id hr with ⟨rfl, -⟩ | ⟨p, hp, rfl, ok, -⟩
    · rw [if_pos rfl]
      exact wp_some ⟨k2', hrw _ (RW.stop hr _)⟩
    · obtain ⟨j, h3, e3, k3, hj, ej, -⟩ := standBehind_wp hG (m.k9 k2') (tf.k9 k2') hi hp ok.1
      rw [if_neg (nI_nm1 (show p < 2 ^ 31 by omega)), e3, bnd_eq, lt_eq, nI_1]
      refine hrec _ _ ⟨k2'.trans k3, j, hj, rfl, fun r' hr' => hrw r' ?_⟩
      rw [show k - q = (k - (q + 1)) + 1 by omega]
      rw [ej] at hr'
      exact Or.inr ⟨p, hp, hr, hr'⟩
  · rintro a h1 rec ⟨k1, i, hi, rfl, hrw⟩
    unfold fX12_runAt_l4
    obtain ⟨r, h2, er, k2, hr⟩ := nextRunM_wp hG (m.k9 k1) (tf.k9 k1) hi
    rw [if_pos (nI_le (Nat.le_refl _) (by omega))]
    dsimp only
    rw [er, bnd_eq]
    rw [Nat.sub_self] at hrw
    exact wp_some ⟨k1.trans k2.k9, hrw _ hr⟩
