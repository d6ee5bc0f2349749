/-! image and again -/
theorem CCp.sameK {hC hC' : Hp} {b a : Nat} (ha : a < 4) (c : CCp hC hC' b a) : SameK hC hC' := by
  intro k s i hk
  refine c.2.2.2.2.2.2 k s i ?_
  cases q : tcb a k s
  · rfl
  · exfalso
    simp [tcb] at q
    simp [kkb] at hk
    omega
theorem MCp.inv {hM hM' : Hp} {b a : Nat} (m : MCp hM hM' b a) (h : MInv hM) : MInv hM' :=
  h.same ⟨fun i => m.2.2.2.2.2.2.2.2 58 0 i rfl, fun i => m.2.2.2.2.2.2.2.2 59 0 i rfl, m.2.2.2.2.2.2.2.2 10 0 46 rfl⟩
theorem TRel.fitsC {hC hM : Hp} {t : Nat} (h : TRel hC hM t) : ∀ j, j < 600 → fits .byte (.int (hC.1 36 t j)) = true := fun j hj => (h.1 j hj).2
theorem TRel.fitsM {hC hM : Hp} {t : Nat} (h : TRel hC hM t) : ∀ j, j < 600 → fits .byte (.int (hM.1 43 0 (600 * t + j))) = true := fun j hj => by rw [← (h.1 j hj).1]; exact (h.1 j hj).2
theorem Rel.w10 {KI : Hp → Prop} {hC hM : Hp} (v : Int32) (h : Rel KI hC hM) : Rel KI hC (wr hM 10 0 0 v) := by
  refine h.same (fun _ _ _ _ => rfl) (fun k s i hk => ?_) h.2.2.1 (h.2.2.2.same ⟨fun i => rfl, fun i => rfl, rfl⟩)
  rw [wr_g, if_neg]
  rintro ⟨rfl, -⟩
  simp [mtb] at hk
theorem st_image {KI : Hp → Prop} (hKI : KStab KI) : Stp_image (Rel KI) := by
  intro a hC hM hR0
  have hR := hR0.w10 0
  unfold fX11_image fX12_image
  simp only [lt_eq, in_eq, bnd_eq, c2_iff, zk_0, zk_1, ck_t]
  rcases int_cases a 3 (by decide) with h0 | ⟨j, hj, rfl⟩
  · refine ⟨0, hC, wr hM 10 0 0 0, ?_, ?_, hR⟩
    · by_cases h1 : a < 0
      · rw [if_pos h1]
      · rw [if_neg h1, if_pos (show (3 : Int32) ≤ a from h0.resolve_left h1)]
    · rw [if_pos (show a < 0 ∨ 3 ≤ a from h0), if_pos rfl]
  · have hno := in_no hj (by decide)
    have n1 : ¬ nI j < 0 := fun q => hno (Or.inl q)
    have n2 : ¬ (3 : Int32) ≤ nI j := fun q => hno (Or.inr q)
    rw [if_neg n1, if_neg n2, if_pos (show nI j < 3 from nI_lt hj (by decide)), if_neg (show ¬ (nI j < 0 ∨ 3 ≤ nI j) from hno), if_neg (show ¬ (1 : Int32) = 0 by decide)]
    have hx : 0 * (0 % cnt 41) + 1 * (nI j).toNatClampNeg + 1 = j + 1 := by rw [nI_clamp (by omega)]; omega
    rw [hx]
    obtain ⟨c1, ec, cc⟩ := copy9 hC (show j + 1 < 4 by omega) (show 0 < 4 by omega) (by omega) hR.1.fitsC
    obtain ⟨u, m1, em, cm⟩ := copyAll_wp (show 0 < 4 by omega) (show j + 1 < 4 by omega) (by omega) hR.1.fitsM
    have hib : ib (nI j) 3 = true := ib_nI hj (by decide)
    rw [ec, ck_p hib, bnd_eq, ck_p hib, nI_1, show fX12_copyAll 0 (nI (j + 1)) (wr hM 10 0 0 0) = some (u, m1) from em, bnd_eq, ck_p hib]
    refine ⟨1, _, _, rfl, rfl, ?_⟩
    have t0 : TRel c1 m1 0 := hR.1.keep (by omega) cc cm
    have sC : SameC c1 c1 := fun _ _ _ _ => rfl
    have b1 : vp_nar .boolean 1 = 1 := rfl
    have wC : ∀ k s i, k ≠ 42 → (wa c1 42 0 (nI j) (vp_nar .boolean 1)).1 k s i = c1.1 k s i := fun k s i q => by rw [wa_g, if_neg (by omega)]
    have wM : ∀ k s i, k ≠ 67 → (wa m1 67 0 (nI j) (vp_nar .boolean 1)).1 k s i = m1.1 k s i := fun k s i q => by rw [wa_g, if_neg (by omega)]
    have tr : ∀ t, TRel c1 m1 t → TRel (wa c1 42 0 (nI j) (vp_nar .boolean 1)) (wa m1 67 0 (nI j) (vp_nar .boolean 1)) t := by
      intro t h
      refine h.sameT ⟨fun k s i hk => wC _ _ _ ?_, fun k i hk => wM _ _ _ ?_⟩
      · rintro rfl; simp [tcb] at hk
      · rintro rfl; simp [tmb] at hk
    refine ⟨tr 0 t0, fun k hk => ?_, hKI _ _ (fun k s i hk => ?_) (hKI _ _ (cc.sameK (by omega)) hR.2.2.1), (cm.inv hR.2.2.2).same ⟨fun i => wM _ _ _ (by decide), fun i => wM _ _ _ (by decide), wM _ _ _ (by decide)⟩⟩
    · by_cases hkj : k = j
      · subst hkj
        refine ⟨1, by omega, ?_, ?_, fun _ => tr _ (hR.1.copy cc cm)⟩
        · rw [wa_g, nI_clamp (by omega), if_pos ⟨rfl, rfl, rfl⟩]; rfl
        · rw [wa_g, nI_clamp (by omega), if_pos ⟨rfl, rfl, rfl⟩]; rfl
      · obtain ⟨f, f1, f2, f3, f4⟩ := hR.2.1 k hk
        refine ⟨f, f1, ?_, ?_, fun hf => tr _ ((f4 hf).keep (by omega) cc cm)⟩
        · rw [wa_g, nI_clamp (by omega), if_neg (by omega), cc.2.2.2.2.2.2 _ _ _ (by simp [tcb])]; exact f2
        · rw [wa_g, nI_clamp (by omega), if_neg (by omega), cm.2.2.2.2.2.2.2.2 _ _ _ (by simp [tmb])]; exact f3
    · refine wC _ _ _ ?_
      rintro rfl; simp [kkb] at hk
theorem st_again {KI : Hp → Prop} (hKI : KStab KI) : Stp_again (Rel KI) := by
  intro a hC hM hR0
  have hR := hR0.w10 0
  unfold fX11_again fX12_again
  simp only [lt_eq, in_eq, bnd_eq, c2_iff, zk_0, zk_1, ck_t]
  rcases int_cases a 3 (by decide) with h0 | ⟨j, hj, rfl⟩
  · refine ⟨0, hC, wr hM 10 0 0 0, ?_, ?_, hR⟩
    · by_cases h1 : a < 0
      · rw [if_pos h1]
      · rw [if_neg h1, if_pos (show (3 : Int32) ≤ a from h0.resolve_left h1)]
    · rw [if_pos (show a < 0 ∨ 3 ≤ a from h0), if_pos rfl]
  · have hno := in_no hj (by decide)
    have n1 : ¬ nI j < 0 := fun q => hno (Or.inl q)
    have n2 : ¬ (3 : Int32) ≤ nI j := fun q => hno (Or.inr q)
    have hib : ib (nI j) 3 = true := ib_nI hj (by decide)
    rw [if_neg n1, if_neg n2, if_neg n2, if_neg (show ¬ (nI j < 0 ∨ 3 ≤ nI j) from hno), if_neg (show ¬ (1 : Int32) = 0 by decide), ck_p hib, ck_p hib, ck_p hib, ra_n (show j < 2 ^ 31 by omega), ra_n (show j < 2 ^ 31 by omega)]
    have hx : 0 * (0 % cnt 41) + 1 * (nI j).toNatClampNeg + 1 = j + 1 := by rw [nI_clamp (by omega)]; omega
    rw [hx]
    obtain ⟨f, f1, f2, f3, f4⟩ := hR.2.1 j hj
    rw [show hC.1 42 (0 % cnt 42) j = nI f from f2, show (wr hM 10 0 0 0).1 67 (0 % cnt 67) j = nI f from f3]
    rcases (show f = 0 ∨ f = 1 by omega) with rfl | rfl
    · rw [if_pos (show nI 0 = 0 from rfl), if_pos (show nI 0 = 0 from rfl)]
      exact ⟨_, _, _, rfl, rfl, hR⟩
    · rw [if_neg (show ¬ nI 1 = 0 by decide), if_neg (show ¬ nI 1 = 0 by decide)]
      have ht := f4 rfl
      obtain ⟨c1, ec, cc⟩ := copy9 hC (show 0 < 4 by omega) (show j + 1 < 4 by omega) (by omega) ht.fitsC
      obtain ⟨u, m1, em, cm⟩ := copyAll_wp (show j + 1 < 4 by omega) (show 0 < 4 by omega) (by omega) ht.fitsM
      rw [ec, bnd_eq, nI_1, show fX12_copyAll (nI (j + 1)) 0 (wr hM 10 0 0 0) = some (u, m1) from em, bnd_eq]
      refine ⟨1, _, _, rfl, rfl, ht.copy cc cm, fun k hk => ?_, hKI _ _ (cc.sameK (by omega)) hR.2.2.1, cm.inv hR.2.2.2⟩
      obtain ⟨f, f1, f2, f3, f4⟩ := hR.2.1 k hk
      refine ⟨f, f1, ?_, ?_, fun hf => (f4 hf).keep (by omega) cc cm⟩
      · rw [cc.2.2.2.2.2.2 _ _ _ (by simp [tcb])]; exact f2
      · rw [cm.2.2.2.2.2.2.2.2 _ _ _ (by simp [tmb])]; exact f3
