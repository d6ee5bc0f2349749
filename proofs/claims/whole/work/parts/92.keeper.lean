/-! the keeper's slots, pure: stand i lies in slot z i, d i slots behind its first; those between are held by stands before it -/
def HZ (T : Nat → Int32) (f : Nat) (m z d : Nat → Nat) : Prop := (∀ i, i < f → z i < 4096 ∧ T (z i) = nI (i + 1) ∧ z i = (m i + d i) % 4096 ∧ d i < 4096 ∧ ∀ e, e < d i → ∃ j, j < i ∧ z j = (m i + e) % 4096) ∧ ∀ k, k < 4096 → (∀ i, i < f → z i ≠ k) → T k = 0
theorem HZ.one {T : Nat → Int32} {f : Nat} {m z d : Nat → Nat} (w : HZ T f m z d) (hf : f < 2 ^ 31 - 1) {i j : Nat} (hi : i < f) (hj : j < f) (e : z i = z j) : i = j := by
  have a := (w.1 i hi).2.1
  have b := (w.1 j hj).2.1
  rw [e, b] at a
  have := (eq_n (by omega) (by omega)).mp a
  omega
theorem HZ.add {T T' : Nat → Int32} {f : Nat} {m z d m' : Nat → Nat} (w : HZ T f m z d) {k M D : Nat} (hk : k < 4096) (hD : D < 4096) (hkD : k = (M + D) % 4096) (free : ∀ j, j < f → z j ≠ k) (occ : ∀ e, e < D → ∃ j, j < f ∧ z j = (M + e) % 4096) (hT : ∀ q, T' q = if q = k then nI (f + 1) else T q) (hm : ∀ i, i < f → m' i = m i) (hmf : m' f = M) : ∃ z' d', HZ T' (f + 1) m' z' d' := by
  refine ⟨fun i => if i = f then k else z i, fun i => if i = f then D else d i, fun i hi => ?_, fun q hq hno => ?_⟩
  · show (if i = f then k else z i) < 4096 ∧ T' (if i = f then k else z i) = nI (i + 1) ∧ (if i = f then k else z i) = (m' i + (if i = f then D else d i)) % 4096 ∧ (if i = f then D else d i) < 4096 ∧ ∀ e, e < (if i = f then D else d i) → ∃ j, j < i ∧ (if j = f then k else z j) = (m' i + e) % 4096
    by_cases g : i = f
    · subst g
      rw [if_pos rfl, if_pos rfl, hT, if_pos rfl, hmf]
      refine ⟨hk, rfl, hkD, hD, fun e he => ?_⟩
      obtain ⟨j, hj, ej⟩ := occ e he
      exact ⟨j, hj, by rw [if_neg (by omega)]; exact ej⟩
    · have hi' : i < f := by omega
      obtain ⟨w1, w2, w3, w4, w5⟩ := w.1 i hi'
      rw [if_neg g, if_neg g, hT, if_neg (free i hi'), hm i hi']
      refine ⟨w1, w2, w3, w4, fun e he => ?_⟩
      obtain ⟨j, hj, ej⟩ := w5 e he
      exact ⟨j, hj, by rw [if_neg (by omega)]; exact ej⟩
  · have hne : q ≠ k := fun e => by
      have := hno f (by omega)
      dsimp only at this
      rw [if_pos rfl] at this
      exact this e.symm
    rw [hT, if_neg hne]
    exact w.2 q hq (fun i hi => by
      have := hno i (by omega)
      dsimp only at this
      rwa [if_neg (by omega)] at this)
theorem HZ.del {T T' : Nat → Int32} {f : Nat} {m z d : Nat → Nat} (w : HZ T (f + 1) m z d) (hf : f + 1 < 2 ^ 31 - 1) (hT : ∀ q, T' q = if q = z f then 0 else T q) : HZ T' f m z d := by
  refine ⟨fun i hi => ?_, fun q hq hno => ?_⟩
  · obtain ⟨w1, w2, w3⟩ := w.1 i (by omega)
    refine ⟨w1, ?_, w3⟩
    rw [hT, if_neg (fun e => by have := w.one hf (show i < f + 1 by omega) (show f < f + 1 by omega) e; omega)]
    exact w2
  · rw [hT]
    by_cases g : q = z f
    · rw [if_pos g]
    · rw [if_neg g]
      refine w.2 q hq (fun i hi e => ?_)
      by_cases g2 : i = f
      · rw [g2] at e; exact g e.symm
      · exact hno i (by omega) e
/-- what looking for a stand finds: its slot, or the free one that it would take -/
def SRt (f : Nat) (s z : Nat → Nat) (c M k : Nat) : Prop := k < 4096 ∧ ((∃ j, j < f ∧ s j = c ∧ z j = k) ∨ ((∀ j, j < f → s j ≠ c) ∧ (∀ j, j < f → z j ≠ k) ∧ ∃ D, D < 4096 ∧ k = (M + D) % 4096 ∧ ∀ e, e < D → ∃ j, j < f ∧ z j = (M + e) % 4096))
theorem slotOf_eq {h : Hp} {n sp st f c : Nat} {pl li le s z d : Nat → Nat} (hv : SV sp st n pl li le) (rows : ∀ i, i < f → Rc (GC n sp st pl li le) (s i) ∧ h.1 12 0 i = nI (s i / 7776) ∧ h.1 13 0 i = nI (pkN (lpC n (s i)))) (w : HZ (h.1 11 0) f (fun i => hmN n (s i)) z d) (hf : f ≤ 2191) (hc : Rc (GC n sp st pl li le) c) : ∃ k, fX2_slotOf (nI (c / 7776)) (nI (pkN (lpC n c))) h = some (nI k, h) ∧ SRt f s z c (hmN n c) k := by
  suffices hw : WP (fX2_slotOf (nI (c / 7776)) (nI (pkN (lpC n c))) h) (fun r h' => h' = h ∧ ∃ k, r = nI k ∧ SRt f s z c (hmN n c) k) by
    obtain ⟨r, h', e, rfl, k, rfl, q⟩ := hw
    exact ⟨k, e, q⟩
  have hM : hmN n c < 4096 := hmI_lt _ _
  rw [hmI_eq, show hmI (nI (c / 7776)) (nI (pkN (lpC n c))) = hmN n c from rfl]
  have hvc := hc.vn (GC_VG hv)
  have hpc := pkN_lt (lpC_D7 n c)
  have hrc : c / 7776 ≤ 5 := by have := hvc.2; omega
  generalize hMM : hmN n c = M at hM ⊢
  refine wp_for2 4096 (fun e a h' => h' = h ∧ a = nI ((M + e) % 4096) ∧ ∀ e', e' < e → ∃ j, j < f ∧ z j = (M + e') % 4096 ∧ s j ≠ c) ?_ ?_ FU _ h (i0 := 0) (by omega) (FUb (by omega)) ⟨rfl, by rw [Nat.add_zero, Nat.mod_eq_of_lt hM], fun e' he => absurd he (Nat.not_lt_zero _)⟩
  · rintro e a h1 rec he ⟨rfl, rfl, hall⟩ hrec
    have hk : (M + e) % 4096 < 4096 := Nat.mod_lt _ (by decide)
    have hnx : (M + (e + 1)) % 4096 = ((M + e) % 4096 + 1) % 4096 := by omega
    have hrec' : (∀ e', e' < e + 1 → ∃ j, j < f ∧ z j = (M + e') % 4096 ∧ s j ≠ c) → WP (rec (nI (((M + e) % 4096 + 1) % 4096)) (nI (e + 1)) h1) _ := fun q => hrec _ _ ⟨rfl, by rw [hnx], q⟩
    generalize hkk : (M + e) % 4096 = k at hk hrec' ⊢
    unfold fX2_slotOf_l16
    rw [if_neg (show ¬ (4096 : Int32) ≤ nI e from fun q => nI_ge he (by decide) q), ck_p (ib_nI hk (by decide)), lt_eq, ra_n (by omega), show 0 % cnt 11 = 0 from rfl]
    by_cases g : ∃ j, j < f ∧ z j = k
    · obtain ⟨j, hj, ej⟩ := g
      have eT : h1.1 11 0 k = nI (j + 1) := by rw [← ej]; exact (w.1 j hj).2.1
      obtain ⟨q1, q2, q3⟩ := rows j hj
      have hvj := q1.vn (GC_VG hv)
      have hpj := pkN_lt (lpC_D7 n (s j))
      have hrj : s j / 7776 ≤ 5 := by have := hvj.2; omega
      have hib : ib (nI j) 2200 = true := ib_nI (by omega) (by decide)
      have r12 : ra h1 12 0 (nI j) = nI (s j / 7776) := by rw [ra_n (by omega)]; exact q2
      have r13 : ra h1 13 0 (nI j) = nI (pkN (lpC n (s j))) := by rw [ra_n (by omega)]; exact q3
      have en : (nI k + (1 : Int32)) &&& (4095 : Int32) = nI ((k + 1) % 4096) := by
        have : (k + 1) &&& 4095 = (k + 1) % 4096 := Nat.and_two_pow_sub_one_eq_mod (k + 1) 12
        rw [nI_1, show (4095 : Int32) = nI 4095 from rfl, nI_and, this]
      rw [eT, show nI (j + 1) - (1 : Int32) = nI j from nI_sub (b := 1) (by omega), if_neg (nI_pos (by omega)), if_neg (show ¬ (2200 : Int32) ≤ nI j from fun q => nI_ge (show j < 2200 by omega) (by decide) q), ck_p hib, jn_eq, r12, r13]
      by_cases gs : s j = c
      · rw [gs, if_pos rfl, ck_p hib, if_pos rfl]
        exact wp_some ⟨rfl, k, rfl, hk, Or.inl ⟨j, hj, gs, ej⟩⟩
      · have cont := hrec' (fun e' he' => by
          by_cases q : e' = e
          · rw [q, hkk]; exact ⟨j, hj, ej, gs⟩
          · exact hall e' (by omega))
        by_cases g1 : nI (s j / 7776) = nI (c / 7776)
        · rw [if_pos g1, ck_p hib, if_neg (fun g2 => gs (stand_ext hv q1 hc ((eq_n (by omega) (by omega)).mp g1) ((eq_n (by omega) (by omega)).mp g2)))]
          dsimp only
          rw [lt_eq, lt_eq, en, nI_1]
          exact cont
        · rw [if_neg g1]
          dsimp only
          rw [lt_eq, lt_eq, en, nI_1]
          exact cont
    · have e0 : h1.1 11 0 k = 0 := w.2 k hk (fun i hi q => g ⟨i, hi, q⟩)
      rw [e0, if_pos (show (0 : Int32) - 1 < 0 by decide)]
      refine wp_some ⟨rfl, k, rfl, hk, Or.inr ⟨fun j hj ej => ?_, fun j hj q => g ⟨j, hj, q⟩, e, he, hkk.symm, fun e' he' => ?_⟩⟩
      · have emj : hmN n (s j) = M := by rw [ej]; exact hMM
        obtain ⟨-, -, w3, w4, w5⟩ := w.1 j hj
        dsimp only at w3 w5
        rw [emj] at w3 w5
        rcases Nat.lt_trichotomy e (d j) with q | q | q
        · obtain ⟨i, hi, ei⟩ := w5 e q
          exact g ⟨i, by omega, ei.trans hkk⟩
        · exact g ⟨j, hj, by rw [w3, ← q]; exact hkk⟩
        · obtain ⟨i, hi, ei, ne⟩ := hall (d j) q
          have := w.one (by omega) hi hj (ei.trans w3.symm)
          rw [this] at ne
          exact ne ej
      · obtain ⟨i, hi, ei, -⟩ := hall e' he'
        exact ⟨i, hi, ei⟩
  · rintro a h1 rec ⟨rfl, rfl, hall⟩
    exfalso
    have ch : ∃ J : Nat → Nat, ∀ e, e < 4096 → J e < f ∧ z (J e) = (M + e) % 4096 := ⟨fun e => if he : e < 4096 then Classical.choose (hall e he) else 0, fun e he => by
      dsimp only
      rw [dif_pos he]
      exact ⟨(Classical.choose_spec (hall e he)).1, (Classical.choose_spec (hall e he)).2.1⟩⟩
    obtain ⟨J, hJ⟩ := ch
    have := pig f 4096 J (fun e he => (hJ e he).1) (fun e1 e2 h1 h2 q => by
      have a := (hJ e1 h1).2
      have b := (hJ e2 h2).2
      rw [q, b] at a
      omega)
    omega
/-! the keeper's list of stands -/
def KT (h : Hp) (n : Nat) (G : KG) (f : Nat) (s : Nat → Nat) : Prop := h.1 0 0 2 = nI f ∧ (∀ i, i < f → Rc G (s i) ∧ h.1 12 0 i = nI (s i / 7776) ∧ h.1 13 0 i = nI (pkN (lpC n (s i))) ∧ ∀ j, j < f → s j = s i → j = i) ∧ ∃ z d, HZ (h.1 11 0) f (fun i => hmN n (s i)) z d
theorem KT.inj {h : Hp} {n : Nat} {G : KG} {f : Nat} {s : Nat → Nat} (t : KT h n G f s) (_ : f < 2 ^ 31) : ∀ i j, i < f → j < f → s i = s j → i = j := fun i j hi hj e => (t.2.1 j hj).2.2.2 i hi e
theorem KT.cp {h h' : Hp} {n : Nat} {G : KG} {f : Nat} {s : Nat → Nat} (e : ∀ k i, (k = 11 ∨ k = 12 ∨ k = 13 ∨ (k = 0 ∧ i = 2)) → h'.1 k 0 i = h.1 k 0 i) (t : KT h n G f s) : KT h' n G f s :=
  ⟨(e 0 2 (by omega)).trans t.1, fun i hi => ⟨(t.2.1 i hi).1, (e 12 i (by omega)).trans (t.2.1 i hi).2.1, (e 13 i (by omega)).trans (t.2.1 i hi).2.2.1, (t.2.1 i hi).2.2.2⟩, by
    have e11 : h'.1 11 0 = h.1 11 0 := funext (fun i => e 11 i (by omega))
    rw [e11]
    exact t.2.2⟩
theorem KT.len {h : Hp} {n : Nat} {G : KG} {f : Nat} {s : Nat → Nat} (hG : VG G) (t : KT h n G f s) (hf : f < 2 ^ 31) : f ≤ 2191 := stands_le hG (fun i hi => (t.2.1 i hi).1) (t.inj hf)
/-- what numbering a stand leaves as it was -/
def KN (h h' : Hp) (f : Nat) : Prop := ∀ k s i, k ≠ 11 → k ≠ 12 → k ≠ 13 → ¬ (k = 0 ∧ i = 2) → ¬ (k = 14 ∧ i = f) → h'.1 k s i = h.1 k s i
theorem numberFor_wp {h : Hp} {n sp st f c : Nat} {pl li le s : Nat → Nat} (hv : SV sp st n pl li le) (t : KT h n (GC n sp st pl li le) f s) (hf : f ≤ 2191) (hc : Rc (GC n sp st pl li le) c) : ∃ h' f' s' j, fX2_numberFor (nI (c / 7776)) (nI (pkN (lpC n c))) h = some (nI j, h') ∧ KT h' n (GC n sp st pl li le) f' s' ∧ f ≤ f' ∧ f' ≤ 2191 ∧ (∀ i, i < f → s' i = s i) ∧ j < f' ∧ s' j = c ∧ KN h h' f ∧ ((f' = f ∧ h' = h) ∨ (f' = f + 1 ∧ j = f ∧ h'.1 14 0 f = 0)) := by
  have hG := GC_VG hv
  have hvn := hc.vn hG
  obtain ⟨t1, t2, z, d, hz⟩ := id t
  obtain ⟨k, ek, hkl, hsr⟩ := slotOf_eq hv (fun i hi => ⟨(t2 i hi).1, (t2 i hi).2.1, (t2 i hi).2.2.1⟩) hz hf hc
  have hib : ib (nI k) 4096 = true := ib_nI hkl (by decide)
  unfold fX2_numberFor
  rw [ek, bnd_eq, ck_p hib, jn_eq, ra_n (by omega), show 0 % cnt 11 = 0 from rfl]
  rcases hsr with ⟨j, hj, e, ez⟩ | ⟨hn, hfree, D, hD, hkD, hocc⟩
  · have e11 : h.1 11 0 k = nI (j + 1) := by rw [← ez]; exact (hz.1 j hj).2.1
    rw [e11, if_neg (fun q => by have := (eq0_n (by omega)).mp q; omega)]
    dsimp only
    rw [ck_p hib, ra_n (by omega), show h.1 11 (0 % cnt 11) (k) = nI (j + 1) from e11, show nI (j + 1) - (1 : Int32) = nI j from nI_sub (b := 1) (by omega)]
    exact ⟨h, f, s, j, rfl, t, Nat.le_refl _, hf, fun _ _ => rfl, hj, e, fun _ _ _ _ _ _ _ _ => rfl, Or.inl ⟨rfl, rfl⟩⟩
  · have e11 : h.1 11 0 k = 0 := hz.2 k hkl hfree
    have r2 : rd h 0 0 2 = nI f := t1
    have hinj := t.inj (by omega)
    have hinj' : ∀ i j, i < f + 1 → j < f + 1 → (if i = f then c else s i) = (if j = f then c else s j) → i = j := fun i j hi hj e' => by
      by_cases q : i = f
      · by_cases q2 : j = f
        · omega
        · rw [if_pos q, if_neg q2] at e'
          exact absurd e'.symm (hn j (by omega))
      · by_cases q2 : j = f
        · rw [if_neg q, if_pos q2] at e'
          exact absurd e' (hn i (by omega))
        · rw [if_neg q, if_neg q2] at e'
          exact hinj i j (by omega) (by omega) e'
    have hf1 : f + 1 ≤ 2191 := stands_le hG (s := fun i => if i = f then c else s i) (fun i hi => by
      show Rc _ (if i = f then c else s i)
      by_cases q : i = f
      · rw [if_pos q]; exact hc
      · rw [if_neg q]; exact (t2 i (by omega)).1) hinj'
    have hr5 : c / 7776 ≤ 5 := by have := hvn.2; omega
    have hpk := pkN_lt (lpC_D7 n c)
    rw [if_pos e11, r2, if_neg (show ¬ (2200 : Int32) ≤ nI f from fun q => nI_ge (show f < 2200 by omega) (by decide) q), ck_p (ib_nI (by omega) (by decide)), nar_b (by omega)]
    rw [lt_eq, show rd (wa h 12 0 (nI f) (nI (c / 7776))) 0 0 2 = nI f from t1, ck_p (ib_nI (by omega) (by decide)), nar_s (by omega), lt_eq]
    rw [show rd (wa (wa h 12 0 (nI f) (nI (c / 7776))) 13 0 (nI f) (nI (pkN (lpC n c)))) 0 0 2 = nI f from t1, ck_p (ib_nI (by omega) (by decide)), lt_eq]
    rw [show rd (wa (wa (wa h 12 0 (nI f) (nI (c / 7776))) 13 0 (nI f) (nI (pkN (lpC n c)))) 14 0 (nI f) (vp_nar .byte 0)) 0 0 2 = nI f from t1, nI_1, lt_eq, ck_p hib]
    rw [show rd (wr (wa (wa (wa h 12 0 (nI f) (nI (c / 7776))) 13 0 (nI f) (nI (pkN (lpC n c)))) 14 0 (nI f) (vp_nar .byte 0)) 0 0 2 (nI (f + 1))) 0 0 2 = nI (f + 1) from rfl, nar_s (by omega), lt_eq]
    dsimp only
    generalize hH : wa (wr (wa (wa (wa h 12 0 (nI f) (nI (c / 7776))) 13 0 (nI f) (nI (pkN (lpC n c)))) 14 0 (nI f) (vp_nar .byte 0)) 0 0 2 (nI (f + 1))) 11 0 (nI (k)) (nI (f + 1)) = H
    have v11 : ∀ q, H.1 11 0 q = if q = k then nI (f + 1) else h.1 11 0 q := fun q => by
      rw [← hH, wa_g, nI_clamp (by omega), show 0 % cnt 11 = 0 from rfl]
      by_cases g : q = k
      · rw [if_pos ⟨rfl, rfl, g⟩, if_pos g]
      · rw [if_neg (fun w => g w.2.2), if_neg g, wr_other (by decide), wa_g, if_neg (by omega), wa_g, if_neg (by omega), wa_g, if_neg (by omega)]
    have v12 : ∀ i, H.1 12 0 i = if i = f then nI (c / 7776) else h.1 12 0 i := fun i => by
      rw [← hH, wa_g, if_neg (by omega), wr_other (by decide), wa_g, if_neg (by omega), wa_g, if_neg (by omega), wa_g, nI_clamp (by omega), show 0 % cnt 12 = 0 from rfl]
      by_cases q : i = f
      · rw [if_pos ⟨rfl, rfl, q⟩, if_pos q]
      · rw [if_neg (fun w => q w.2.2), if_neg q]
    have v13 : ∀ i, H.1 13 0 i = if i = f then nI (pkN (lpC n c)) else h.1 13 0 i := fun i => by
      rw [← hH, wa_g, if_neg (by omega), wr_other (by decide), wa_g, if_neg (by omega), wa_g, nI_clamp (by omega), show 0 % cnt 13 = 0 from rfl]
      by_cases q : i = f
      · rw [if_pos ⟨rfl, rfl, q⟩, if_pos q]
      · rw [if_neg (fun w => q w.2.2), if_neg q, wa_g, if_neg (by omega)]
    have v14 : H.1 14 0 f = 0 := by
      rw [← hH, wa_g, if_neg (by omega), wr_other (by decide), wa_g, nI_clamp (by omega), if_pos ⟨rfl, rfl, rfl⟩]; rfl
    have vo : KN h H f := fun k s' i u1 u2 u3 u4 u5 => by
      rw [← hH, wa_g, if_neg (by omega), wr_g, if_neg (by omega), wa_g, nI_clamp (by omega), if_neg (by omega), wa_g, if_neg (by omega), wa_g, if_neg (by omega)]
    rw [ck_p hib, ra_n (by omega), show H.1 11 (0 % cnt 11) (k) = nI (f + 1) by rw [show 0 % cnt 11 = 0 from rfl, v11, if_pos rfl], show nI (f + 1) - (1 : Int32) = nI f from nI_sub (b := 1) (by omega)]
    refine ⟨H, f + 1, fun i => if i = f then c else s i, f, rfl, ⟨by rw [← hH]; rfl, fun i hi => ?_, ?_⟩, by omega, hf1, fun i hi => by show (if i = f then c else s i) = s i; rw [if_neg (by omega)], by omega, by show (if f = f then c else s f) = c; rw [if_pos rfl], vo, Or.inr ⟨rfl, rfl, v14⟩⟩
    · show Rc _ (if i = f then c else s i) ∧ H.1 12 0 i = nI ((if i = f then c else s i) / 7776) ∧ H.1 13 0 i = nI (pkN (lpC n (if i = f then c else s i))) ∧ ∀ j, j < f + 1 → (if j = f then c else s j) = (if i = f then c else s i) → j = i
      refine ⟨?_, ?_, ?_, fun j hj e => hinj' j i hj hi e⟩
      · by_cases q : i = f
        · rw [if_pos q]; exact hc
        · rw [if_neg q]; exact (t2 i (by omega)).1
      · by_cases q : i = f
        · rw [v12, if_pos q, if_pos q]
        · rw [v12, if_neg q, if_neg q]; exact (t2 i (by omega)).2.1
      · by_cases q : i = f
        · rw [v13, if_pos q, if_pos q]
        · rw [v13, if_neg q, if_neg q]; exact (t2 i (by omega)).2.2.1
    · exact hz.add hkl hD hkD hfree hocc v11 (fun i hi => by show hmN n (if i = f then c else s i) = hmN n (s i); rw [if_neg (by omega)]) (by show hmN n (if f = f then c else s f) = hmN n c; rw [if_pos rfl])
