/-! the reference lays all stands out -/
theorem kp_le {G : KG} {c p : Nat} (hk : kpN G c p = true) : G.1 p = true ∧ tmN G c p ≤ lfN c p ∧ ∀ e, e < 5 → e ≠ p → G.1 e = true → tmN G c p < lfN c e := by
  unfold kpN at hk
  rw [Bool.and_eq_true, Bool.and_eq_true, decide_eq_true_eq] at hk
  refine ⟨hk.1.1, hk.1.2, ?_⟩
  have key : ∀ n, kqN G c (tmN G c p) p n = true → ∀ e, e < n → e ≠ p → G.1 e = true → tmN G c p < lfN c e := by
    intro n
    induction n with
    | zero => intro _ e he; exact absurd he (Nat.not_lt_zero _)
    | succ n ih =>
      intro h e he hep hs
      have h' : (kqN G c (tmN G c p) p n && (decide (n = p) || (!G.1 n || decide (tmN G c p < lfN c n)))) = true := h
      rw [Bool.and_eq_true] at h'
      by_cases q : e = n
      · subst q
        have := h'.2
        rw [decide_eq_false hep, Bool.false_or, hs, Bool.not_true, Bool.false_or, decide_eq_true_eq] at this
        exact this
      · exact ih h'.1 e (by omega) hep hs
  exact key 5 hk.2
theorem behindRunM_wp {h : Hp} {G : KG} {v c p : Nat} (hG : VG G) (m : MG h G v) (hc : VN G c) (o : OS h G c) (hp : p < 5) (hk : kpN G c p = true) : ∃ h', fX12_behindRun (nI p) h = some (nI (nxN G c p), h') ∧ OS h' G (nxN G c p) ∧ KS h h' := by
  obtain ⟨t, et, ht⟩ := beatsTo_eq hG m hc o hp
  obtain ⟨hs, k1, k2⟩ := kp_le hk
  have htm := ht hs
  subst htm
  have htb := tmN_b hG hc hp hs
  have : WP (fX12_behindRun (nI p) h) (fun r h' => r = nI (nxN G c p) ∧ OS h' G (nxN G c p) ∧ KS h h') := by
    unfold fX12_behindRun
    rw [et, bnd_eq]
    refine wp_for1 5 (fun i h' => (∀ e, e < i → h'.1 63 0 e = if e = p then h.1 54 0 e else h.1 63 0 e - nI (tmN G c p)) ∧ (∀ e, i ≤ e → h'.1 63 0 e = h.1 63 0 e) ∧ ∀ k s j, k ≠ 63 → h'.1 k s j = h.1 k s j) ?_ ?_ FU h (i0 := 0) (by omega) (FUb (by decide)) ⟨fun e he => absurd he (Nat.not_lt_zero _), fun _ _ => rfl, fun _ _ _ _ => rfl⟩
    · rintro i h1 rec hi ⟨a1, a2, a3⟩ hrec
      unfold fX12_behindRun_l8
      have hib : ib (nI i) 5 = true := ib_nI hi (by decide)
      rw [if_neg (show ¬ (5 : Int32) ≤ nI i from fun q => nI_ge hi (by decide) q), jn_eq, ck_p hib, ck_p hib]
      have go : ∀ z, z = (if i = p then h.1 54 0 i else h.1 63 0 i - nI (tmN G c p)) → WP (ck (ib (nI i) 5) (lt (wa h1 63 0 (nI i) z) fun h5 => lt (nI i + 1) fun x6 => rec x6 h5)) (fun r h' => r = nI (nxN G c p) ∧ OS h' G (nxN G c p) ∧ KS h h') := by
        rintro z rfl
        rw [ck_p hib, lt_eq, lt_eq, nI_1]
        refine hrec _ ⟨fun e he => ?_, fun e he => ?_, fun k s j hk => by rw [wa_g, if_neg (by omega)]; exact a3 k s j hk⟩
        · rw [wa_g, nI_clamp (by omega), show 0 % cnt 63 = 0 from rfl]
          by_cases hei : e = i
          · rw [if_pos ⟨rfl, rfl, hei⟩, hei]
          · rw [if_neg (by omega)]; exact a1 e (by omega)
        · rw [wa_g, nI_clamp (by omega), if_neg (by omega)]; exact a2 e (by omega)
      by_cases g : i = p
      · rw [if_pos (show nI i = nI p by rw [g])]
        refine go _ ?_
        rw [if_pos g, ra_n (by omega)]
        exact a3 54 0 i (by decide)
      · rw [if_neg (fun q => g ((eq_n (by omega) (by omega)).mp q))]
        refine go _ ?_
        rw [if_neg g, ra_n (by omega), show h1.1 63 (0 % cnt 63) i = h.1 63 0 i from a2 i (Nat.le_refl _)]
    · rintro h1 rec ⟨a1, a2, a3⟩
      unfold fX12_behindRun_l8
      rw [if_pos (show (5 : Int32) ≤ nI 5 by decide)]
      dsimp only
      rw [lt_eq]
      have ks : KS h (wr h1 10 0 47 (nI p)) := fun k s i u1 u2 => by rw [wr_g, if_neg (by omega)]; exact a3 k s i u1
      have e63 : ∀ e, e < 5 → G.1 e = true → (wr h1 10 0 47 (nI p)).1 63 0 e = nI ((if e = p then G.2.2.2.2.1 e - 1 else lfN c e - tmN G c p - 1) + 1) := by
        intro e he hse
        rw [wr_other (by decide), a1 e he]
        by_cases g : e = p
        · rw [if_pos g, if_pos g, (m.2.2.2.2.2 e he hse).2.1]
          have := hG.2.2.2 e he hse
          rw [Nat.sub_add_cancel (by omega)]
        · rw [if_neg g, if_neg g, o.2 e he hse]
          have := k2 e he g hse
          rw [nI_sub (by omega)]
          congr 1
          omega
      have hcl := close_eq (r := p) (m.ks ks) rfl e63
      rw [hcl, bnd_eq]
      refine wp_some ⟨rfl, ⟨?_, fun e he hse => ?_⟩, ks⟩
      · unfold nxN
        rw [cdN_run (nx_dig hG c p)]; rfl
      · rw [e63 e he hse]
        unfold nxN
        rw [cdN_dig (nx_dig hG c p) he]
        show nI _ = nI ((if G.1 e = true then _ else 0) + 1)
        rw [if_pos hse]
  obtain ⟨r, h', e, rfl, q⟩ := this
  exact ⟨h', e, q⟩
theorem pig : ∀ (N f : Nat) (s : Nat → Nat), (∀ i, i < f → s i < N) → (∀ i j, i < f → j < f → s i = s j → i = j) → f ≤ N := by
  intro N
  induction N with
  | zero =>
    intro f s h1 _
    rcases Nat.eq_zero_or_pos f with h | h
    · omega
    · exact absurd (h1 0 h) (Nat.not_lt_zero _)
  | succ N ih =>
    intro f s h1 h2
    by_cases g : ∃ i, i < f ∧ s i = N
    · obtain ⟨i0, hi0, e0⟩ := g
      have := ih (f - 1) (fun i => if i = i0 then s (f - 1) else s i) (fun i hi => ?_) (fun i j hi hj e => ?_)
      · omega
      · show (if i = i0 then s (f - 1) else s i) < N
        by_cases q : i = i0
        · rw [if_pos q]
          have a := h1 (f - 1) (by omega)
          have b : s (f - 1) ≠ N := fun w => by have := h2 (f - 1) i0 (by omega) hi0 (by rw [w, e0]); omega
          omega
        · rw [if_neg q]
          have a := h1 i (by omega)
          have b : s i ≠ N := fun w => q (h2 i i0 (by omega) hi0 (by rw [w, e0]))
          omega
      · have e' : (if i = i0 then s (f - 1) else s i) = (if j = i0 then s (f - 1) else s j) := e
        by_cases q : i = i0
        · by_cases q2 : j = i0
          · omega
          · rw [if_pos q, if_neg q2] at e'
            have := h2 _ _ (by omega) (by omega) e'
            omega
        · by_cases q2 : j = i0
          · rw [if_neg q, if_pos q2] at e'
            have := h2 _ _ (by omega) (by omega) e'
            omega
          · rw [if_neg q, if_neg q2] at e'
            exact h2 _ _ (by omega) (by omega) e'
    · have := ih f s (fun i hi => ?_) h2
      · omega
      · have a := h1 i hi
        have b : s i ≠ N := fun w => g ⟨i, hi, w⟩
        omega
def rcN (G : KG) : Nat → Nat → Prop
  | 0, c => c = c0N G
  | m + 1, c => ∃ d p, rcN G m d ∧ p < 5 ∧ kpN G d p = true ∧ c = nxN G d p
def Rc (G : KG) (c : Nat) : Prop := ∃ m, rcN G m c
theorem Rc.next {G : KG} {c p : Nat} (h : Rc G c) (hp : p < 5) (hk : kpN G c p = true) : Rc G (nxN G c p) := by
  obtain ⟨m, hm⟩ := h
  exact ⟨m + 1, c, p, hm, hp, hk, rfl⟩
theorem Rc.vn {G : KG} (hG : VG G) {c : Nat} (h : Rc G c) : VN G c := by
  obtain ⟨m, hm⟩ := h
  cases m with
  | zero => rw [show c = c0N G from hm]; exact c0_VN hG
  | succ m =>
    obtain ⟨d, p, -, hp, hk, rfl⟩ := hm
    exact nx_VN hG hp hk
/-- the list of stands as the reference holds it -/
def SLt (h : Hp) (G : KG) (f : Nat) (s : Nat → Nat) : Prop := h.1 10 0 46 = nI f ∧ (∀ i, i < f → Rc G (s i) ∧ h.1 58 0 i = nI (s i) ∧ h.1 59 0 (s i) = nI (i + 1)) ∧ ∀ c, c < 46656 → (∀ i, i < f → s i ≠ c) → h.1 59 0 c = 0
theorem SLt.inj {h : Hp} {G : KG} {f : Nat} {s : Nat → Nat} (hG : VG G) (l : SLt h G f s) (hf : f < 2 ^ 31) : ∀ i j, i < f → j < f → s i = s j → i = j := by
  intro i j hi hj e
  have a := (l.2.1 i hi).2.2
  have b := (l.2.1 j hj).2.2
  rw [e, b] at a
  have := (eq_n (by omega) (by omega)).mp a
  omega
theorem SLt.len {h : Hp} {G : KG} {f : Nat} {s : Nat → Nat} (hG : VG G) (l : SLt h G f s) (hf : f < 2 ^ 31) : f ≤ 46656 := pig 46656 f s (fun i hi => ((l.2.1 i hi).1.vn hG).1) (l.inj hG hf)
theorem SLt.ks {h h' : Hp} {G : KG} {f : Nat} {s : Nat → Nat} (a : KS h h') (l : SLt h G f s) : SLt h' G f s := by
  obtain ⟨l1, l2, l3⟩ := l
  exact ⟨(a _ _ _ (by decide) (by decide)).trans l1, fun i hi => ⟨(l2 i hi).1, (a _ _ _ (by decide) (by omega)).trans (l2 i hi).2.1, (a _ _ _ (by decide) (by omega)).trans (l2 i hi).2.2⟩, fun c hc hn => (a _ _ _ (by decide) (by omega)).trans (l3 c hc hn)⟩
def KL3 (h h' : Hp) : Prop := ∀ k s i, k ≠ 58 → k ≠ 59 → ¬ (k = 10 ∧ i = 46) → h'.1 k s i = h.1 k s i
theorem addStand_wp {h : Hp} {G : KG} {f c : Nat} {s : Nat → Nat} (hG : VG G) (l : SLt h G f s) (hf : f ≤ 46656) (hc : Rc G c) : ∃ h' f' s', fX12_addStand (nI c) h = some ((), h') ∧ SLt h' G f' s' ∧ f ≤ f' ∧ f' ≤ 46656 ∧ (∀ i, i < f → s' i = s i) ∧ (∃ j, j < f' ∧ s' j = c) ∧ KL3 h h' := by
  obtain ⟨l1, l2, l3⟩ := id l
  have hcv := (hc.vn hG).1
  unfold fX12_addStand
  have hib : ib (nI c) 46656 = true := ib_nI hcv (by decide)
  rw [ck_p hib, ra_n (by omega), show 0 % cnt 59 = 0 from rfl]
  by_cases g : ∃ j, j < f ∧ s j = c
  · obtain ⟨j, hj, e⟩ := g
    have e59 : h.1 59 0 c = nI (j + 1) := by rw [← e]; exact (l2 j hj).2.2
    rw [e59, if_neg (fun q => by have := (eq0_n (by omega)).mp q; omega)]
    exact ⟨h, f, s, rfl, l, Nat.le_refl _, hf, fun _ _ => rfl, ⟨j, hj, e⟩, fun _ _ _ _ _ _ => rfl⟩
  · have hn : ∀ i, i < f → s i ≠ c := fun i hi w => g ⟨i, hi, w⟩
    have e59 : h.1 59 0 c = 0 := l3 c hcv hn
    have hinj := l.inj hG (by omega)
    have hf1 : f + 1 ≤ 46656 := pig 46656 (f + 1) (fun i => if i = f then c else s i) (fun i hi => by
      show (if i = f then c else s i) < 46656
      by_cases q : i = f
      · rw [if_pos q]; exact hcv
      · rw [if_neg q]; exact ((l2 i (by omega)).1.vn hG).1) (fun i j hi hj e => by
      have e' : (if i = f then c else s i) = (if j = f then c else s j) := e
      by_cases q : i = f
      · by_cases q2 : j = f
        · omega
        · rw [if_pos q, if_neg q2] at e'
          exact absurd e'.symm (hn j (by omega))
      · by_cases q2 : j = f
        · rw [if_neg q, if_pos q2] at e'
          exact absurd e' (hn i (by omega))
        · rw [if_neg q, if_neg q2] at e'
          exact hinj i j (by omega) (by omega) e')
    have r46 : rd h 10 0 46 = nI f := l1
    rw [if_pos e59, r46, ck_p (ib_nI (by omega) (by decide)), lt_eq]
    have r46' : rd (wa h 58 0 (nI f) (nI c)) 10 0 46 = nI f := l1
    rw [r46', nI_1, lt_eq, ck_p hib, lt_eq]
    have r46'' : rd (wr (wa h 58 0 (nI f) (nI c)) 10 0 46 (nI (f + 1))) 10 0 46 = nI (f + 1) := rfl
    rw [r46'']
    refine ⟨_, f + 1, fun i => if i = f then c else s i, rfl, ⟨rfl, fun i hi => ?_, fun c' hc' hn' => ?_⟩, by omega, hf1, fun i hi => by show (if i = f then c else s i) = s i; rw [if_neg (by omega)], ⟨f, by omega, by show (if f = f then c else s f) = c; rw [if_pos rfl]⟩, fun k s i u1 u2 u3 => ?_⟩
    · show Rc G (if i = f then c else s i) ∧ _ = nI (if i = f then c else s i) ∧ (wa (wr (wa h 58 0 (nI f) (nI c)) 10 0 46 (nI (f + 1))) 59 0 (nI c) (nI (f + 1))).1 59 0 (if i = f then c else s i) = _
      by_cases q : i = f
      · rw [if_pos q]
        refine ⟨hc, ?_, ?_⟩
        · rw [wa_g, if_neg (by omega), wr_other (by decide), wa_g, nI_clamp (by omega), if_pos ⟨rfl, rfl, q⟩]
        · rw [wa_g, nI_clamp (by omega), if_pos ⟨rfl, rfl, rfl⟩, q]
      · rw [if_neg q]
        have hi' : i < f := by omega
        refine ⟨(l2 i hi').1, ?_, ?_⟩
        · rw [wa_g, if_neg (by omega), wr_other (by decide), wa_g, nI_clamp (by omega), if_neg (by omega)]; exact (l2 i hi').2.1
        · rw [wa_g, nI_clamp (by omega), if_neg (fun w => hn i hi' w.2.2), wr_other (by decide), wa_g, if_neg (by omega)]; exact (l2 i hi').2.2
    · have hcc : c' ≠ c := fun w => by
        have := hn' f (by omega)
        dsimp only at this
        rw [if_pos rfl] at this
        exact this w.symm
      rw [wa_g, nI_clamp (by omega), if_neg (fun w => hcc w.2.2), wr_other (by decide), wa_g, if_neg (by omega)]
      exact l3 c' hc' (fun i hi => by
        have := hn' i (by omega)
        dsimp only at this
        rwa [if_neg (by omega)] at this)
    · rw [wa_g, if_neg (by omega), wr_g, if_neg (by omega), wa_g, if_neg (by omega)]
theorem MG.kl {h h' : Hp} {G : KG} {v : Nat} (a : KL3 h h') (m : MG h G v) : MG h' G v := by
  obtain ⟨m1, m2, m3, m4, m5, m6⟩ := m
  refine ⟨m1, (a _ _ _ (by decide) (by decide) (by decide)).trans m2, (a _ _ _ (by decide) (by decide) (by decide)).trans m3, (a _ _ _ (by decide) (by decide) (by decide)).trans m4, m5, fun p hp hs => ?_⟩
  rw [a _ _ _ (by decide) (by decide) (by omega), a _ _ _ (by decide) (by decide) (by omega), a _ _ _ (by decide) (by decide) (by omega)]; exact m6 p hp hs
