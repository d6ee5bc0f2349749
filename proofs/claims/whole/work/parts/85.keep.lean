/-! stands of the reference -/
def MG (h : Hp) (G : KG) (v : Nat) : Prop := v < 32 ∧ h.1 10 0 23 = nI G.2.1 ∧ h.1 10 0 24 = nI G.2.2.1 ∧ h.1 10 0 25 = nI v ∧ (∀ p, p < 5 → G.1 p = v.testBit p) ∧ ∀ p, p < 5 → G.1 p = true → h.1 53 0 p = nI (G.2.2.2.1 p) ∧ h.1 54 0 p = nI (G.2.2.2.2.1 p) ∧ h.1 55 0 p = nI (G.2.2.2.2.2 p)
def OS (h : Hp) (G : KG) (c : Nat) : Prop := h.1 10 0 47 = nI (c / 7776) ∧ ∀ p, p < 5 → G.1 p = true → h.1 63 0 p = nI (lfN c p)
def KS (h h' : Hp) : Prop := ∀ k s i, k ≠ 63 → ¬ (k = 10 ∧ i = 47) → h'.1 k s i = h.1 k s i
theorem KS.trans {h h1 h2 : Hp} (a : KS h h1) (b : KS h1 h2) : KS h h2 := fun k s i u1 u2 => (b k s i u1 u2).trans (a k s i u1 u2)
theorem MG.ks {h h' : Hp} {G : KG} {v : Nat} (a : KS h h') (m : MG h G v) : MG h' G v := by
  obtain ⟨m1, m2, m3, m4, m5, m6⟩ := m
  refine ⟨m1, (a _ _ _ (by decide) (by decide)).trans m2, (a _ _ _ (by decide) (by decide)).trans m3, (a _ _ _ (by decide) (by decide)).trans m4, m5, fun p hp hs => ?_⟩
  rw [a _ _ _ (by decide) (by omega), a _ _ _ (by decide) (by omega), a _ _ _ (by decide) (by omega)]; exact m6 p hp hs
theorem dig_mod (c : Nat) {p : Nat} (hp : p < 5) : c % 7776 / 6 ^ p % 6 = c / 6 ^ p % 6 := by
  rcases (show p = 0 ∨ p = 1 ∨ p = 2 ∨ p = 3 ∨ p = 4 by omega) with rfl | rfl | rfl | rfl | rfl
  · show c % 7776 / 1 % 6 = c / 1 % 6; omega
  · show c % 7776 / 6 % 6 = c / 6 % 6; omega
  · show c % 7776 / 36 % 6 = c / 36 % 6; omega
  · show c % 7776 / 216 % 6 = c / 216 % 6; omega
  · show c % 7776 / 1296 % 6 = c / 1296 % 6; omega
theorem open_wp {h : Hp} {c : Nat} (G : KG) (hc : c < 46656) : ∃ h', fX12_open (nI c) h = some ((), h') ∧ OS h' G c ∧ KS h h' := by
  have : WP (fX12_open (nI c) h) (fun _ h' => OS h' G c ∧ KS h h') := by
    unfold fX12_open
    have e1 : nI c / (7776 : Int32) = nI (c / 7776) := nI_div (b := 7776) (by omega) (by decide)
    have e2 : irm (nI c) (7776 : Int32) = nI (c % 7776) := nI_rem (b := 7776) (by omega) (by decide)
    rw [e1, e2]
    refine wp_lt (wp_lt ?_)
    refine wp_for2 5 (fun i a h' => a = nI (c % 7776 / 6 ^ i) ∧ (∀ p, p < i → h'.1 63 0 p = nI (lfN c p)) ∧ ∀ k s j, k ≠ 63 → h'.1 k s j = (wr h 10 0 47 (nI (c / 7776))).1 k s j) ?_ ?_ FU _ _ (i0 := 0) (by omega) (FUb (by decide)) ⟨by rw [Nat.pow_zero, Nat.div_one], fun p hp => absurd hp (Nat.not_lt_zero _), fun _ _ _ _ => rfl⟩
    · rintro i a h1 rec hi ⟨rfl, a1, a2⟩ hrec
      unfold fX12_open_l17
      have hd : c % 7776 / 6 ^ i ≤ c % 7776 := Nat.div_le_self _ _
      rw [if_neg (show ¬ (5 : Int32) ≤ nI i from fun q => nI_ge hi (by decide) q), ck_p (ib_nI hi (by decide)), lt_eq, lt_eq, lt_eq, show irm (nI (c % 7776 / 6 ^ i)) (6 : Int32) = nI (c % 7776 / 6 ^ i % 6) from nI_rem (b := 6) (by omega) (by decide), show nI (c % 7776 / 6 ^ i) / (6 : Int32) = nI (c % 7776 / 6 ^ i / 6) from nI_div (b := 6) (by omega) (by decide), nI_1, nI_1]
      refine hrec _ _ ⟨by rw [Nat.pow_succ, Nat.div_div_eq_div_mul], fun p hp => ?_, fun k s j hk => by rw [wa_g, if_neg (by omega)]; exact a2 k s j hk⟩
      rw [wa_g, nI_clamp (by omega), show 0 % cnt 63 = 0 from rfl]
      by_cases hpi : p = i
      · rw [if_pos ⟨rfl, rfl, hpi⟩, hpi]
        unfold lfN
        rw [dig_mod c hi]
      · rw [if_neg (by omega)]; exact a1 p (by omega)
    · rintro a h1 rec ⟨rfl, a1, a2⟩
      unfold fX12_open_l17
      rw [if_pos (show (5 : Int32) ≤ nI 5 by decide)]
      refine wp_some ⟨⟨(a2 10 0 47 (by decide)).trans rfl, fun p hp _ => a1 p hp⟩, fun k s j h1 h2 => ?_⟩
      rw [a2 k s j h1, wr_g, if_neg (by omega)]
  obtain ⟨u, h', e, q⟩ := this
  exact ⟨h', e, q⟩
theorem openFirst_wp {h : Hp} {G : KG} {v : Nat} (hG : VG G) (m : MG h G v) : ∃ h', fX12_openFirst h = some ((), h') ∧ OS h' G (c0N G) ∧ KS h h' := by
  have : WP (fX12_openFirst h) (fun _ h' => OS h' G (c0N G) ∧ KS h h') := by
    unfold fX12_openFirst
    refine wp_lt ?_
    refine wp_for1 5 (fun i h' => (∀ p, p < i → h'.1 63 0 p = h.1 55 0 p) ∧ ∀ k s j, k ≠ 63 → h'.1 k s j = (wr h 10 0 47 5).1 k s j) ?_ ?_ FU _ (i0 := 0) (by omega) (FUb (by decide)) ⟨fun p hp => absurd hp (Nat.not_lt_zero _), fun _ _ _ _ => rfl⟩
    · rintro i h1 rec hi ⟨a1, a2⟩ hrec
      unfold fX12_openFirst_l7
      have r55 : ra h1 55 0 (nI i) = h.1 55 0 i := by rw [ra_n (by omega)]; exact (a2 55 0 i (by decide)).trans rfl
      rw [if_neg (show ¬ (5 : Int32) ≤ nI i from fun q => nI_ge hi (by decide) q), ck_p (ib_nI hi (by decide)), ck_p (ib_nI hi (by decide)), lt_eq, lt_eq, nI_1, r55]
      refine hrec _ ⟨fun p hp => ?_, fun k s j hk => by rw [wa_g, if_neg (by omega)]; exact a2 k s j hk⟩
      rw [wa_g, nI_clamp (by omega), show 0 % cnt 63 = 0 from rfl]
      by_cases hpi : p = i
      · rw [if_pos ⟨rfl, rfl, hpi⟩, hpi]
      · rw [if_neg (by omega)]; exact a1 p (by omega)
    · rintro h1 rec ⟨a1, a2⟩
      unfold fX12_openFirst_l7
      rw [if_pos (show (5 : Int32) ≤ nI 5 by decide)]
      refine wp_some ⟨⟨?_, fun p hp hs => ?_⟩, fun k s j h1 h2 => ?_⟩
      · rw [a2 10 0 47 (by decide)]
        unfold c0N
        rw [cdN_run (c0_dig hG)]; rfl
      · rw [a1 p hp, (m.2.2.2.2.2 p hp hs).2.2]
        unfold c0N
        rw [cdN_dig (c0_dig hG) hp]
        show _ = nI ((if G.1 p = true then _ else 0) + 1)
        have := hG.2.2.2 p hp hs
        rw [if_pos hs, Nat.sub_add_cancel (by omega)]
      · rw [a2 k s j h1, wr_g, if_neg (by omega)]
  obtain ⟨u, h', e, q⟩ := this
  exact ⟨h', e, q⟩
theorem close_step {h : Hp} {G : KG} {v F s p : Nat} {f : Nat → Nat} {K : Int32 → Hp → Option (Int32 × Hp)} (m : MG h G v) (hp : p < 5) (e63 : G.1 p = true → 1 ≤ f p + 1 ∧ h.1 63 0 p = nI (f p + 1)) : itr2 (fX12_close_l7 K) (F + 1) (nI s) (nI p) h = itr2 (fX12_close_l7 K) F (nI (6 * s + if G.1 p = true then f p else 0)) (nI p + (-1)) h := by
  rw [itr2_s]
  generalize itr2 (fX12_close_l7 K) F = R
  unfold fX12_close_l7
  have r25 : rd h 10 0 25 = nI v := m.2.2.2.1
  rw [if_neg (fun q => in_no hp (by decide) (Or.inl q)), r25, hasM_eq v m.1 p (by omega), bnd_eq, jn_eq, ← m.2.2.2.2.1 p hp]
  by_cases g : G.1 p = true
  · rw [if_pos g, if_neg ne10, ck_p (ib_nI hp (by decide)), if_pos g]
    have r63 : ra h 63 0 (nI p) = nI (f p + 1) := by rw [ra_n (by omega)]; exact (e63 g).2
    rw [r63, show nI (f p + 1) - (1 : Int32) = nI (f p) from nI_sub (b := 1) (by omega)]
    dsimp only
    rw [lt_eq, lt_eq, show (6 : Int32) = nI 6 from rfl, nI_mul, nI_add]
  · rw [if_neg g, if_pos rfl, if_neg g]
    dsimp only
    rw [lt_eq, lt_eq, show (6 : Int32) = nI 6 from rfl, nI_mul, show nI (6 * s) + (0 : Int32) = nI (6 * s + 0) from nI_add _ 0]
theorem close_eq {h : Hp} {G : KG} {v r : Nat} {f : Nat → Nat} (m : MG h G v) (e47 : h.1 10 0 47 = nI r) (e63 : ∀ p, p < 5 → G.1 p = true → h.1 63 0 p = nI (f p + 1)) : fX12_close h = some (nI (cdN r (fun e => if G.1 e = true then f e else 0)), h) := by
  unfold fX12_close
  have r47 : rd h 10 0 47 = nI r := e47
  have hF : FU = 3999994 + 1 + 1 + 1 + 1 + 1 + 1 := rfl
  have st : ∀ F s p, p < 5 → itr2 (fX12_close_l7 (fun y8 h9 => some (y8, h9))) (F + 1) (nI s) (nI p) h = itr2 (fX12_close_l7 (fun y8 h9 => some (y8, h9))) F (nI (6 * s + if G.1 p = true then f p else 0)) (nI p + (-1)) h := fun F s p hp => close_step m hp (fun g => ⟨by omega, e63 p hp g⟩)
  rw [lt_eq, r47, hF, show (4 : Int32) = nI 4 from rfl, st _ _ 4 (by decide), show nI 4 + (-1 : Int32) = nI 3 by decide, st _ _ 3 (by decide), show nI 3 + (-1 : Int32) = nI 2 by decide, st _ _ 2 (by decide), show nI 2 + (-1 : Int32) = nI 1 by decide, st _ _ 1 (by decide), show nI 1 + (-1 : Int32) = nI 0 by decide, st _ _ 0 (by decide), itr2_s]
  unfold fX12_close_l7
  rw [if_pos (show nI 0 + (-1 : Int32) < 0 by decide)]
  dsimp only
  have e : 6 * (6 * (6 * (6 * (6 * r + if G.1 4 = true then f 4 else 0) + if G.1 3 = true then f 3 else 0) + if G.1 2 = true then f 2 else 0) + if G.1 1 = true then f 1 else 0) + (if G.1 0 = true then f 0 else 0) = cdN r (fun e => if G.1 e = true then f e else 0) := by
    unfold cdN dgt
    dsimp only
    generalize (if G.1 0 = true then f 0 else 0) = a0
    generalize (if G.1 1 = true then f 1 else 0) = a1
    generalize (if G.1 2 = true then f 2 else 0) = a2
    generalize (if G.1 3 = true then f 3 else 0) = a3
    generalize (if G.1 4 = true then f 4 else 0) = a4
    omega
  rw [e]
/-- the beats to a plate: of a plate that is not among them, some number -/
theorem beatsTo_eq {h : Hp} {G : KG} {v c p : Nat} (hG : VG G) (m : MG h G v) (hc : VN G c) (o : OS h G c) (hp : p < 5) : ∃ t : Int32, fX12_beatsTo (nI p) h = some (t, h) ∧ (G.1 p = true → t = nI (tmN G c p)) := by
  have r47 : rd h 10 0 47 = nI (c / 7776) := o.1
  have hpn : fX12_placeNow h = some (nI (plN G c), h) := by
    unfold fX12_placeNow plN
    rw [r47]
    by_cases g : c / 7776 = 5
    · rw [if_pos (show nI (c / 7776) = 5 by rw [g]; rfl), if_pos g]
      exact congrArg (fun z => some (z, h)) m.2.2.1
    · have hr := hc.2.resolve_left g
      rw [if_neg (show ¬ nI (c / 7776) = 5 from fun q => g ((eq_n (b := 5) (by omega) (by decide)).mp q)), if_neg g, ck_p (ib_nI hr.1 (by decide)), ra_n (by omega)]
      exact congrArg (fun z => some (z, h)) (m.2.2.2.2.2 _ hr.1 hr.2).1
  unfold fX12_beatsTo
  rw [hpn, bnd_eq, ck_p (ib_nI hp (by decide))]
  by_cases g : G.1 p = true
  · have r53 : ra h 53 0 (nI p) = nI (G.2.2.2.1 p) := by rw [ra_n (by omega)]; exact (m.2.2.2.2.2 p hp g).1
    rw [r53, way12_eq hG.1 hG.2.1 m.2.1 (plN_le hG hc) (hG.2.2.2 p hp g).1, bnd_eq, nI_1]
    exact ⟨_, rfl, fun _ => rfl⟩
  · have hne : (!decide (rd h 10 0 23 = 0)) = true := by
      rw [show rd h 10 0 23 = nI G.2.1 from m.2.1, Bool.not_eq_true', decide_eq_false_iff_not]
      have := hG.1
      have := hG.2.1
      exact fun q => by have := (eq0_n (by omega)).mp q; omega
    have tot : ∀ a b : Int32, ∃ t, fX12_way a b h = some (t, h) := by
      intro a b
      unfold fX12_way
      rw [jn_eq]
      by_cases q : b ≤ a
      · rw [if_pos q]; dsimp only; rw [ck_p hne]; exact ⟨_, rfl⟩
      · rw [if_neg q]; dsimp only; rw [ck_p hne]; exact ⟨_, rfl⟩
    obtain ⟨t, et⟩ := tot (nI (plN G c)) (ra h 53 0 (nI p))
    rw [et, bnd_eq]
    exact ⟨_, rfl, fun w => absurd w g⟩
theorem isKeptM_eq {h : Hp} {G : KG} {v c p : Nat} (hG : VG G) (m : MG h G v) (hc : VN G c) (o : OS h G c) (hp : p < 5) : fX12_isKept (nI p) h = some (if kpN G c p = true then 1 else 0, h) := by
  obtain ⟨t, et, ht⟩ := beatsTo_eq hG m hc o hp
  have r25 : rd h 10 0 25 = nI v := m.2.2.2.1
  have zl : ∀ F (e : Nat), e ≤ 5 → 5 - e < F → itr2 (fX12_isKept_l36 (nI p) t (fun y16 h17 => ck (zk y16) (some (y16, h17)))) F 0 (nI e) h = some (0, h) := by
    intro F
    induction F with
    | zero => intro e _ h0; exact absurd h0 (Nat.not_lt_zero _)
    | succ F ih =>
      intro e he hF
      rw [itr2_s]
      by_cases g : e = 5
      · generalize itr2 (fX12_isKept_l36 (nI p) t (fun y16 h17 => ck (zk y16) (some (y16, h17)))) F = R
        subst g
        unfold fX12_isKept_l36
        rw [if_pos (show (5 : Int32) ≤ nI 5 by decide)]; rfl
      · have ihe := ih (e + 1) (by omega) (by omega)
        generalize itr2 (fX12_isKept_l36 (nI p) t (fun y16 h17 => ck (zk y16) (some (y16, h17)))) F = R at ihe
        unfold fX12_isKept_l36
        rw [if_neg (show ¬ (5 : Int32) ≤ nI e from fun q => nI_ge (show e < 5 by omega) (by decide) q), jn_eq, jn_eq, if_pos rfl]
        dsimp only
        rw [lt_eq, nI_1]
        exact ihe
  unfold fX12_isKept
  rw [et, bnd_eq, r25, hasM_eq v m.1 p (by omega), bnd_eq, jn_eq, jn_eq, ← m.2.2.2.2.1 p hp]
  have hz := zl FU 0 (by omega) (FUb (by decide))
  by_cases g : G.1 p = true
  · have htm := ht g
    have htb := tmN_b hG hc hp g
    have hlb := lfN_b c p
    have r63 : ra h 63 0 (nI p) = nI (lfN c p) := by rw [ra_n (by omega)]; exact o.2 p hp g
    rw [if_pos g, if_neg ne10, ck_p (ib_nI hp (by decide)), r63, htm]
    rw [htm] at hz
    by_cases g2 : lfN c p < tmN G c p
    · rw [if_pos (nI_lt g2 (by omega)), if_neg (show ¬ kpN G c p = true by unfold kpN; simp; intros; omega)]
      exact hz
    · rw [if_neg (fun q => g2 ((lt_n (by omega) (by omega)).mp q))]
      apply wp_same
      have kp : kpN G c p = kqN G c (tmN G c p) p 5 := by unfold kpN; rw [g, decide_eq_true (show tmN G c p ≤ lfN c p by omega), Bool.true_and, Bool.true_and]
      refine wp_for2 5 (fun e a h' => a = (if kqN G c (tmN G c p) p e = true then 1 else 0) ∧ h' = h) ?_ ?_ FU 1 h (i0 := 0) (by omega) (FUb (by decide)) ⟨rfl, rfl⟩
      · rintro e a h1 rec he ⟨rfl, rfl⟩ hrec
        unfold fX12_isKept_l36
        have ek : kqN G c (tmN G c p) p (e + 1) = (kqN G c (tmN G c p) p e && (decide (e = p) || (!G.1 e || decide (tmN G c p < lfN c e)))) := rfl
        rw [if_neg (show ¬ (5 : Int32) ≤ nI e from fun q => nI_ge he (by decide) q), jn_eq, jn_eq]
        by_cases k : kqN G c (tmN G c p) p e = true
        · rw [k, Bool.true_and] at ek
          rw [if_pos k, if_neg ne10, jn_eq]
          have yes : kqN G c (tmN G c p) p (e + 1) = true → WP (lt (nI e + 1) fun x9 => rec 1 x9 h1) (fun r h' => r = (if kpN G c p = true then 1 else 0) ∧ h' = h1) := fun q => by
            rw [lt_eq, nI_1]
            exact hrec _ _ ⟨by rw [if_pos q], rfl⟩
          have no : kqN G c (tmN G c p) p (e + 1) = false → WP (lt (nI e + 1) fun x9 => rec 0 x9 h1) (fun r h' => r = (if kpN G c p = true then 1 else 0) ∧ h' = h1) := fun q => by
            rw [lt_eq, nI_1]
            exact hrec _ _ ⟨by rw [if_neg (by rw [q]; decide)], rfl⟩
          by_cases ep : e = p
          · rw [if_pos (show nI e = nI p by rw [ep])]
            exact yes (by rw [ek, decide_eq_true ep]; rfl)
          · rw [decide_eq_false ep, Bool.false_or] at ek
            rw [if_neg (fun q => ep ((eq_n (by omega) (by omega)).mp q)), show rd h1 10 0 25 = nI v from r25, hasM_eq v m.1 e (by omega), bnd_eq, ← m.2.2.2.2.1 e he]
            by_cases ge : G.1 e = true
            · have hle := lfN_b c e
              have r63e : ra h1 63 0 (nI e) = nI (lfN c e) := by rw [ra_n (by omega)]; exact o.2 e he ge
              rw [ge, Bool.not_true, Bool.false_or] at ek
              rw [if_pos ge, if_neg ne10, ck_p (ib_nI he (by decide)), r63e]
              by_cases gl : tmN G c p < lfN c e
              · rw [if_neg (fun q => nI_ge gl (by omega) q)]
                exact yes (by rw [ek]; exact decide_eq_true gl)
              · rw [if_pos (nI_le (by omega) (by omega))]
                exact no (by rw [ek]; exact decide_eq_false gl)
            · rw [if_neg ge, if_pos rfl]
              exact yes (by rw [ek, Bool.not_eq_true _ |>.mp ge]; rfl)
        · rw [if_neg k, if_pos rfl]
          dsimp only
          rw [lt_eq, nI_1]
          refine hrec _ _ ⟨?_, rfl⟩
          rw [if_neg (by rw [ek, Bool.not_eq_true _ |>.mp k, Bool.false_and]; decide)]
      · rintro a h1 rec ⟨rfl, rfl⟩
        unfold fX12_isKept_l36
        rw [if_pos (show (5 : Int32) ≤ nI 5 by decide)]
        dsimp only
        rw [kp]
        have hzk : zk (if kqN G c (tmN G c p) p 5 = true then (1 : Int32) else 0) = true := by split <;> rfl
        rw [ck_p hzk]
        exact wp_some ⟨rfl, rfl⟩
  · rw [if_neg g, if_pos rfl, if_neg (show ¬ kpN G c p = true by unfold kpN; simp [g])]
    exact hz
