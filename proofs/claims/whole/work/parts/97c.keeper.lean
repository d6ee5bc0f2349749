/-! what is known of the keeper between questions -/
def FT (h : Hp) (n sp st : Nat) (pl li le : Nat → Nat) : Prop := (n = 0 ∧ FT0 h sp st pl li le) ∨ (1 ≤ n ∧ ∃ f s o mk us T, DI h n (GC n sp st pl li le) f s 0 o mk us T)
def KIv (h : Hp) : Prop := KB h ∧ (h.1 0 0 1 = 0 ∨ h.1 0 0 1 = 1) ∧ (h.1 0 0 1 = 1 → ∃ n sp st pl li le, SV sp st n pl li le ∧ CSt h 10 sp st n pl li le ∧ FT h n sp st pl li le)
def SK (h h' : Hp) : Prop := ∀ k i, ((k = 0 ∧ i ≤ 3) ∨ (11 ≤ k ∧ k ≤ 18)) → h'.1 k 0 i = h.1 k 0 i
theorem KB.sk {h h' : Hp} (e : SK h h') (b : KB h) : KB h' := by
  obtain ⟨n, sp, st, pl, li, le, f, s, hv, t, hf⟩ := b
  exact ⟨n, sp, st, pl, li, le, f, s, hv, t.cp (fun k i hk => e k i (by omega)), hf⟩
theorem DI.sk {h h' : Hp} {n : Nat} {G : KG} {f : Nat} {s : Nat → Nat} {D : Nat} {o mk us : Nat → Nat} {T : Nat → Option Nat} (e : SK h h') (d : DI h n G f s D o mk us T) : DI h' n G f s D o mk us T := by
  obtain ⟨t, hf, h0, hs0, ⟨k0, k1, k2, k3, k4⟩, ⟨m1, m0, m2, m3, m4, m5⟩, ⟨t1, t2, t3, t4⟩⟩ := d
  refine ⟨t.cp (fun k i hk => e k i (by omega)), hf, h0, hs0, ⟨(e 0 3 (by omega)).trans k0, fun k hk => ⟨(e 17 k (by omega)).trans (k1 k hk).1, (k1 k hk).2⟩, k2, k3, k4⟩, ⟨fun q hq => ⟨(e 14 q (by omega)).trans (m1 q hq).1, (m1 q hq).2⟩, m0, fun q hq w => ⟨(m2 q hq w).1, (e 15 q (by omega)).trans (m2 q hq w).2.1, (m2 q hq w).2.2⟩, m3, m4, fun q hq w => ⟨(m5 q hq w).1.cp (fun p _ => e 18 _ (by omega)), (m5 q hq w).2⟩⟩, ⟨t1, t2, fun q w hq z => ⟨(t3 q w hq z).1, (e 16 q (by omega)).trans (t3 q w hq z).2.1, (t3 q w hq z).2.2⟩, fun q hq z => ⟨(e 16 q (by omega)).trans (t4 q hq z).1, (t4 q hq z).2⟩⟩⟩
theorem FT.sk {h h' : Hp} {n sp st : Nat} {pl li le : Nat → Nat} (e : SK h h') (w : FT h n sp st pl li le) : FT h' n sp st pl li le := by
  rcases w with ⟨h0, a, b, s, t, hs⟩ | ⟨h1, f, s, o, mk, us, T, d⟩
  · exact Or.inl ⟨h0, (e 14 0 (by omega)).trans a, (e 16 0 (by omega)).trans b, s, t.cp (fun k i hk => e k i (by omega)), hs⟩
  · exact Or.inr ⟨h1, f, s, o, mk, us, T, d.sk e⟩
theorem KIv_stab : KStab KIv := by
  intro h h' e k
  have e' : SK h h' := fun k i hk => e k 0 i (by
    unfold kkb
    rcases hk with ⟨rfl, -⟩ | ⟨a, b⟩
    · rfl
    · rw [decide_eq_true a, decide_eq_true (show k ≤ 20 by omega)]
      cases (k == 0) <;> rfl)
  obtain ⟨b, z, w⟩ := k
  refine ⟨b.sk e', by rw [e' 0 1 (by omega)]; exact z, fun g => ?_⟩
  rw [e' 0 1 (by omega)] at g
  obtain ⟨n, sp, st, pl, li, le, hv, hc, ft⟩ := w g
  refine ⟨n, sp, st, pl, li, le, hv, hc.cp (fun k i hk => e k 10 i ?_), ft.sk e'⟩
  rcases hk with rfl | rfl | rfl | rfl <;> rfl
theorem isLike_eq {h : Hp} {a sp st n sp' st' n' : Nat} {pl li le pl' li' le' : Nat → Nat} (ha : a < 12) (hv : SV sp st n pl li le) (hc : CSt h 10 sp st n pl li le) (hv' : SV sp' st' n' pl' li' le') (hc' : CSt h a sp' st' n' pl' li' le') : ∃ r, fX8_isLike 10 a h = some (r, h) ∧ (r = 0 ∨ (r = 1 ∧ sp = sp' ∧ st = st' ∧ n = n' ∧ ∀ p, p < n → pl p = pl' p ∧ li p = li' p ∧ le p = le' p)) := by
  suffices hw : WP (fX8_isLike 10 a h) (fun r h' => h' = h ∧ (r = 0 ∨ (r = 1 ∧ sp = sp' ∧ st = st' ∧ n = n' ∧ ∀ p, p < n → pl p = pl' p ∧ li p = li' p ∧ le p = le' p))) by
    obtain ⟨r, h', e, rfl, q⟩ := hw
    exact ⟨r, e, q⟩
  have hn := hv.2.2.2.1
  have hn' := hv'.2.2.2.1
  have ma : ∀ k, cnt k = 12 → a % cnt k = a := fun k hk => by rw [hk]; exact Nat.mod_eq_of_lt ha
  have r0 : rd h 6 10 0 = nI sp := hc.1
  have r1 : rd h 6 10 1 = nI st := hc.2.1
  have r2 : rd h 6 10 2 = nI n := hc.2.2.1
  have s0 : rd h 6 a 0 = nI sp' := by show h.1 6 (a % cnt 6) 0 = _; rw [ma 6 rfl]; exact hc'.1
  have s1 : rd h 6 a 1 = nI st' := by show h.1 6 (a % cnt 6) 1 = _; rw [ma 6 rfl]; exact hc'.2.1
  have s2 : rd h 6 a 2 = nI n' := by show h.1 6 (a % cnt 6) 2 = _; rw [ma 6 rfl]; exact hc'.2.2.1
  have no : WP (ck (zk 0) (some ((0 : Int32), h))) (fun r h' => h' = h ∧ (r = 0 ∨ (r = 1 ∧ sp = sp' ∧ st = st' ∧ n = n' ∧ ∀ p, p < n → pl p = pl' p ∧ li p = li' p ∧ le p = le' p))) := by
    rw [ck_p zk_0]; exact wp_some ⟨rfl, Or.inl rfl⟩
  have b1 := hv.2.1
  have b2 := hv'.2.1
  have b3 := hv.2.2.1
  have b4 := hv'.2.2.1
  unfold fX8_isLike
  rw [r0, r1, r2, s0, s1, s2]
  by_cases g0 : nI sp = nI sp'
  · rw [if_pos g0]
    by_cases g1 : nI st = nI st'
    · rw [if_pos g1]
      by_cases g2 : nI n = nI n'
      · rw [if_pos g2]
        have q0 := (eq_n (by omega) (by omega)).mp g0
        have q1 := (eq_n (by omega) (by omega)).mp g1
        have q2 := (eq_n (by omega) (by omega)).mp g2
        refine wp_for1 n (fun i h' => h' = h ∧ ∀ p, p < i → pl p = pl' p ∧ li p = li' p ∧ le p = le' p) ?_ ?_ FU h (i0 := 0) (by omega) (FUb (by omega)) ⟨rfl, fun p hp => absurd hp (Nat.not_lt_zero _)⟩
        · rintro i h1 rec hi ⟨rfl, hall⟩ hrec
          unfold fX8_isLike_l37
          have hib : ib (nI i) 5 = true := ib_nI (by omega) (by decide)
          obtain ⟨x1, x2, x3⟩ := hc.2.2.2 i hi
          obtain ⟨y1, y2, y3⟩ := hc'.2.2.2 i (by omega)
          obtain ⟨u1, u2, u3, u4, u5⟩ := hv.2.2.2.2 i hi
          obtain ⟨w1, w2, w3, w4, w5⟩ := hv'.2.2.2.2 i (by omega)
          have a33 : ra h1 33 10 (nI i) = nI (pl i) := by rw [ra_n (by omega)]; exact x1
          have a34 : ra h1 34 10 (nI i) = nI (li i) := by rw [ra_n (by omega)]; exact x2
          have a35 : ra h1 35 10 (nI i) = nI (le i) := by rw [ra_n (by omega)]; exact x3
          have c33 : ra h1 33 a (nI i) = nI (pl' i) := by rw [ra_n (by omega), ma 33 rfl]; exact y1
          have c34 : ra h1 34 a (nI i) = nI (li' i) := by rw [ra_n (by omega), ma 34 rfl]; exact y2
          have c35 : ra h1 35 a (nI i) = nI (le' i) := by rw [ra_n (by omega), ma 35 rfl]; exact y3
          rw [r2, if_neg (fun q => nI_ge hi (by omega) q), ck_p hib, ck_p hib, a33, c33]
          by_cases k1 : nI (pl i) = nI (pl' i)
          · rw [if_pos k1, ck_p hib, ck_p hib, a34, c34]
            by_cases k2 : nI (li i) = nI (li' i)
            · rw [if_pos k2, ck_p hib, ck_p hib, a35, c35]
              by_cases k3 : nI (le i) = nI (le' i)
              · rw [if_pos k3, lt_eq, nI_1]
                refine hrec _ ⟨rfl, fun p hp => ?_⟩
                by_cases z : p = i
                · rw [z]; exact ⟨(eq_n (by omega) (by omega)).mp k1, (eq_n (by omega) (by omega)).mp k2, (eq_n (by omega) (by omega)).mp k3⟩
                · exact hall p (by omega)
              · rw [if_neg k3]; exact no
            · rw [if_neg k2]; exact no
          · rw [if_neg k1]; exact no
        · rintro h1 rec ⟨rfl, hall⟩
          unfold fX8_isLike_l37
          rw [r2, if_pos (nI_le (Nat.le_refl _) (by omega))]
          dsimp only
          rw [ck_p zk_1]
          exact wp_some ⟨rfl, Or.inr ⟨rfl, q0, q1, q2, hall⟩⟩
      · rw [if_neg g2]; exact no
    · rw [if_neg g1]; exact no
  · rw [if_neg g0]; exact no
theorem exploreAll_wp {h : Hp} {n sp st a : Nat} {pl li le : Nat → Nat} (hv : SV sp st n pl li le) (ha : a < 12) (ha10 : a ≠ 10) (hc : CSt h a sp st n pl li le) (hk : KIv h) : ∃ h' pl' li' le', fX2_exploreAll a h = some ((), h') ∧ KIv h' ∧ KY h h' ∧ (∀ p, p < n → pl' p = pl p ∧ li' p = li p ∧ le' p = le p) ∧ SV sp st n pl' li' le' ∧ CSt h' 10 sp st n pl' li' le' ∧ h'.1 0 0 1 = 1 ∧ FT h' n sp st pl' li' le' := by
  have go : ∃ h', fX2_explore a 1 h = some (1, h') ∧ True ∨ ∃ r, fX2_explore a 1 h = some (r, h') := by
    by_cases h1n : 1 ≤ n
    · obtain ⟨r, h', e, -⟩ := explore_wp (l2 := 1) hv h1n ha ha10 hc hk.1 zk_1
      exact ⟨h', Or.inr ⟨r, e⟩⟩
    · have h0 : n = 0 := by omega
      subst h0
      obtain ⟨h', e, -⟩ := explore0_wp (l2 := 1) hv ha ha10 hc hk.1 zk_1
      exact ⟨h', Or.inl ⟨e, trivial⟩⟩
  clear go
  have go : ∃ r h', fX2_explore a 1 h = some (r, h') ∧ KY h h' ∧ CSt h' 10 sp st n pl li le ∧ h'.1 0 0 1 = 1 ∧ FT h' n sp st pl li le ∧ KB h' := by
    by_cases h1n : 1 ≤ n
    · obtain ⟨r, h', e, -, ky, c, w, f, s, D, o, mk, us, T, d, hD⟩ := explore_wp (l2 := 1) hv h1n ha ha10 hc hk.1 zk_1
      have hD0 := hD (by decide)
      rw [hD0] at d
      exact ⟨r, h', e, ky, c, w, Or.inr ⟨h1n, f, s, o, mk, us, T, d⟩, d.kb hv⟩
    · have h0 : n = 0 := by omega
      subst h0
      obtain ⟨h', e, ky, c, w, ft⟩ := explore0_wp (l2 := 1) hv ha ha10 hc hk.1 zk_1
      obtain ⟨-, -, s, t, -⟩ := id ft
      exact ⟨1, h', e, ky, c, w, Or.inl ⟨rfl, ft⟩, 0, sp, st, pl, li, le, 1, s, hv, t, by omega⟩
  obtain ⟨r, h', e, ky, c, w, ft, kb⟩ := go
  have res : ∃ h' pl' li' le', (bnd (fX2_explore a 1 h) fun _ h3 => some ((), h3)) = some ((), h') ∧ KIv h' ∧ KY h h' ∧ (∀ p, p < n → pl' p = pl p ∧ li' p = li p ∧ le' p = le p) ∧ SV sp st n pl' li' le' ∧ CSt h' 10 sp st n pl' li' le' ∧ h'.1 0 0 1 = 1 ∧ FT h' n sp st pl' li' le' := by
    refine ⟨h', pl, li, le, by rw [e, bnd_eq], ⟨kb, Or.inr w, fun _ => ⟨n, sp, st, pl, li, le, hv, c, ft⟩⟩, ky, fun _ _ => ⟨rfl, rfl, rfl⟩, hv, c, w, ft⟩
  unfold fX2_exploreAll
  rw [jn_eq]
  by_cases g : rd h 0 0 1 = 0
  · rw [if_pos g]
    dsimp only
    exact res
  · rw [if_neg g]
    have g1 : h.1 0 0 1 = 1 := hk.2.1.resolve_left g
    obtain ⟨n0, sp0, st0, pl0, li0, le0, hv0, hc0, ft0⟩ := hk.2.2 g1
    obtain ⟨x, ex, hx⟩ := isLike_eq ha hv0 hc0 hv hc
    rw [ex, bnd_eq]
    rcases hx with rfl | ⟨rfl, q0, q1, q2, q3⟩
    · rw [if_pos rfl]
      dsimp only
      exact res
    · rw [if_neg ne10]
      rw [q0, q1, q2] at ft0 hv0 hc0
      exact ⟨h, pl0, li0, le0, rfl, hk, fun _ _ _ _ _ _ => rfl, fun p hp => q3 p (by omega), hv0, hc0, g1, ft0⟩
