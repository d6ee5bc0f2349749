/-! the run that is made next -/
def okN (G : KG) (c p : Nat) : Prop := kpN G c p = true ∧ ((Ev G c ∧ Ev G (nxN G c p)) ∨ ∃ w v, Lst G c w ∧ Lst G (nxN G c p) v ∧ mnN G c 5 ≠ w ∧ tmN G c p + v = w)
def NR (G : KG) (c : Nat) (r : Int32) : Prop := (r = -1 ∧ ∀ p, p < 5 → ¬ okN G c p) ∨ ∃ p, p < 5 ∧ r = nI p ∧ okN G c p ∧ ∀ p', p' < p → ¬ okN G c p'
theorem NR.uniq {G : KG} {c : Nat} {r r' : Int32} (a : NR G c r) (b : NR G c r') : r = r' := by
  rcases a with ⟨rfl, a⟩ | ⟨p, hp, rfl, a1, a2⟩
  · rcases b with ⟨rfl, -⟩ | ⟨p, hp, rfl, b1, -⟩
    · rfl
    · exact absurd b1 (a p hp)
  · rcases b with ⟨rfl, b⟩ | ⟨q, hq, rfl, b1, b2⟩
    · exact absurd a1 (b p hp)
    · rcases Nat.lt_trichotomy p q with w | w | w
      · exact absurd a1 (b2 p w)
      · rw [w]
      · exact absurd b1 (a2 q w)
theorem DI.all {h : Hp} {n sp st f : Nat} {pl li le s o mk us : Nat → Nat} {T : Nat → Option Nat} (hv : SV sp st n pl li le) (d : DI h n (GC n sp st pl li le) f s 0 o mk us T) : (∀ c, Rc (GC n sp st pl li le) c → ∃ j, j < f ∧ s j = c) ∧ ∀ i, i < f → mk i = 2 ∨ mk i = 3 := by
  have hn := hv.2.2.2.1
  obtain ⟨t, hf, h0, hs0, dk, ⟨m1, m0, m2, m3, m4, m5⟩, dt⟩ := id d
  have done : ∀ i, i < f → mk i ≠ 0 → mk i = 2 ∨ mk i = 3 := fun i hi hne => by
    have := (m1 i hi).2
    have h1 : mk i ≠ 1 := fun e => by
      obtain ⟨⟨k, hk, -⟩, -⟩ := m2 i hi e
      omega
    omega
  have key : ∀ m c, rcN (GC n sp st pl li le) m c → ∃ j, j < f ∧ s j = c ∧ mk j ≠ 0 := by
    intro m
    induction m with
    | zero => intro c hc; exact ⟨0, h0, hs0.trans (show c = _ from hc).symm, m0⟩
    | succ m ih =>
      rintro c ⟨e, p, he, hp, hk, rfl⟩
      obtain ⟨j, hj, rfl, hm⟩ := ih e he
      have hpn : p < n := by
        have w : decide (p < n) = true := (kp_le hk).1
        exact of_decide_eq_true w
      obtain ⟨fw, hseen⟩ := m5 j hj hm
      obtain ⟨j2, a1, a2, a3⟩ := (fw p hpn).1 hk
      exact ⟨j2, a1, a2, hseen p j2 (by rw [m3 j hj (done j hj hm)]; omega) hpn hk a1 a2⟩
  refine ⟨fun c ⟨m, hm⟩ => ?_, fun i hi => ?_⟩
  · obtain ⟨j, a, b, -⟩ := key m c hm
    exact ⟨j, a, b⟩
  · obtain ⟨m, hm⟩ := (t.2.1 i hi).1
    obtain ⟨j, a, b, c⟩ := key m _ hm
    rw [← t.inj (by omega) j i a hi b]
    exact done j a c
theorem nextRunC_eq {h : Hp} {n sp st f i : Nat} {pl li le s o mk us : Nat → Nat} {T : Nat → Option Nat} (hv : SV sp st n pl li le) (h1n : 1 ≤ n) (hc : CSt h 10 sp st n pl li le) (d : DI h n (GC n sp st pl li le) f s 0 o mk us T) (hi : i < f) : ∃ r, fX2_nextRun (nI i) h = some (r, h) ∧ NR (GC n sp st pl li le) (s i) r := by
  have hn := hv.2.2.2.1
  have hall := (d.all hv).2
  obtain ⟨t, hf, h0, hs0, dk, ⟨m1, m0, m2, m3, m4, m5⟩, ⟨t1, t2, t3, t4⟩⟩ := id d
  have hib : ib (nI i) 2200 = true := ib_nI (by omega) (by decide)
  have r2 : rd h 6 10 2 = nI n := hc.2.2.1
  have r14 : ∀ q, q < f → ra h 14 0 (nI q) = nI (mk q) := fun q hq => by rw [ra_n (by omega)]; exact (m1 q hq).1
  obtain ⟨fw, -⟩ := m5 i hi (by have := hall i hi; omega)
  have hpn : ∀ p, okN (GC n sp st pl li le) (s i) p → p < n := fun p ok => by
    have w : decide (p < n) = true := (kp_le ok.1).1
    exact of_decide_eq_true w
  suffices hw : WP (fX2_nextRun (nI i) h) (fun r h' => h' = h ∧ NR (GC n sp st pl li le) (s i) r) by
    obtain ⟨r, h', e, rfl, q⟩ := hw
    exact ⟨r, e, q⟩
  unfold fX2_nextRun
  rw [ck_p hib, jn_eq, r14 i hi]
  rcases hall i hi with e | e
  · obtain ⟨w, hw⟩ := t2 i hi e
    obtain ⟨-, e16, hL, hwb⟩ := t3 i w hi hw
    have hcs := csN_le T 2200
    have r16 : ra h 16 0 (nI i) = nI w := by rw [ra_n (by omega)]; exact e16
    have hsn := sn_mn5 (n := n) (sp := sp) (st := st) (c := s i) (pl := pl) (li := li) (le := le) hn h1n
    rw [e, if_neg (show ¬ nI 2 = (3 : Int32) by decide)]
    dsimp only
    rw [jn_eq, if_pos rfl, ck_p hib, show ra h 13 0 (nI i) = nI (pkN (lpC n (s i))) by rw [ra_n (by omega)]; exact (t.2.1 i hi).2.2.1, soonest_eq (lpC_D7 n (s i)) (by decide) hn hc.2.2.1, bnd_eq, ck_p hib, r16, hsn.1]
    have hok : ∀ p, okN (GC n sp st pl li le) (s i) p → mnN (GC n sp st pl li le) (s i) 5 ≠ w ∧ ∃ v, Lst (GC n sp st pl li le) (nxN (GC n sp st pl li le) (s i) p) v ∧ tmN (GC n sp st pl li le) (s i) p + v = w := fun p ok => by
      rcases ok.2 with ⟨a, -⟩ | ⟨w', v, a1, a2, a3, a4⟩
      · exact absurd a hL.not_ev
      · rw [a1.uniq hL] at a3 a4
        exact ⟨a3, v, a2, a4⟩
    by_cases g : mnN (GC n sp st pl li le) (s i) 5 = w
    · rw [if_pos (by rw [g])]
      exact wp_some ⟨rfl, Or.inl ⟨rfl, fun p _ ok => (hok p ok).1 g⟩⟩
    · rw [if_neg (fun q => g ((eq_n (by omega) (by omega)).mp q))]
      dsimp only
      refine wp_for1 n (fun p h' => h' = h ∧ ∀ p', p' < p → ¬ okN (GC n sp st pl li le) (s i) p') ?_ ?_ FU h (i0 := 0) (by omega) (FUb (by omega)) ⟨rfl, fun p hp => absurd hp (Nat.not_lt_zero _)⟩
      · rintro p h1 rec hp ⟨rfl, hno⟩ hrec
        unfold fX2_nextRun_l46
        have next : ¬ okN (GC n sp st pl li le) (s i) p → WP (rec (nI (p + 1)) h1) (fun r h' => h' = h1 ∧ NR (GC n sp st pl li le) (s i) r) := fun hn' => hrec _ ⟨rfl, fun p' hp' => by
          by_cases z : p' = p
          · rw [z]; exact hn'
          · exact hno p' (by omega)⟩
        rw [r2, if_neg (fun q => nI_ge hp (by omega) q), followerOf_eq hn hc.2.2.1 (by omega) hp, bnd_eq, jn_eq]
        by_cases g2 : kpN (GC n sp st pl li le) (s i) p = true
        · obtain ⟨j, hj, ej, e18⟩ := (fw p hp).1 g2
          have hmj : mk j = 2 := by
            rcases hall j hj with z | z
            · exact z
            · have := (t4 j hj z).2
              rw [ej] at this
              exact absurd (Ev.cons (by omega) g2 this) hL.not_ev
          obtain ⟨v, hv2⟩ := t2 j hj hmj
          obtain ⟨-, ev16, hLv, hvb⟩ := t3 j v hj hv2
          have htb := tmN_b (GC_VG hv) ((t.2.1 i hi).1.vn (GC_VG hv)) (show p < 5 by omega) (kp_le g2).1
          rw [e18, if_neg (nI_nm1 (show j < 2 ^ 31 by omega)), if_pos rfl, beatsToC_eq hv hc t hf hi hp, bnd_eq, ck_p (ib_nI (by omega) (by decide)), ck_p hib, show ra h1 16 0 (nI j) = nI v by rw [ra_n (by omega)]; exact ev16, r16, nI_add]
          rw [ej] at hLv
          by_cases g3 : tmN (GC n sp st pl li le) (s i) p + v = w
          · rw [if_pos (by rw [g3])]
            exact wp_some ⟨rfl, Or.inr ⟨p, by omega, rfl, ⟨g2, Or.inr ⟨w, v, hL, hLv, g, g3⟩⟩, hno⟩⟩
          · rw [if_neg (fun q => g3 ((eq_n (by omega) (by omega)).mp q))]
            dsimp only
            rw [lt_eq, nI_1]
            exact next (fun ok => by
              obtain ⟨-, v', a1, a2⟩ := hok p ok
              rw [a1.uniq hLv] at a2
              exact g3 a2)
        · rw [(fw p hp).2 (Bool.not_eq_true _ |>.mp g2), if_pos rfl]
          dsimp only
          rw [lt_eq, nI_1]
          exact next (fun ok => g2 ok.1)
      · rintro h1 rec ⟨rfl, hno⟩
        unfold fX2_nextRun_l46
        rw [r2, if_pos (nI_le (Nat.le_refl _) (by omega))]
        exact wp_some ⟨rfl, Or.inl ⟨rfl, fun p _ ok => hno p (hpn p ok) ok⟩⟩
  · have hE := (t4 i hi e).2
    rw [e, if_pos (show nI 3 = (3 : Int32) from rfl)]
    dsimp only
    rw [jn_eq, if_neg ne10]
    dsimp only
    refine wp_for1 n (fun p h' => h' = h ∧ ∀ p', p' < p → ¬ okN (GC n sp st pl li le) (s i) p') ?_ ?_ FU h (i0 := 0) (by omega) (FUb (by omega)) ⟨rfl, fun p hp => absurd hp (Nat.not_lt_zero _)⟩
    · rintro p h1 rec hp ⟨rfl, hno⟩ hrec
      unfold fX2_nextRun_l46
      have next : ¬ okN (GC n sp st pl li le) (s i) p → WP (rec (nI (p + 1)) h1) (fun r h' => h' = h1 ∧ NR (GC n sp st pl li le) (s i) r) := fun hn' => hrec _ ⟨rfl, fun p' hp' => by
        by_cases z : p' = p
        · rw [z]; exact hn'
        · exact hno p' (by omega)⟩
      rw [r2, if_neg (fun q => nI_ge hp (by omega) q), followerOf_eq hn hc.2.2.1 (by omega) hp, bnd_eq, jn_eq]
      by_cases g2 : kpN (GC n sp st pl li le) (s i) p = true
      · obtain ⟨j, hj, ej, e18⟩ := (fw p hp).1 g2
        rw [e18, if_neg (nI_nm1 (show j < 2 ^ 31 by omega)), if_neg ne10, ck_p (ib_nI (by omega) (by decide)), r14 j hj]
        rcases hall j hj with z | z
        · obtain ⟨v, hv2⟩ := t2 j hj z
          obtain ⟨-, -, hLv, -⟩ := t3 j v hj hv2
          rw [ej] at hLv
          rw [z, if_neg (show ¬ nI 2 = (3 : Int32) by decide)]
          dsimp only
          rw [lt_eq, nI_1]
          exact next (fun ok => by
            rcases ok.2 with ⟨-, a⟩ | ⟨w', v', a1, -⟩
            · exact hLv.not_ev a
            · exact a1.not_ev hE)
        · have hEv := (t4 j hj z).2
          rw [ej] at hEv
          rw [z, if_pos (show nI 3 = (3 : Int32) from rfl)]
          dsimp only
          exact wp_some ⟨rfl, Or.inr ⟨p, by omega, rfl, ⟨g2, Or.inl ⟨hE, hEv⟩⟩, hno⟩⟩
      · rw [(fw p hp).2 (Bool.not_eq_true _ |>.mp g2), if_pos rfl]
        dsimp only
        rw [lt_eq, nI_1]
        exact next (fun ok => g2 ok.1)
    · rintro h1 rec ⟨rfl, hno⟩
      unfold fX2_nextRun_l46
      rw [r2, if_pos (nI_le (Nat.le_refl _) (by omega))]
      exact wp_some ⟨rfl, Or.inl ⟨rfl, fun p _ ok => hno p (hpn p ok) ok⟩⟩
