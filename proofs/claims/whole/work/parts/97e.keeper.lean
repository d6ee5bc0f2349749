/-! the reference's next run -/
theorem TF.ks {h h' : Hp} {G : KG} {f : Nat} {s : Nat → Nat} {T : Nat → Option Nat} (a : KS h h') (t : TF h G f s T) : TF h' G f s T :=
  ⟨t.1.ks a, fun j hj => (a 60 0 j (by decide) (by omega)).trans (t.2.1 j hj), t.2.2⟩
theorem nextRunM_wp {h : Hp} {G : KG} {v f i : Nat} {s : Nat → Nat} {T : Nat → Option Nat} (hG : VG G) (m : MG h G v) (tf : TF h G f s T) (hi : i < f) : ∃ r h', fX12_nextRun (nI i) h = some (r, h') ∧ KS h h' ∧ NR G (s i) r := by
  suffices hw : WP (fX12_nextRun (nI i) h) (fun r h' => KS h h' ∧ NR G (s i) r) by
    obtain ⟨r, h', e, q⟩ := hw
    exact ⟨r, h', e, q⟩
  obtain ⟨⟨sl, hf, hf0, hs0, clo⟩, t60, tT⟩ := id tf
  have hrc := (sl.2.1 i hi).1
  have hvn := hrc.vn hG
  have hib : ib (nI i) 46656 = true := ib_nI (by omega) (by decide)
  have g58 : ∀ h', KS h h' → ra h' 58 0 (nI i) = nI (s i) := fun h' k => by rw [ra_n (by omega)]; exact (k 58 0 i (by decide) (by omega)).trans (sl.2.1 i hi).2.1
  have g60 : ∀ h' j, j < f → KS h h' → ra h' 60 0 (nI j) = tI (T j) := fun h' j hj k => by rw [ra_n (by omega)]; exact (k 60 0 j (by decide) (by omega)).trans (t60 j hj)
  have hTb : ∀ j, j < f → ∀ w, T j = some w → w < 2 ^ 31 := fun j hj w e => by have := ((tT j hj).2 w e).2; omega
  unfold fX12_nextRun
  obtain ⟨h1, e1, o1, k1⟩ := open_wp (h := h) G hvn.1
  rw [ck_p hib, g58 h (fun _ _ _ _ _ => rfl), e1, bnd_eq, ck_p hib, jn_eq, g60 h1 i hi k1]
  have loop : ∀ h3, KS h h3 → (∀ w, T i = some w → mnN G (s i) 5 ≠ w) → WP (itr1 (fX12_nextRun_l37 (nI i) (fun y15 h16 => some (y15, h16))) FU 0 h3) (fun r h' => KS h h' ∧ NR G (s i) r) := by
    intro h3 k3 hmn
    refine wp_for1 5 (fun p h' => KS h h' ∧ ∀ p', p' < p → ¬ okN G (s i) p') ?_ ?_ FU h3 (i0 := 0) (by omega) (FUb (by omega)) ⟨k3, fun p hp => absurd hp (Nat.not_lt_zero _)⟩
    · rintro p h4 rec hp ⟨k4, hno⟩ hrec
      unfold fX12_nextRun_l37
      have next : ∀ h', KS h h' → ¬ okN G (s i) p → WP (rec (nI (p + 1)) h') (fun r h' => KS h h' ∧ NR G (s i) r) := fun h' k' hn' => hrec _ ⟨k', fun p' hp' => by
        by_cases z : p' = p
        · rw [z]; exact hn'
        · exact hno p' (by omega)⟩
      obtain ⟨h5, e5, o5, k5⟩ := open_wp (h := h4) G hvn.1
      have k5' := k4.trans k5
      rw [if_neg (show ¬ (5 : Int32) ≤ nI p from fun q => nI_ge hp (by decide) q), ck_p hib, g58 h4 k4, e5, bnd_eq, isKeptM_eq hG (m.ks k5') hvn o5 hp, bnd_eq, jn_eq]
      by_cases g : kpN G (s i) p = true
      · rw [if_pos g, if_neg ne10]
        obtain ⟨t, et, ht⟩ := beatsTo_eq hG (m.ks k5') hvn o5 hp
        have ht' := ht (kp_le g).1
        obtain ⟨h6, e6, o6, k6⟩ := behindRunM_wp hG (m.ks k5') hvn o5 hp g
        have k6' := k5'.trans k6
        obtain ⟨j, hj, ej⟩ := clo i hi p hp g
        have hnv := (nx_VN hG hp g).1
        have r59 : ra h6 59 0 (nI (nxN G (s i) p)) = nI (j + 1) := by
          rw [ra_n (by omega), ← ej]
          exact (k6' 59 0 _ (by decide) (by omega)).trans (sl.2.1 j hj).2.2
        rw [et, bnd_eq, e6, bnd_eq, ck_p (ib_nI hnv (by decide)), r59, show nI (j + 1) - (1 : Int32) = nI j from nI_sub (b := 1) (by omega), ck_p (ib_nI (by omega) (by decide)), g60 h6 j hj k6', lt_eq, ck_p hib, g60 h6 i hi k6', ht']
        have htb := tmN_b hG hvn hp (kp_le g).1
        cases hx : T i with
        | none =>
          have hE := (tT i hi).1 hx
          rw [if_pos (show tI none = (-1 : Int32) from rfl)]
          cases hy : T j with
          | none =>
            have hE2 := (tT j hj).1 hy
            rw [ej] at hE2
            rw [if_pos (show tI none = (-1 : Int32) from rfl)]
            dsimp only
            exact wp_some ⟨k6', Or.inr ⟨p, hp, rfl, ⟨g, Or.inl ⟨hE, hE2⟩⟩, hno⟩⟩
          | some v2 =>
            have hL2 := ((tT j hj).2 v2 hy).1
            rw [ej] at hL2
            rw [if_neg (show ¬ tI (some v2) = (-1 : Int32) from nI_nm1 (hTb j hj v2 hy))]
            dsimp only
            rw [lt_eq, nI_1]
            exact next h6 k6' (fun ok => by
              rcases ok.2 with ⟨-, a⟩ | ⟨w', v', a1, -⟩
              · exact hL2.not_ev a
              · exact a1.not_ev hE)
        | some w =>
          obtain ⟨hL, hwb⟩ := (tT i hi).2 w hx
          rw [if_neg (show ¬ tI (some w) = (-1 : Int32) from nI_nm1 (hTb i hi w hx)), ck_p hib]
          cases hy : T j with
          | none =>
            have hE2 := (tT j hj).1 hy
            rw [ej] at hE2
            exact absurd (Ev.cons hp g hE2) hL.not_ev
          | some v2 =>
            obtain ⟨hL2, hvb⟩ := (tT j hj).2 v2 hy
            rw [ej] at hL2
            rw [show tI (some v2) = nI v2 from rfl, show tI (some w) = nI w from rfl, nI_add]
            by_cases g3 : tmN G (s i) p + v2 = w
            · rw [if_pos (by rw [g3])]
              exact wp_some ⟨k6', Or.inr ⟨p, hp, rfl, ⟨g, Or.inr ⟨w, v2, hL, hL2, hmn w hx, g3⟩⟩, hno⟩⟩
            · rw [if_neg (fun q => g3 ((eq_n (by omega) (by omega)).mp q))]
              dsimp only
              rw [lt_eq, nI_1]
              exact next h6 k6' (fun ok => by
                rcases ok.2 with ⟨a, -⟩ | ⟨w', v', a1, a2, a3, a4⟩
                · exact hL.not_ev a
                · rw [a1.uniq hL, a2.uniq hL2] at a4
                  exact g3 a4)
      · rw [if_neg g, if_pos rfl]
        dsimp only
        rw [lt_eq, nI_1]
        exact next h5 k5' (fun ok => g ok.1)
    · rintro h4 rec ⟨k4, hno⟩
      unfold fX12_nextRun_l37
      rw [if_pos (show (5 : Int32) ≤ nI 5 by decide)]
      exact wp_some ⟨k4, Or.inl ⟨rfl, fun p hp ok => hno p hp ok⟩⟩
  cases hx : T i with
  | none =>
    rw [if_pos (show tI none = (-1 : Int32) from rfl)]
    dsimp only
    exact loop h1 k1 (fun w e => by rw [hx] at e; cases e)
  | some w =>
    obtain ⟨hL, hwb⟩ := (tT i hi).2 w hx
    have hmb := (mnN_le (G := G) (c := s i) 5).1
    rw [if_neg (show ¬ tI (some w) = (-1 : Int32) from nI_nm1 (hTb i hi w hx)), leastLeft_eq (m.ks k1) o1, bnd_eq, ck_p hib, g60 h1 i hi k1, hx, show tI (some w) = nI w from rfl]
    by_cases g : mnN G (s i) 5 = w
    · rw [if_pos (by rw [g])]
      exact wp_some ⟨k1, Or.inl ⟨rfl, fun p _ ok => by
        rcases ok.2 with ⟨a, -⟩ | ⟨w', v', a1, a2, a3, a4⟩
        · exact hL.not_ev a
        · rw [a1.uniq hL] at a3
          exact a3 g⟩⟩
    · rw [if_neg (fun q => g ((eq_n (by omega) (by omega)).mp q))]
      dsimp only
      exact loop h1 k1 (fun w' e => by rw [hx] at e; cases e; exact g)
