/-! for ever: the reference -/
def KF (h h' : Hp) : Prop := ∀ k s i, k ≠ 58 → k ≠ 59 → k ≠ 60 → k ≠ 63 → ¬ (k = 10 ∧ (i = 46 ∨ i = 47)) → h'.1 k s i = h.1 k s i
theorem LO.ks {h h' : Hp} {G : KG} {f : Nat} {s : Nat → Nat} (a : KS h h') (l : LO h G f s) : LO h' G f s := ⟨l.1.ks a, l.2⟩
def K60 (h h' : Hp) : Prop := ∀ k s i, k ≠ 60 → h'.1 k s i = h.1 k s i
theorem LO.k60 {h h' : Hp} {G : KG} {f : Nat} {s : Nat → Nat} (a : K60 h h') (l : LO h G f s) : LO h' G f s := by
  obtain ⟨⟨l1, l2, l3⟩, l4⟩ := l
  exact ⟨⟨(a _ _ _ (by decide)).trans l1, fun i hi => ⟨(l2 i hi).1, (a _ _ _ (by decide)).trans (l2 i hi).2.1, (a _ _ _ (by decide)).trans (l2 i hi).2.2⟩, fun c hc hn => (a _ _ _ (by decide)).trans (l3 c hc hn)⟩, l4⟩
theorem MG.k60 {h h' : Hp} {G : KG} {v : Nat} (a : K60 h h') (m : MG h G v) : MG h' G v := by
  obtain ⟨m1, m2, m3, m4, m5, m6⟩ := m
  exact ⟨m1, (a _ _ _ (by decide)).trans m2, (a _ _ _ (by decide)).trans m3, (a _ _ _ (by decide)).trans m4, m5, fun p hp hs => ⟨(a _ _ _ (by decide)).trans (m6 p hp hs).1, (a _ _ _ (by decide)).trans (m6 p hp hs).2.1, (a _ _ _ (by decide)).trans (m6 p hp hs).2.2⟩⟩
/-- the whole table: what goes on for ever, and how long the others last -/
def TF (h : Hp) (G : KG) (f : Nat) (s : Nat → Nat) (T : Nat → Option Nat) : Prop := LO h G f s ∧ (∀ j, j < f → h.1 60 0 j = tI (T j)) ∧ ∀ j, j < f → (T j = none → Ev G (s j)) ∧ ∀ w, T j = some w → Lst G (s j) w ∧ w ≤ 500000
theorem LO.inv {h : Hp} {G : KG} {f : Nat} {s : Nat → Nat} (hG : VG G) (l : LO h G f s) : MInv h := by
  obtain ⟨⟨l1, l2, l3⟩, hf, -⟩ := l
  refine ⟨f, hf, l1, fun i hi => ⟨s i, ((l2 i hi).1.vn hG).1, (l2 i hi).2.1⟩, fun c hc hne => ?_⟩
  apply Classical.byContradiction
  intro hno
  exact hne (l3 c hc (fun i hi w => hno ⟨i, hi, by rw [← w]; exact (l2 i hi).2.1⟩))
theorem tI_m1 {x : Option Nat} (hx : ∀ w, x = some w → w < 2 ^ 31) : (tI x = -1) ↔ x = none := by
  cases x with
  | none => exact ⟨fun _ => rfl, fun _ => rfl⟩
  | some w => exact ⟨fun q => absurd q.symm (neg_ne (hx w rfl)), fun q => by cases q⟩
theorem isForever_wp {h : Hp} {G : KG} {v : Nat} (hG : VG G) (m : MG h G v) (hI : MInv h) : ∃ h' r, fX12_isForever h = some (r, h') ∧ MG h' G v ∧ KF h h' ∧ MInv h' ∧ ((v = 0 ∧ r = 1 ∧ ∃ f s, LO h' G f s) ∨ (v ≠ 0 ∧ ∃ f s T, TF h' G f s T ∧ ((T 0 = none ∧ r = 1) ∨ (T 0 ≠ none ∧ r = 0)))) := by
  obtain ⟨h1, f, s, e1, lo, m1, k1⟩ := layOut_wp hG m hI
  have hv := m.1
  have kf1 : KF h h1 := fun k s i u1 u2 _ u4 u5 => k1 k s i u1 u2 u4 u5
  have r25 : rd h1 10 0 25 = nI v := m1.2.2.2.1
  by_cases hv0 : v = 0
  · refine ⟨h1, 1, ?_, m1, kf1, lo.inv hG, Or.inl ⟨hv0, rfl, f, s, lo⟩⟩
    unfold fX12_isForever
    rw [e1, bnd_eq, r25, if_pos ((eq0_n (by omega)).mpr hv0)]; rfl
  have hne : ∃ p, p < 5 ∧ G.1 p = true := by
    have key : ∀ v, v < 32 → v ≠ 0 → v.testBit 0 = true ∨ v.testBit 1 = true ∨ v.testBit 2 = true ∨ v.testBit 3 = true ∨ v.testBit 4 = true := by decide
    rcases key v hv hv0 with q | q | q | q | q
    · exact ⟨0, by decide, by rw [m1.2.2.2.2.1 0 (by decide)]; exact q⟩
    · exact ⟨1, by decide, by rw [m1.2.2.2.2.1 1 (by decide)]; exact q⟩
    · exact ⟨2, by decide, by rw [m1.2.2.2.2.1 2 (by decide)]; exact q⟩
    · exact ⟨3, by decide, by rw [m1.2.2.2.2.1 3 (by decide)]; exact q⟩
    · exact ⟨4, by decide, by rw [m1.2.2.2.2.1 4 (by decide)]; exact q⟩
  obtain ⟨hf, hf0⟩ : f ≤ 46656 ∧ 0 < f := ⟨lo.2.1, lo.2.2.1⟩
  suffices hw : WP (fX12_isForever h) (fun r h' => MG h' G v ∧ KF h h' ∧ ∃ T, TF h' G f s T ∧ ((T 0 = none ∧ r = 1) ∨ (T 0 ≠ none ∧ r = 0))) by
    obtain ⟨r, h', e, a1, a2, T, a3, a4⟩ := hw
    exact ⟨h', r, e, a1, a2, a3.1.inv hG, Or.inr ⟨hv0, f, s, T, a3, a4⟩⟩
  unfold fX12_isForever
  rw [e1, bnd_eq, r25, if_neg (fun q => hv0 ((eq0_n (by omega)).mp q))]
  have r46 : ∀ h' : Hp, LO h' G f s → rd h' 10 0 46 = nI f := fun h' l => l.1.1
  refine wp_for1 f (fun i h' => (∀ j, j < i → h'.1 60 0 j = -1) ∧ K60 h1 h') ?_ ?_ FU h1 (i0 := 0) (by omega) (FUb (by omega)) ⟨fun j hj => absurd hj (Nat.not_lt_zero _), fun _ _ _ _ => rfl⟩
  · rintro i h2 rec hi ⟨a1, a2⟩ hrec
    unfold fX12_isForever_l15
    rw [r46 h2 (lo.k60 a2), if_neg (fun q => nI_ge hi (by omega) q), ck_p (ib_nI (by omega) (by decide)), lt_eq, lt_eq, nI_1]
    refine hrec _ ⟨fun j hj => ?_, fun k s j hk => by rw [wa_g, if_neg (by omega)]; exact a2 k s j hk⟩
    rw [wa_g, nI_clamp (by omega), show 0 % cnt 60 = 0 from rfl]
    by_cases q : j = i
    · rw [if_pos ⟨rfl, rfl, q⟩]
    · rw [if_neg (by omega)]; exact a1 j (by omega)
  · rintro h2 rec ⟨a1, a2⟩
    unfold fX12_isForever_l15
    rw [r46 h2 (lo.k60 a2), if_pos (nI_le (Nat.le_refl _) (by omega))]
    have kf2 : KF h h2 := fun k s i u1 u2 u3 u4 u5 => (a2 k s i u3).trans (kf1 k s i u1 u2 u3 u4 u5)
    refine wp_itr1 (fun mm x h' => ∃ T, LO h' G f s ∧ MG h' G v ∧ KF h h' ∧ TB h' G f s T ∧ ((x = 1 ∧ mm = f - csN T f + 1) ∨ (x = 0 ∧ mm = 0 ∧ ∀ j, j < f → T j = none → ∃ p q, p < 5 ∧ kpN G (s j) p = true ∧ q < f ∧ s q = nxN G (s j) p ∧ T q = none))) ?_ FU (f + 1) _ _ (FUb (by omega)) ⟨fun _ => none, lo.k60 a2, m1.k60 a2, kf2, ⟨fun j hj => a1 j hj, fun j w _ e => by cases e⟩, Or.inl ⟨rfl, ?_⟩⟩
    · rintro mm x h3 rec3 ⟨T, lo3, m3, kf3, tb3, hx⟩ hrec3
      unfold fX12_isForever_l38
      rcases hx with ⟨rfl, rfl⟩ | ⟨rfl, rfl, hall⟩
      · rw [if_neg ne10, r46 h3 lo3, lt_eq]
        have hcsT := csN_le T f
        refine wp_itr2 (fun mm x y h' => ∃ k T', k ≤ f ∧ k = mm ∧ y = nI k - 1 ∧ LO h' G f s ∧ MG h' G v ∧ KF h h' ∧ TB h' G f s T' ∧ ((x = 0 ∧ T' = T ∧ ∀ j, k ≤ j → j < f → T j = none → ∃ p q, p < 5 ∧ kpN G (s j) p = true ∧ q < f ∧ s q = nxN G (s j) p ∧ T q = none) ∨ (x = 1 ∧ csN T f + 1 ≤ csN T' f))) ?_ FU f _ _ _ (FUb (by omega)) ⟨f, T, Nat.le_refl _, rfl, rfl, lo3, m3, kf3, tb3, Or.inl ⟨rfl, rfl, fun j h1 h2 => absurd h2 (by omega)⟩⟩
        rintro mm x y h4 rec4 ⟨k, T', hk, rfl, rfl, lo4, m4, kf4, tb4, hx4⟩ hrec4
        unfold fX12_isForever_l51
        have hcs' := csN_le T' f
        by_cases hk0 : k = 0
        · subst hk0
          rw [if_pos (show nI 0 - (1 : Int32) < 0 by decide)]
          rcases hx4 with ⟨rfl, rfl, hall⟩ | ⟨rfl, hcs⟩
          · exact hrec3 0 _ _ (by omega) ⟨T', lo4, m4, kf4, tb4, Or.inr ⟨rfl, rfl, fun j hj hT => hall j (by omega) hj hT⟩⟩
          · exact hrec3 (f - csN T' f + 1) _ _ (by omega) ⟨T', lo4, m4, kf4, tb4, Or.inl ⟨rfl, rfl⟩⟩
        · have ek : nI k - (1 : Int32) = nI (k - 1) := nI_sub (b := 1) (by omega)
          have ek2 : nI (k - 1) + (-1 : Int32) = nI (k - 1) - 1 := (Int32.sub_eq_add_neg _ _).symm
          have hib : ib (nI (k - 1)) 46656 = true := ib_nI (by omega) (by decide)
          have hTb : ∀ j w, j < f → T' j = some w → w < 2 ^ 31 := fun j w hj e => by have := (tb4.2 j w hj e).2; omega
          have r60 : ra h4 60 0 (nI (k - 1)) = tI (T' (k - 1)) := by rw [ra_n (by omega)]; exact tb4.1 _ (by omega)
          rw [ek, if_neg (fun q => in_no (show k - 1 < 46656 by omega) (by decide) (Or.inl q)), ck_p hib, jn_eq, r60]
          have nextI : ∀ (x' : Int32) (h5 : Hp) (T5 : Nat → Option Nat), LO h5 G f s → MG h5 G v → KF h h5 → TB h5 G f s T5 → ((x' = 0 ∧ T5 = T ∧ ∀ j, k - 1 ≤ j → j < f → T j = none → ∃ p q, p < 5 ∧ kpN G (s j) p = true ∧ q < f ∧ s q = nxN G (s j) p ∧ T q = none) ∨ (x' = 1 ∧ csN T f + 1 ≤ csN T5 f)) → WP (lt (nI (k - 1) + (-1)) fun x8 => rec4 x' x8 h5) (fun r h' => MG h' G v ∧ KF h h' ∧ ∃ T, TF h' G f s T ∧ ((T 0 = none ∧ r = 1) ∨ (T 0 ≠ none ∧ r = 0))) := by
            intro x' h5 T5 b1 b2 b3 b4 b5
            rw [lt_eq, ek2]
            exact hrec4 (k - 1) _ _ _ (by omega) ⟨k - 1, T5, by omega, rfl, rfl, b1, b2, b3, b4, b5⟩
          by_cases hT : T' (k - 1) = none
          · obtain ⟨h5, xx, e5, ks5, hcase⟩ := lastsOf_wp hG hne m4 lo4 tb4 (show k - 1 < f by omega)
            rw [if_pos ((tI_m1 (hTb _ · (by omega))).mpr hT), e5, bnd_eq, ck_p hib, lt_eq, jn_eq, jn_eq]
            have w60 : ∀ y, K60 h5 (wa h5 60 0 (nI (k - 1)) y) := fun y k' s' i' hk' => by rw [wa_g, if_neg (by omega)]
            have lo5 := lo4.ks ks5
            have m5 := m4.ks ks5
            have kf5 : ∀ y, KF h (wa h5 60 0 (nI (k - 1)) y) := fun y k' s' i' u1 u2 u3 u4 u5 => (w60 y k' s' i' u3).trans ((ks5 k' s' i' u4 (by omega)).trans (kf4 k' s' i' u1 u2 u3 u4 u5))
            have r60' : ra (wa h5 60 0 (nI (k - 1)) (tI xx)) 60 0 (nI (k - 1)) = tI xx := ra_wa
            have rows : ∀ y j, j < f → (wa h5 60 0 (nI (k - 1)) (tI y)).1 60 0 j = tI (updO T' (k - 1) y j) := fun y j hj => by
              rw [wa_g, nI_clamp (by omega), show 0 % cnt 60 = 0 from rfl]
              unfold updO
              by_cases q : j = k - 1
              · rw [if_pos ⟨rfl, rfl, q⟩, if_pos q]
              · rw [if_neg (by omega), if_neg q]; exact (ks5 60 0 j (by decide) (by omega)).trans (tb4.1 j hj)
            rcases hcase with ⟨rfl, p, j, hp, hkp, hj, ej, hTj⟩ | ⟨w, rfl, hL, hwb⟩
            · have hsame : updO T' (k - 1) none = T' := by
                funext j
                unfold updO
                by_cases q : j = k - 1
                · rw [if_pos q, q, hT]
                · rw [if_neg q]
              have tb5 : TB (wa h5 60 0 (nI (k - 1)) (tI none)) G f s T' := ⟨fun j hj => by rw [rows none j hj, hsame], tb4.2⟩
              rcases hx4 with ⟨rfl, rfl, hall⟩ | ⟨rfl, hcs⟩
              · rw [if_pos rfl, ck_p hib, r60', if_pos (show tI none = -1 from rfl)]
                dsimp only
                refine nextI 0 _ T' (lo5.k60 (w60 _)) (m5.k60 (w60 _)) (kf5 _) tb5 (Or.inl ⟨rfl, rfl, fun j' h1' h2' hT' => ?_⟩)
                by_cases q : j' = k - 1
                · rw [q]; exact ⟨p, j, hp, hkp, hj, ej, hTj⟩
                · exact hall j' (by omega) h2' hT'
              · rw [if_neg ne10]
                dsimp only
                exact nextI 1 _ T' (lo5.k60 (w60 _)) (m5.k60 (w60 _)) (kf5 _) tb5 (Or.inr ⟨rfl, hcs⟩)
            · have hcu := csN_up (T := T') (i := k - 1) (w := w) hT f
              rw [if_pos (show k - 1 < f by omega)] at hcu
              have tb5 : TB (wa h5 60 0 (nI (k - 1)) (tI (some w))) G f s (updO T' (k - 1) (some w)) := by
                refine ⟨fun j hj => rows (some w) j hj, fun j w' hj e => ?_⟩
                rw [hcu]
                unfold updO at e
                by_cases q : j = k - 1
                · rw [if_pos q] at e
                  cases e
                  rw [q]; exact ⟨hL, hwb⟩
                · rw [if_neg q] at e
                  have := tb4.2 j w' hj e
                  exact ⟨this.1, by omega⟩
              have hcs5 : csN T f + 1 ≤ csN (updO T' (k - 1) (some w)) f := by
                rcases hx4 with ⟨-, rfl, -⟩ | ⟨-, hcs⟩
                · omega
                · omega
              have nm1 : ¬ tI (some w) = -1 := fun q => neg_ne (show w < 2 ^ 31 by omega) q.symm
              have fin := nextI 1 _ _ (lo5.k60 (w60 _)) (m5.k60 (w60 _)) (kf5 _) tb5 (Or.inr ⟨rfl, hcs5⟩)
              rcases hx4 with ⟨rfl, -, -⟩ | ⟨rfl, -⟩
              · rw [if_pos rfl, ck_p hib, r60', if_neg nm1]
                exact fin
              · rw [if_neg ne10]
                exact fin
          · rw [if_neg (fun q => hT ((tI_m1 (hTb _ · (by omega))).mp q))]
            dsimp only
            refine nextI x h4 T' lo4 m4 kf4 tb4 ?_
            rcases hx4 with ⟨rfl, rfl, hall⟩ | ⟨rfl, hcs⟩
            · refine Or.inl ⟨rfl, rfl, fun j' h1' h2' hT' => ?_⟩
              by_cases q : j' = k - 1
              · rw [q] at hT'; exact absurd hT' hT
              · exact hall j' (by omega) h2' hT'
            · exact Or.inr ⟨rfl, hcs⟩
      · rw [if_pos rfl]
        dsimp only
        have hcsT := csN_le T f
        have tf : TF h3 G f s T := by
          refine ⟨lo3, tb3.1, fun j hj => ⟨fun hT => ?_, fun w hw => ⟨(tb3.2 j w hj hw).1, by have := (tb3.2 j w hj hw).2; omega⟩⟩⟩
          refine ev_of (fun c => ∃ j, j < f ∧ s j = c ∧ T j = none) ?_ (s j) ⟨j, hj, rfl, hT⟩
          rintro c ⟨j', hj', rfl, hT'⟩
          obtain ⟨p, q, hp, hkp, hq, eq, hTq⟩ := hall j' hj' hT'
          exact ⟨p, hp, hkp, q, hq, eq, hTq⟩
        have r60 : ra h3 60 0 0 = tI (T 0) := tb3.1 0 hf0
        have hTb : ∀ w, T 0 = some w → w < 2 ^ 31 := fun w e => by have := (tb3.2 0 w hf0 e).2; omega
        rw [ck_p (show ib 0 46656 = true from rfl), r60]
        by_cases hT : T 0 = none
        · rw [if_pos ((tI_m1 hTb).mpr hT), ck_p zk_1]
          exact wp_some ⟨m3, kf3, T, tf, Or.inl ⟨hT, rfl⟩⟩
        · rw [if_neg (fun q => hT ((tI_m1 hTb).mp q)), ck_p zk_0]
          exact wp_some ⟨m3, kf3, T, tf, Or.inr ⟨hT, rfl⟩⟩
    · have : csN (fun _ => none) f = 0 := by
        have key : ∀ k, csN (fun _ => none) k = 0 := by
          intro k
          induction k with
          | zero => rfl
          | succ k ih => show csN (fun _ => none) k + 0 = 0; omega
        exact key f
      omega
