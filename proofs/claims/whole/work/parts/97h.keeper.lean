/-! how many runs the row has -/
def RLn (G : KG) : Nat → Nat → Prop
  | 0, c => NR G c (-1)
  | m + 1, c => ∃ p, p < 5 ∧ NR G c (nI p) ∧ RLn G m (nxN G c p)
theorem RLn.uniq {G : KG} : ∀ m m' c, RLn G m c → RLn G m' c → m = m' := by
  intro m
  induction m with
  | zero =>
    intro m' c a b
    cases m' with
    | zero => rfl
    | succ m' =>
      obtain ⟨p, hp, b1, -⟩ := b
      exact absurd (NR.uniq b1 a) (nI_nm1 (by omega))
  | succ m ih =>
    intro m' c a b
    obtain ⟨p, hp, a1, a2⟩ := a
    cases m' with
    | zero => exact absurd (NR.uniq a1 b) (nI_nm1 (by omega))
    | succ m' =>
      obtain ⟨q, hq, b1, b2⟩ := b
      have := (eq_n (by omega) (by omega)).mp (a1.uniq b1)
      rw [← this] at b2
      rw [ih m' _ a2 b2]
theorem NR.less {G : KG} {c p w : Nat} (hp : p < 5) (h : NR G c (nI p)) (hL : Lst G c w) : ∃ v, Lst G (nxN G c p) v ∧ v < w := by
  rcases h with ⟨e, -⟩ | ⟨q, hq, e, ok, -⟩
  · exact absurd e (nI_nm1 (by omega))
  · rw [← (eq_n (by omega) (by omega)).mp e] at ok
    rcases ok.2 with ⟨a, -⟩ | ⟨w', v, a1, a2, a3, a4⟩
    · exact absurd a hL.not_ev
    · rw [a1.uniq hL] at a4
      refine ⟨v, a2, ?_⟩
      unfold tmN at a4
      omega
theorem manyRunsM_wp {h : Hp} {G : KG} {v f w : Nat} {s : Nat → Nat} {T : Nat → Option Nat} (hG : VG G) (m : MG h G v) (tf : TF h G f s T) (h0 : T 0 = some w) : ∃ r h', fX12_manyRuns h = some (nI r, h') ∧ K9 h h' ∧ RLn G r (c0N G) ∧ r ≤ 500000 := by
  suffices hw : WP (fX12_manyRuns h) (fun x h' => K9 h h' ∧ ∃ r, x = nI r ∧ RLn G r (c0N G) ∧ r ≤ 500000) by
    obtain ⟨x, h', e, q, r, rfl, q2⟩ := hw
    exact ⟨r, h', e, q, q2⟩
  have hf0 := tf.1.2.2.1
  have hs0 := tf.1.2.2.2.1
  obtain ⟨hL, hwb⟩ := (tf.2.2 0 hf0).2 w h0
  unfold fX12_manyRuns
  obtain ⟨r, h1, er, k1, hr⟩ := nextRunM_wp hG m tf hf0
  rw [show (0 : Int32) = nI 0 from rfl, er, bnd_eq]
  refine wp_itr3 (fun u x0 x1 x2 h' => K9 h h' ∧ ∃ q i, i < f ∧ x0 = nI q ∧ x1 = nI i ∧ NR G (s i) x2 ∧ Lst G (s i) u ∧ q + u ≤ 500000 ∧ ∀ m, RLn G m (s i) → RLn G (q + m) (c0N G)) ?_ FU w (nI 0) (nI 0) r h1 (FUb (by omega)) ⟨k1.k9, 0, 0, hf0, rfl, rfl, hr, hL, by omega, fun m hm => by rw [hs0] at hm; rw [Nat.zero_add]; exact hm⟩
  rintro u x0 x1 x2 h2 rec ⟨k2, q, i, hi, rfl, rfl, hr2, hL2, hb, hrl⟩ hrec
  unfold fX12_manyRuns_l10
  rcases id hr2 with ⟨rfl, -⟩ | ⟨p, hp, rfl, ok, -⟩
  · rw [if_pos rfl]
    dsimp only
    exact wp_some ⟨k2, q, rfl, hrl 0 hr2, by omega⟩
  · obtain ⟨j, h3, e3, k3, hj, ej, -⟩ := standBehind_wp hG (m.k9 k2) (tf.k9 k2) hi hp ok.1
    have k3' := k2.trans k3
    obtain ⟨r4, h4, e4, k4, hr4⟩ := nextRunM_wp hG (m.k9 k3') (tf.k9 k3') hj
    obtain ⟨u', hu1, hu2⟩ := hr2.less hp hL2
    rw [if_neg (nI_nm1 (show p < 2 ^ 31 by omega)), e3, bnd_eq, lt_eq, nI_1, e4, bnd_eq]
    refine hrec u' _ _ _ _ hu2 ⟨k3'.trans k4.k9, q + 1, j, hj, rfl, rfl, hr4, by rw [ej]; exact hu1, by omega, fun m' hm => ?_⟩
    rw [show q + 1 + m' = q + (m' + 1) by omega]
    rw [ej] at hm
    exact hrl _ ⟨p, hp, hr2, hm⟩
theorem rowLengthC_eq {h : Hp} {n sp st f : Nat} {pl li le s o mk us : Nat → Nat} {T : Nat → Option Nat} (hv : SV sp st n pl li le) (h1n : 1 ≤ n) (hc : CSt h 10 sp st n pl li le) (d : DI h n (GC n sp st pl li le) f s 0 o mk us T) (h2 : mk 0 = 2) : ∃ r, fX2_rowLength h = some (nI r, h) ∧ RLn (GC n sp st pl li le) r (c0N (GC n sp st pl li le)) := by
  have hn := hv.2.2.2.1
  have hall := (d.all hv).2
  obtain ⟨t, hf, h0, hs0, dk, ⟨m1, m0, m2, m3, m4, m5⟩, ⟨t1, t2, t3, t4⟩⟩ := id d
  obtain ⟨w0, hw0⟩ := t2 0 h0 h2
  obtain ⟨-, -, hL0, -⟩ := t3 0 w0 h0 hw0
  suffices hw : WP (fX2_rowLength h) (fun x h' => h' = h ∧ ∃ r, x = nI r ∧ RLn (GC n sp st pl li le) r (c0N (GC n sp st pl li le))) by
    obtain ⟨x, h', e, rfl, r, rfl, q⟩ := hw
    exact ⟨r, e, q⟩
  unfold fX2_rowLength
  have pg : ∀ (q i w : Nat) (vis : Nat → Nat), i < f → Lst (GC n sp st pl li le) (s i) w → (∀ x, x < q → vis x < f ∧ ∃ u, Lst (GC n sp st pl li le) (s (vis x)) u ∧ w < u) → (∀ x y, x < q → y < q → vis x = vis y → x = y) → q + 1 ≤ f ∧ ∀ x y, x < q + 1 → y < q + 1 → exU vis q i x = exU vis q i y → x = y := fun q i w vis hi hL hvis hinj => by
    have hne : ∀ x, x < q → vis x ≠ i := fun x hx e => by
      obtain ⟨-, u, hu, hlt⟩ := hvis x hx
      rw [e] at hu
      have := hu.uniq hL
      omega
    have hin : ∀ x y, x < q + 1 → y < q + 1 → exU vis q i x = exU vis q i y → x = y := fun x y hx hy e => by
      by_cases g : x = q
      · by_cases g' : y = q
        · omega
        · rw [exU_p g, exU_n g'] at e
          exact absurd e.symm (hne y (by omega))
      · by_cases g' : y = q
        · rw [exU_n g, exU_p g'] at e
          exact absurd e (hne x (by omega))
        · rw [exU_n g, exU_n g'] at e
          exact hinj x y (by omega) (by omega) e
    refine ⟨pig f (q + 1) (exU vis q i) (fun x hx => ?_) hin, hin⟩
    by_cases g : x = q
    · rw [exU_p g]; exact hi
    · rw [exU_n g]; exact (hvis x (by omega)).1
  refine wp_for2 f (fun q a h' => h' = h ∧ ∃ (i w : Nat) (vis : Nat → Nat), i < f ∧ a = nI i ∧ Lst (GC n sp st pl li le) (s i) w ∧ (∀ m, RLn (GC n sp st pl li le) m (s i) → RLn (GC n sp st pl li le) (q + m) (c0N (GC n sp st pl li le))) ∧ (∀ x, x < q → vis x < f ∧ ∃ u, Lst (GC n sp st pl li le) (s (vis x)) u ∧ w < u) ∧ ∀ x y, x < q → y < q → vis x = vis y → x = y) ?_ ?_ FU 0 h (i0 := 0) (by omega) (FUb (by omega)) ⟨rfl, 0, w0, fun _ => 0, h0, rfl, hL0, fun m hm => by rw [hs0] at hm; rw [Nat.zero_add]; exact hm, fun x hx => absurd hx (Nat.not_lt_zero _), fun x y hx => absurd hx (Nat.not_lt_zero _)⟩
  · rintro q a h1 rec hq ⟨rfl, i, w, vis, hi, rfl, hL, hrl, hvis, hinj⟩ hrec
    unfold fX2_rowLength_l4
    obtain ⟨r, er, hr⟩ := nextRunC_eq hv h1n hc d hi
    rw [if_neg (show ¬ (2200 : Int32) ≤ nI q from fun z => nI_ge (show q < 2200 by omega) (by decide) z), er, bnd_eq]
    rcases id hr with ⟨rfl, -⟩ | ⟨p, hp, rfl, ok, -⟩
    · rw [if_pos rfl]
      exact wp_some ⟨rfl, q, rfl, hrl 0 hr⟩
    · have hpn : p < n := by
        have w : decide (p < n) = true := (kp_le ok.1).1
        exact of_decide_eq_true w
      obtain ⟨fw, -⟩ := m5 i hi (by have := hall i hi; omega)
      obtain ⟨j, hj, ej, e18⟩ := (fw p hpn).1 ok.1
      obtain ⟨u', hu1, hu2⟩ := hr.less hp hL
      rw [if_neg (nI_nm1 (show p < 2 ^ 31 by omega)), followerOf_eq hn hc.2.2.1 (by omega) hpn, bnd_eq, e18, lt_eq, nI_1]
      refine hrec _ _ ⟨rfl, j, u', exU vis q i, hj, rfl, by rw [ej]; exact hu1, fun m' hm => ?_, fun x hx => ?_, (pg q i w vis hi hL hvis hinj).2⟩
      · rw [show q + 1 + m' = q + (m' + 1) by omega]
        rw [ej] at hm
        exact hrl _ ⟨p, hp, hr, hm⟩
      · by_cases g : x = q
        · rw [exU_p g]; exact ⟨hi, w, hL, hu2⟩
        · rw [exU_n g]
          obtain ⟨a1, u, a2, a3⟩ := hvis x (by omega)
          exact ⟨a1, u, a2, by omega⟩
  · rintro a h1 rec ⟨rfl, i, w, vis, hi, rfl, hL, hrl, hvis, hinj⟩
    have := (pg f i w vis hi hL hvis hinj).1
    omega
