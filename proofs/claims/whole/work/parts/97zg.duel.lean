/-! duel: the reference -/
def ndO (n sp : Nat) (pl li : Nat → Nat) (s0 : DTs) : Nat → Nat → Option DTs
  | 0, _ => some s0
  | t + 1, k => (ndO n sp pl li s0 t (k / 6)).bind (stD n sp pl li t (k % 6))
theorem div6 {k m t : Nat} (h : t < m) : k / 6 ^ (m - (t + 1)) / 6 = k / 6 ^ (m - t) := by
  rw [Nat.div_div_eq_div_mul, ← Nat.pow_succ, show (m - (t + 1)).succ = m - t by omega]
theorem nd_no {n sp : Nat} {pl li : Nat → Nat} {s0 : DTs} {m k : Nat} : ∀ q t, m = t + q → ndO n sp pl li s0 t (k / 6 ^ (m - t)) = none → ndO n sp pl li s0 m k = none := by
  intro q
  induction q with
  | zero =>
    intro t ht h
    rw [show t = m by omega, Nat.sub_self, Nat.pow_zero, Nat.div_one] at h
    exact h
  | succ q ih =>
    intro t ht h
    refine ih (t + 1) (by omega) ?_
    show (ndO n sp pl li s0 t (k / 6 ^ (m - (t + 1)) / 6)).bind _ = none
    rw [div6 (by omega), h]; rfl
theorem gst_PX {n p a : Nat} {li L : Nat → Nat} {x : PW} (hp : p < n) (h : PX n li x a L) : PX n li (gstP p x) a (updN L p (L p - 1)) := by
  refine ⟨fun q hq => ⟨?_, (h.1 q hq).2⟩, h.2⟩
  show updN x.1 p (x.1 p - 1) q = updN L p (L p - 1) q
  unfold updN
  by_cases g : q = p
  · rw [if_pos g, if_pos g, (h.1 p hp).1]
  · rw [if_neg g, if_neg g, (h.1 q hq).1]
theorem endOf_wp {h : Hp} {j sp st n m k : Nat} {pl li le : Nat → Nat} (e21 : h.1 10 0 21 = nI j) (hj : j < 8) (hs : SV sp st n pl li le) (ms0 : MSt h j sp st n pl li le) (hm : m ≤ 3) (hk : k < 46656) : WP (fX12_endOf (nI m) (nI k) h) (fun r h' => r = tI ((ndO n sp pl li (st, peN n le) m k).map (fun s => upN s.2 n)) ∧ Fr wX12_endOf h h') := by
  have hn := hs.2.2.2.1
  refine wp_fr ?_ (frX12_endOf _ _ h)
  unfold fX12_endOf
  obtain ⟨u1, h1, eb, ms1, -⟩ := beginShow_wp e21 hj hs ms0
  rw [eb, bnd_eq]
  have vp := hs.vp
  refine wp_for1 m (fun t h' => ∃ x a L, MS h' n sp pl x ∧ VX n x ∧ x.2.2.2 1 ≤ 10 * t ∧ x.2.2.2 9 ≤ t ∧ PX n li x a L ∧ ndO n sp pl li (st, peN n le) t (k / 6 ^ (m - t)) = some (a, L)) ?_ ?_ FU h1 (i0 := 0) (by omega) (FUb (by omega)) ⟨iniP n st li le, st, peN n le, ms1, iniP_VX hs, Nat.le_refl _, Nat.le_refl _, ini_PX, rfl⟩
  · rintro t h2 rec ht ⟨x, a, L, ms, hx, hb, h9, px, hnd⟩ hrec
    unfold fX12_endOf_l6
    have hd5 := dg_lt m k t
    have nds : ndO n sp pl li (st, peN n le) (t + 1) (k / 6 ^ (m - (t + 1))) = stD n sp pl li t (dgS m k t) (a, L) := by
      show (ndO n sp pl li (st, peN n le) t (k / 6 ^ (m - (t + 1)) / 6)).bind (stD n sp pl li t (k / 6 ^ (m - (t + 1)) % 6)) = _
      rw [div6 ht, hnd]
      unfold dgS
      rw [show m - 1 - t = m - (t + 1) by omega]; rfl
    have next : ∀ (h' : Hp) (x' : PW) (a' : Nat) (L' : Nat → Nat), MS h' n sp pl x' → VX n x' → x'.2.2.2 1 ≤ 10 * (t + 1) → x'.2.2.2 9 ≤ t + 1 → PX n li x' a' L' → stD n sp pl li t (dgS m k t) (a, L) = some (a', L') → WP (lt (nI t + 1) fun x8 => rec x8 h') (fun r h' => r = tI ((ndO n sp pl li (st, peN n le) m k).map (fun s => upN s.2 n))) := by
      intro h' x' a' L' q1 q2 q3 q4 q5 q6
      rw [lt_eq, nI_1]
      exact hrec _ ⟨x', a', L', q1, q2, q3, q4, q5, nds.trans q6⟩
    have fail : ∀ h' : Hp, stD n sp pl li t (dgS m k t) (a, L) = none → WP (some ((-1 : Int32), h')) (fun r h' => r = tI ((ndO n sp pl li (st, peN n le) m k).map (fun s => upN s.2 n))) := by
      intro h' q
      refine wp_some ?_
      rw [nd_no (m - (t + 1)) (t + 1) (by omega) (nds.trans q)]; rfl
    have em : irm (nI t) (2 : Int32) = nI (t % 2) := nI_rem (b := 2) (by omega) (by decide)
    rw [if_neg (fun q => nI_ge ht (by omega) q), digit_eq (by omega) ht hk, bnd_eq, jn_eq, em]
    by_cases godd : t % 2 = 1
    · rw [if_pos (show nI (t % 2) = 1 by rw [godd]; rfl)]
      dsimp only
      rw [jn_eq]
      by_cases g5 : dgS m k t = 5
      · rw [if_pos (show nI (dgS m k t) = 5 by rw [g5]; rfl), jn_eq, if_neg ne10]
        dsimp only
        rw [if_neg ne10]
        refine next h2 x a L ms hx (by omega) (by omega) px ?_
        unfold stD
        rw [if_neg (by omega), if_pos g5]
      · rw [if_neg (show ¬ nI (dgS m k t) = 5 from fun q => g5 ((eq_n (b := 5) (by omega) (by decide)).mp q)), jn_eq, if_neg ne10]
        dsimp only
        obtain ⟨r, h3, e3, h3c⟩ := does_wp (p := dgS m k t) (kd := 3) (P := nI (dgS m k t)) vp hx ms (by omega) (Or.inr ⟨rfl, by omega⟩)
        have e3' : fX12_does 3 (nI (dgS m k t)) h2 = some (r, h3) := e3
        have hmay : mayB n sp pl x 3 (dgS m k t) = true ↔ dgS m k t < n ∧ 0 < L (dgS m k t) := by
          unfold mayB
          rw [if_neg (by decide), if_neg (by decide), if_neg (by decide), if_pos rfl, Bool.and_eq_true, decide_eq_true_eq, decide_eq_true_eq]
          constructor
          · rintro ⟨w1, w2⟩
            exact ⟨w1, by rw [← (px.1 _ w1).1]; exact w2⟩
          · rintro ⟨w1, w2⟩
            exact ⟨w1, by rw [(px.1 _ w1).1]; exact w2⟩
        rw [e3', bnd_eq]
        rcases h3c with ⟨hm1, rfl, ms3⟩ | ⟨hm0, rfl, -⟩
        · obtain ⟨hdn, h0⟩ := hmay.mp hm1
          have hx3 := doN_VX vp hx (by omega) hm1
          have ed : doN n sp pl x 3 (dgS m k t) = gstP (dgS m k t) x := rfl
          rw [ed] at ms3 hx3
          rw [if_neg ne10]
          refine next h3 _ a _ ms3 hx3 (by show x.2.2.2 1 ≤ _; omega) (by show x.2.2.2 9 + 1 ≤ _; omega) (gst_PX hdn px) ?_
          unfold stD
          rw [if_neg (by omega), if_neg g5, if_pos ⟨hdn, h0⟩]
        · rw [if_pos rfl]
          refine fail h3 ?_
          unfold stD
          rw [if_neg (by omega), if_neg g5, if_neg]
          intro q
          rw [hmay.mpr q] at hm0; cases hm0
    · rw [if_neg (show ¬ nI (t % 2) = 1 from fun q => godd ((eq_n (b := 1) (by omega) (by decide)).mp q))]
      dsimp only
      rw [jn_eq]
      have hev : t % 2 = 0 := by omega
      by_cases g5 : dgS m k t = 5
      · rw [if_pos (show nI (dgS m k t) = 5 by rw [g5]; rfl), jn_eq, if_pos rfl]
        have hm0 : mayB n sp pl x 0 0 = true := by
          unfold mayB
          rw [if_pos rfl]
          exact decide_eq_true (by omega)
        obtain ⟨r, h3, e3, h3c⟩ := does_wp (p := 0) (kd := 0) (P := -1) vp hx ms (by omega) (Or.inl rfl)
        have e3' : fX12_does 0 (-1) h2 = some (r, h3) := e3
        rw [e3', bnd_eq]
        rcases h3c with ⟨-, rfl, ms3⟩ | ⟨w, -⟩
        · rw [if_neg ne10]
          dsimp only
          rw [if_neg ne10]
          have ed : doN n sp pl x 0 0 = bt1 n 9 x := rfl
          rw [ed] at ms3
          refine next h3 _ a _ ms3 (bt1_VX hn hx (by omega)) (by show x.2.2.2 1 + 1 ≤ _; omega) (by show x.2.2.2 9 ≤ _; omega) (bt1_PX hn px) ?_
          unfold stD
          rw [if_pos hev, if_pos g5]
        · rw [hm0] at w; cases w
      · rw [if_neg (show ¬ nI (dgS m k t) = 5 from fun q => g5 ((eq_n (b := 5) (by omega) (by decide)).mp q)), jn_eq, if_pos rfl]
        dsimp only
        obtain ⟨r, h3, e3, h3c⟩ := does_wp (p := dgS m k t) (kd := 1) (P := nI (dgS m k t)) vp hx ms (by omega) (Or.inr ⟨rfl, by omega⟩)
        have e3' : fX12_does 1 (nI (dgS m k t)) h2 = some (r, h3) := e3
        have hmay : mayB n sp pl x 1 (dgS m k t) = true ↔ dgS m k t < n ∧ 0 < L (dgS m k t) := by
          unfold mayB
          rw [if_neg (by decide), if_pos rfl, Bool.and_eq_true, Bool.and_eq_true, decide_eq_true_eq, decide_eq_true_eq, decide_eq_true_eq]
          constructor
          · rintro ⟨w1, w2, -⟩
            exact ⟨w1, by rw [← (px.1 _ w1).1]; exact w2⟩
          · rintro ⟨w1, w2⟩
            have := wayN_le vp.2.1 hx.2.1 (vp.2.2.2 _ w1)
            exact ⟨w1, by rw [(px.1 _ w1).1]; exact w2, by omega⟩
        rw [e3', bnd_eq]
        rcases h3c with ⟨hm1, rfl, ms3⟩ | ⟨hm0, rfl, -⟩
        · obtain ⟨hdn, h0⟩ := hmay.mp hm1
          have hw := wayN_le vp.2.1 hx.2.1 (vp.2.2.2 _ hdn)
          rw [px.2] at hw
          have hx3 := doN_VX vp hx (by omega) hm1
          have hc9 := doN_c9 n sp pl x 1 (dgS m k t)
          have ed : doN n sp pl x 1 (dgS m k t) = runP n sp pl (dgS m k t) x := rfl
          rw [ed] at ms3 hx3 hc9
          obtain ⟨px3, hb3⟩ := run_PX (sp := sp) (pl := pl) hn hdn px
          rw [if_neg ne10]
          refine next h3 _ _ _ ms3 hx3 (by omega) (by omega) px3 ?_
          unfold stD
          rw [if_pos hev, if_neg g5, if_pos ⟨hdn, h0⟩]
        · rw [if_pos rfl]
          refine fail h3 ?_
          unfold stD
          rw [if_pos hev, if_neg g5, if_neg]
          intro q
          rw [hmay.mpr q] at hm0; cases hm0
  · rintro h2 rec ⟨x, a, L, ms, hx, hb, h9, px, hnd⟩
    unfold fX12_endOf_l6
    rw [Nat.sub_self, Nat.pow_zero, Nat.div_one] at hnd
    rw [if_pos (nI_le (Nat.le_refl _) (by omega))]
    dsimp only
    rw [onesNow hn hx ms px, hnd]
    exact wp_some rfl
theorem fold_wp {h : Hp} {b : Nat} {mo : Int32} {f : Nat → Option Nat} (hmo : mo = 0 ∨ mo = 1) (hb : b + 6 ≤ 216) (hf : ∀ d, d < 6 → h.1 64 0 (b + d) = tI (f d)) (h5 : ∀ d u, d < 6 → f d = some u → u ≤ 5) : WP (fX12_fold (nI b) mo h) (fun r h' => r = tI ((fdO (decide (mo = 1)) f 6).map Prod.fst) ∧ h'.1 10 0 51 = tI ((fdO (decide (mo = 1)) f 6).map Prod.snd) ∧ ∀ k s i, ¬ (k = 10 ∧ i = 51) → h'.1 k s i = h.1 k s i) := by
  unfold fX12_fold
  rw [lt_eq]
  refine wp_for2 6 (fun d a h' => a = tI ((fdO (decide (mo = 1)) f d).map Prod.fst) ∧ h'.1 10 0 51 = tI ((fdO (decide (mo = 1)) f d).map Prod.snd) ∧ ∀ k s i, ¬ (k = 10 ∧ i = 51) → h'.1 k s i = h.1 k s i) ?_ ?_ FU _ _ (i0 := 0) (by omega) (FUb (by decide)) ⟨rfl, rfl, fun k s i u => by rw [wr_g, if_neg (by omega)]⟩
  · rintro d a h1 rec hd ⟨rfl, e51, ho⟩ hrec
    unfold fX12_fold_l10
    have r64 : ra h1 64 0 (nI (b + d)) = tI (f d) := by rw [ra_n (by omega)]; exact (ho 64 0 _ (by omega)).trans (hf d hd)
    rw [if_neg (show ¬ (6 : Int32) ≤ nI d from fun q => nI_ge hd (by decide) q), nI_add, ck_p (ib_nI (by omega) (by decide)), r64, lt_eq, jn_eq]
    have es : fdO (decide (mo = 1)) f (d + 1) = fdS (decide (mo = 1)) d (fdO (decide (mo = 1)) f d) (f d) := rfl
    cases hx : f d with
    | none =>
      rw [hx] at es
      have es' : fdO (decide (mo = 1)) f (d + 1) = fdO (decide (mo = 1)) f d := es
      rw [if_pos (show tI none = (-1 : Int32) from rfl)]
      dsimp only
      rw [lt_eq, nI_1]
      exact hrec _ _ ⟨by rw [es'], by rw [es']; exact e51, ho⟩
    | some v =>
      have hv5 := h5 d v hd hx
      rw [hx] at es
      rw [if_neg (show ¬ tI (some v) = (-1 : Int32) from nI_nm1 (show v < 2 ^ 31 by omega)), jn_eq]
      have keep : fdO (decide (mo = 1)) f (d + 1) = fdO (decide (mo = 1)) f d → WP (lt (nI d + 1) fun x5 => rec (tI ((fdO (decide (mo = 1)) f d).map Prod.fst)) x5 h1) (fun r h' => r = tI ((fdO (decide (mo = 1)) f 6).map Prod.fst) ∧ h'.1 10 0 51 = tI ((fdO (decide (mo = 1)) f 6).map Prod.snd) ∧ ∀ k s i, ¬ (k = 10 ∧ i = 51) → h'.1 k s i = h.1 k s i) := fun e => by
        rw [lt_eq, nI_1]
        exact hrec _ _ ⟨by rw [e], by rw [e]; exact e51, ho⟩
      have take : fdO (decide (mo = 1)) f (d + 1) = some (v, d) → WP (lt (wr h1 10 0 51 (nI d)) fun h8 => lt (nI d + 1) fun x5 => rec (tI (some v)) x5 h8) (fun r h' => r = tI ((fdO (decide (mo = 1)) f 6).map Prod.fst) ∧ h'.1 10 0 51 = tI ((fdO (decide (mo = 1)) f 6).map Prod.snd) ∧ ∀ k s i, ¬ (k = 10 ∧ i = 51) → h'.1 k s i = h.1 k s i) := fun e => by
        rw [lt_eq, lt_eq, nI_1]
        refine hrec _ _ ⟨by rw [e]; rfl, by rw [e]; rfl, fun k s i u => ?_⟩
        rw [wr_g, if_neg (by omega)]; exact ho k s i u
      rcases fd_sp (decide (mo = 1)) f d with ⟨hn1, -⟩ | ⟨e, w, hs1, hwd, hfw, -⟩
      · rw [if_pos (by rw [hn1]; rfl)]
        refine take ?_
        rw [es, hn1]; rfl
      · have he5 := h5 w e (by omega) hfw
        have ets : tI ((fdO (decide (mo = 1)) f d).map Prod.fst) = nI e := by rw [hs1]; rfl
        have es2 : fdO (decide (mo = 1)) f (d + 1) = if (if decide (mo = 1) = true then decide (e < v) else decide (v < e)) = true then some (v, d) else some (e, w) := by rw [es, hs1]; rfl
        rw [if_neg (show ¬ tI ((fdO (decide (mo = 1)) f d).map Prod.fst) = (-1 : Int32) by rw [ets]; exact nI_nm1 (by omega))]
        rcases hmo with hm0 | hm1
        · have hdc : decide (mo = 1) = false := decide_eq_false (by rw [hm0]; decide)
          rw [if_neg (show ¬ decide (mo = 1) = true by rw [hdc]; decide)] at es2
          rw [if_pos hm0]
          by_cases g : e ≤ v
          · rw [if_pos (show tI ((fdO (decide (mo = 1)) f d).map Prod.fst) ≤ tI (some v) by rw [ets]; exact nI_le g (by omega))]
            refine keep ?_
            rw [es2, if_neg (by rw [decide_eq_true_eq]; omega), hs1]
          · rw [if_neg (show ¬ tI ((fdO (decide (mo = 1)) f d).map Prod.fst) ≤ tI (some v) by rw [ets]; exact fun q => g ((le_n (by omega) (by omega)).mp q))]
            refine take ?_
            rw [es2, if_pos (by rw [decide_eq_true_eq]; omega)]
        · have hdc : decide (mo = 1) = true := decide_eq_true hm1
          rw [if_pos hdc] at es2
          rw [if_neg (show ¬ mo = 0 by rw [hm1]; decide)]
          by_cases g : v ≤ e
          · rw [if_pos (show tI (some v) ≤ tI ((fdO (decide (mo = 1)) f d).map Prod.fst) by rw [ets]; exact nI_le g (by omega))]
            refine keep ?_
            rw [es2, if_neg (by rw [decide_eq_true_eq]; omega), hs1]
          · rw [if_neg (show ¬ tI (some v) ≤ tI ((fdO (decide (mo = 1)) f d).map Prod.fst) by rw [ets]; exact fun q => g ((le_n (by omega) (by omega)).mp q))]
            refine take ?_
            rw [es2, if_pos (by rw [decide_eq_true_eq]; omega)]
  · rintro a h1 rec ⟨rfl, e51, ho⟩
    unfold fX12_fold_l10
    rw [if_pos (show (6 : Int32) ≤ nI 6 by decide)]
    exact wp_some ⟨rfl, e51, ho⟩
theorem fd_cg {mo : Bool} {f g : Nat → Option Nat} : ∀ k, (∀ d, d < k → f d = g d) → fdO mo f k = fdO mo g k := by
  intro k
  induction k with
  | zero => intro _; rfl
  | succ k ih =>
    intro h
    show fdS mo k (fdO mo f k) (f k) = fdS mo k (fdO mo g k) (g k)
    rw [ih (fun d hd => h d (by omega)), h k (by omega)]
/-- one level folded -/
theorem lev {n sp m i k : Nat} {pl li : Nat → Nat} {s0 : DTs} (hi : i < m) : ∃ o, fdO (decide (i % 2 = 0)) (fun d => (ndO n sp pl li s0 (i + 1) (6 * k + d)).map (dvF n sp pl li (m - (i + 1)) (i + 1))) 6 = o ∧ o.map Prod.fst = (ndO n sp pl li s0 i k).map (dvF n sp pl li (m - i) i) ∧ (∀ s, ndO n sp pl li s0 i k = some s → o = fdO (decide (i % 2 = 0)) (chD n sp pl li (m - (i + 1)) i s) 6) := by
  have key : ∀ d, d < 6 → ndO n sp pl li s0 (i + 1) (6 * k + d) = (ndO n sp pl li s0 i k).bind (stD n sp pl li i d) := fun d hd => by
    show (ndO n sp pl li s0 i ((6 * k + d) / 6)).bind (stD n sp pl li i ((6 * k + d) % 6)) = _
    rw [show (6 * k + d) / 6 = k by omega, show (6 * k + d) % 6 = d by omega]
  refine ⟨_, rfl, ?_⟩
  cases hx : ndO n sp pl li s0 i k with
  | none =>
    refine ⟨?_, fun s hs => by cases hs⟩
    have hz : ∀ d, d < 6 → (fun d => (ndO n sp pl li s0 (i + 1) (6 * k + d)).map (dvF n sp pl li (m - (i + 1)) (i + 1))) d = none := fun d hd => by
      show (ndO n sp pl li s0 (i + 1) (6 * k + d)).map _ = none
      rw [key d hd, hx]; rfl
    rcases fd_sp (decide (i % 2 = 0)) (fun d => (ndO n sp pl li s0 (i + 1) (6 * k + d)).map (dvF n sp pl li (m - (i + 1)) (i + 1))) 6 with ⟨h1, -⟩ | ⟨v, w, h1, h2, h3, -⟩
    · rw [h1]; rfl
    · have := (hz w h2).symm.trans h3
      cases this
  | some s =>
    have hc : ∀ d, d < 6 → (fun d => (ndO n sp pl li s0 (i + 1) (6 * k + d)).map (dvF n sp pl li (m - (i + 1)) (i + 1))) d = chD n sp pl li (m - (i + 1)) i s d := fun d hd => by
      show (ndO n sp pl li s0 (i + 1) (6 * k + d)).map _ = _
      rw [key d hd, hx]; rfl
    rw [fd_cg 6 hc]
    refine ⟨?_, fun s' hs => by cases hs; rfl⟩
    obtain ⟨w, h1, -, -⟩ := fd_dv (n := n) (sp := sp) (pl := pl) (li := li) (m - (i + 1)) i s
    rw [h1, show m - (i + 1) + 1 = m - i by omega]; rfl
theorem p216 {m : Nat} (hm : m ≤ 3) : 6 ^ m ≤ 216 := Nat.pow_le_pow_right (show 0 < 6 by decide) hm
theorem duelM {h : Hp} {j sp st n m w0 : Nat} {pl li le : Nat → Nat} {z : Int32} (e21 : h.1 10 0 21 = nI j) (hj : j < 8) (hs : SV sp st n pl li le) (ms0 : MSt h j sp st n pl li le) (hm : m ≤ 3) (hw0 : 1 ≤ m → fdO true (chD n sp pl li (m - 1) 0 (st, peN n le)) 6 = some (dvF n sp pl li m 0 (st, peN n le), w0)) : ∃ h', itr1 (fX12_duel_l34 (nI m) (nI (6 ^ m)) (fun h12 => lt (wr h12 10 0 51 (-1)) fun h13 => lt (nI m - (1 : Int32)) fun x14 => itr2 (fX12_duel_l71 (fun h24 => if z = 0 then (ck (ib 0 216) (some (ra h24 64 0 0, h24))) else (some (rd h24 10 0 51, h24)))) FU (nI (6 ^ m)) x14 h13)) FU 0 h = some (if z = 0 then nI (dvF n sp pl li m 0 (st, peN n le)) else if m = 0 then -1 else nI w0, h') := by
  have hn := hs.2.2.2.1
  have h216 := p216 hm
  suffices hw : WP (itr1 (fX12_duel_l34 (nI m) (nI (6 ^ m)) (fun h12 => lt (wr h12 10 0 51 (-1)) fun h13 => lt (nI m - (1 : Int32)) fun x14 => itr2 (fX12_duel_l71 (fun h24 => if z = 0 then (ck (ib 0 216) (some (ra h24 64 0 0, h24))) else (some (rd h24 10 0 51, h24)))) FU (nI (6 ^ m)) x14 h13)) FU 0 h) (fun r _ => r = if z = 0 then nI (dvF n sp pl li m 0 (st, peN n le)) else if m = 0 then -1 else nI w0) by
    obtain ⟨r, h', e, rfl⟩ := hw
    exact ⟨h', e⟩
  refine wp_for1 (6 ^ m) (fun k h' => h'.1 10 0 21 = nI j ∧ (∀ i, h'.1 48 0 i = h.1 48 0 i) ∧ ∀ k', k' < k → h'.1 64 0 k' = tI ((ndO n sp pl li (st, peN n le) m k').map (fun s => upN s.2 n))) ?_ ?_ FU h (i0 := 0) (Nat.zero_le _) (FUb (by omega)) ⟨e21, fun _ => rfl, fun k' hk' => absurd hk' (Nat.not_lt_zero _)⟩
  · rintro k h1 rec hk ⟨t21, t48, hends⟩ hrec
    unfold fX12_duel_l34
    have ms1 : MSt h1 j sp st n pl li le := by
      obtain ⟨a1, a2, a3, a4⟩ := ms0
      refine ⟨(t48 _).trans a1, (t48 _).trans a2, (t48 _).trans a3, fun p hp => ?_⟩
      rw [t48, t48, t48]; exact a4 p hp
    obtain ⟨r, h2, e2, rfl, fr⟩ := endOf_wp t21 hj hs ms1 hm (show k < 46656 by omega)
    rw [if_neg (fun q => nI_ge hk (by omega) q), e2, bnd_eq, ck_p (ib_nI (by omega) (by decide)), lt_eq, lt_eq, nI_1]
    refine hrec _ ⟨?_, fun i => ?_, fun k' hk' => ?_⟩
    · rw [wa_g, if_neg (by omega)]; exact (fr.at 10 0 21 rfl).trans t21
    · rw [wa_g, if_neg (by omega)]; exact (fr.cell 48 0 rfl i).trans (t48 i)
    · rw [wa_g, nI_clamp (by omega), show 0 % cnt 64 = 0 from rfl]
      by_cases g : k' = k
      · rw [if_pos ⟨rfl, rfl, g⟩, g]
      · rw [if_neg (fun q => g q.2.2)]; exact (fr.cell 64 0 rfl k').trans (hends k' (by omega))
  · rintro h1 rec ⟨t21, t48, hends⟩
    unfold fX12_duel_l34
    rw [if_pos (nI_le (Nat.le_refl _) (by omega))]
    dsimp only
    rw [lt_eq, lt_eq]
    refine wp_itr2 (fun mm x y h' => mm ≤ m ∧ x = nI (6 ^ mm) ∧ y = nI mm - 1 ∧ (∀ k, k < 6 ^ mm → h'.1 64 0 k = tI ((ndO n sp pl li (st, peN n le) mm k).map (dvF n sp pl li (m - mm) mm))) ∧ (m = 0 → h'.1 10 0 51 = -1) ∧ (mm = 0 → 1 ≤ m → h'.1 10 0 51 = nI w0)) ?_ FU m _ _ _ (FUb (by omega)) ⟨Nat.le_refl _, rfl, rfl, fun k hk => ?_, fun _ => rfl, fun w1 w2 => by omega⟩
    · rintro t x y h2 rec2 ⟨htm, rfl, rfl, hlv, hz1, hz2⟩ hrec2
      unfold fX12_duel_l71
      by_cases ht0 : t = 0
      · subst ht0
        rw [if_pos (show nI 0 - (1 : Int32) < 0 by decide)]
        dsimp only
        have e64 : ra h2 64 0 0 = nI (dvF n sp pl li m 0 (st, peN n le)) := by
          have := hlv 0 (by decide)
          rw [Nat.sub_zero] at this
          exact this
        by_cases hz : z = 0
        · rw [if_pos hz, ck_p (show ib 0 216 = true from rfl), e64]
          exact wp_some (by rw [if_pos hz])
        · rw [if_neg hz]
          refine wp_some ?_
          rw [if_neg hz]
          by_cases hm0 : m = 0
          · rw [if_pos hm0]; exact hz1 hm0
          · rw [if_neg hm0]; exact hz2 rfl (by omega)
      · obtain ⟨i, rfl⟩ : ∃ i, t = i + 1 := ⟨t - 1, by omega⟩
        have h216i : 6 ^ (i + 1) ≤ 216 := p216 (by omega)
        have epw : 6 ^ (i + 1) = 6 ^ i * 6 := Nat.pow_succ 6 i
        have ey : nI (i + 1) - (1 : Int32) = nI i := nI_sub (b := 1) (by omega)
        rw [ey, if_neg (fun q => in_no (show i < 10 by omega) (by decide) (Or.inl q)), show nI (6 ^ (i + 1)) / (6 : Int32) = nI (6 ^ (i + 1) / 6) from nI_div (b := 6) (by omega) (by decide), show 6 ^ (i + 1) / 6 = 6 ^ i by omega, lt_eq]
        refine wp_for1 (6 ^ i) (fun k h' => (∀ k', k' < k → h'.1 64 0 k' = tI ((ndO n sp pl li (st, peN n le) i k').map (dvF n sp pl li (m - i) i))) ∧ (∀ k', k ≤ k' → k' < 6 ^ (i + 1) → h'.1 64 0 k' = tI ((ndO n sp pl li (st, peN n le) (i + 1) k').map (dvF n sp pl li (m - (i + 1)) (i + 1)))) ∧ (0 < k → i = 0 → h'.1 10 0 51 = nI w0)) ?_ ?_ FU h2 (i0 := 0) (by omega) (FUb (by omega)) ⟨fun k' hk' => absurd hk' (Nat.not_lt_zero _), fun k' _ hk' => hlv k' hk', fun q => absurd q (Nat.not_lt_zero _)⟩
        · rintro k h3 rec3 hk ⟨hnew, hold, hwh⟩ hrec3
          unfold fX12_duel_l86
          obtain ⟨o, ho1, ho2, ho3⟩ := lev (n := n) (sp := sp) (pl := pl) (li := li) (s0 := (st, peN n le)) (k := k) (show i < m by omega)
          have em : irm (nI i) (2 : Int32) = nI (i % 2) := nI_rem (b := 2) (by omega) (by decide)
          have hb5 : ∀ d u, d < 6 → (fun d => (ndO n sp pl li (st, peN n le) (i + 1) (6 * k + d)).map (dvF n sp pl li (m - (i + 1)) (i + 1))) d = some u → u ≤ 5 := fun d u _ hu => by
            have hu' : (ndO n sp pl li (st, peN n le) (i + 1) (6 * k + d)).map (dvF n sp pl li (m - (i + 1)) (i + 1)) = some u := hu
            cases hq : ndO n sp pl li (st, peN n le) (i + 1) (6 * k + d) with
            | none => rw [hq] at hu'; cases hu'
            | some s =>
              rw [hq] at hu'
              have e := Option.some.inj hu'
              have := dv_le (n := n) (sp := sp) (pl := pl) (li := li) (m - (i + 1)) (i + 1) s
              omega
          have go : ∀ mo : Int32, (mo = 0 ∨ mo = 1) → decide (mo = 1) = decide (i % 2 = 0) → WP (bnd (fX12_fold ((6 : Int32) * nI k) mo h3) fun x19 h18 => ck (ib (nI k) 216) (lt (wa h18 64 0 (nI k) x19) fun h20 => lt (nI k + 1) fun x21 => rec3 x21 h20)) (fun r _ => r = if z = 0 then nI (dvF n sp pl li m 0 (st, peN n le)) else if m = 0 then -1 else nI w0) := by
            intro mo hmo hdec
            obtain ⟨r, h4, e4, rfl, e51, hfr⟩ := fold_wp (h := h3) (b := 6 * k) (mo := mo) (f := fun d => (ndO n sp pl li (st, peN n le) (i + 1) (6 * k + d)).map (dvF n sp pl li (m - (i + 1)) (i + 1))) hmo (by omega) (fun d hd => hold (6 * k + d) (by omega) (by omega)) hb5
            rw [hdec, ho1] at e51 e4
            rw [ho2] at e4
            rw [show (6 : Int32) * nI k = nI (6 * k) from nI_mul 6 k, e4, bnd_eq, ck_p (ib_nI (by omega) (by decide)), lt_eq, lt_eq, nI_1]
            refine hrec3 _ ⟨fun k' hk' => ?_, fun k' h1' h2' => ?_, fun _ hi0 => ?_⟩
            · rw [wa_g, nI_clamp (by omega), show 0 % cnt 64 = 0 from rfl]
              by_cases g : k' = k
              · rw [if_pos ⟨rfl, rfl, g⟩, g]
              · rw [if_neg (fun q => g q.2.2), hfr 64 0 k' (by omega)]; exact hnew k' (by omega)
            · rw [wa_g, nI_clamp (by omega), if_neg (by omega), hfr 64 0 k' (by omega)]; exact hold k' (by omega) h2'
            · rw [wa_g, if_neg (by omega), e51]
              subst hi0
              have hk0 : k = 0 := by
                have : (6 : Nat) ^ 0 = 1 := rfl
                omega
              subst hk0
              rw [ho3 (st, peN n le) rfl]
              have := hw0 (by omega)
              rw [show decide (0 % 2 = 0) = true from rfl, show m - (0 + 1) = m - 1 from rfl, this]; rfl
          rw [if_neg (fun q => nI_ge hk (by omega) q), jn_eq, em]
          by_cases g2 : i % 2 = 0
          · rw [if_pos ((eq0_n (by omega)).mpr g2)]
            exact go 1 (Or.inr rfl) (by rw [decide_eq_true g2]; rfl)
          · rw [if_neg (fun q => g2 ((eq0_n (by omega)).mp q))]
            exact go 0 (Or.inl rfl) (by rw [decide_eq_false g2]; rfl)
        · rintro h3 rec3 ⟨hnew, hold, hwh⟩
          unfold fX12_duel_l86
          rw [if_pos (nI_le (Nat.le_refl _) (by omega))]
          dsimp only
          have ey2 : nI i + (-1 : Int32) = nI i - 1 := (Int32.sub_eq_add_neg _ _).symm
          rw [lt_eq, ey2]
          exact hrec2 i _ _ _ (by omega) ⟨by omega, rfl, rfl, hnew, fun q => by omega, fun hi0 _ => hwh (Nat.pow_pos (by decide)) hi0⟩
    · have := hends k hk
      rw [Nat.sub_self]
      exact this
theorem st_duel : Stp_duel (Rel KIv) := by
  intro a l2 z hz
  refine stp_q KIv_stab (frX11_duel a l2 z) (frX12_duel a l2 z) rfl rfl rfl rfl (fun hC hM hR => ?_)
  obtain ⟨⟨-, -, -, -, c0, c1, c2, ⟨v0, v1, -⟩, ⟨e0, e1, e2⟩, ⟨m0, m1, m2⟩, hSt, -⟩, -, -, hI⟩ := hR
  unfold fX11_duel fX12_duel
  rw [lt_eq, in_eq, bnd_eq]
  rcases int_cases a c0 (by omega) with ha | ⟨j, hj, rfl⟩
  · rw [stageAt_no e0 ha, bnd_eq, nl_n]
    by_cases g : l2 < 0 ∨ (3 : Int32) < l2
    · rw [if_pos g, if_pos rfl]
      exact ⟨_, _, _, rfl, rfl⟩
    · rw [if_neg g, if_neg ne10, hand_no (show (wr hM 10 0 0 0).1 47 0 0 = nI c0 from m0) v0 ha, bnd_eq, if_pos rfl]
      exact ⟨_, _, _, rfl, rfl⟩
  · obtain ⟨sp, st, n, pl, li, le, hv, hcs, hms⟩ := hSt j hj
    rw [Nat.mul_zero, Nat.zero_add] at hcs hms
    have hn := hv.2.2.2.1
    obtain ⟨hB, eB, mhB, e21, iB, e48⟩ := handK m0 v0 hj hv hms hI
    have msB : MSt hB j sp st n pl li le := by
      obtain ⟨a1, a2, a3, a4⟩ := hms
      refine ⟨(e48 _).trans a1, (e48 _).trans a2, (e48 _).trans a3, fun p hp => ?_⟩
      rw [e48, e48, e48]; exact a4 p hp
    rw [stageAt_yes e0 hj v0, bnd_eq, nl_s]
    by_cases g : l2 < 0 ∨ (3 : Int32) < l2
    · rw [if_pos g, if_pos rfl]
      by_cases g0 : l2 < 0
      · rw [if_pos g0]
        exact ⟨_, _, _, rfl, rfl⟩
      · rw [if_neg g0, if_neg (fun q => by
          have z1 := Int32.lt_iff_toInt_lt.mp (g.resolve_left g0)
          have z2 := Int32.le_iff_toInt_le.mp q
          omega)]
        exact ⟨_, _, _, rfl, rfl⟩
    · have g0 : ¬ l2 < 0 := fun q => g (Or.inl q)
      have g3 : ¬ (3 : Int32) < l2 := fun q => g (Or.inr q)
      obtain ⟨m, hm, rfl⟩ := nI_of g0
      have hm3 : m ≤ 3 := by
        apply Classical.byContradiction
        intro q
        exact g3 (nI_lt (a := 3) (by omega) hm)
      have hD : D7 (peN n le) := fun k hk => by
        unfold peN
        split
        · have := hv.2.2.2.2 k (by omega); omega
        · omega
      obtain ⟨d, hd5, eC, hfd⟩ := duelC (show j < 10 by omega) hv hcs 4 m 0 st (peN n le) (by omega) hm3 rfl hv.2.2.1 hD (fun q hq => by unfold peN; rw [if_neg (by omega)])
      obtain ⟨hM1, eM⟩ := duelM (z := z) e21 (by omega) hv msB hm3 hfd
      have bv := dv_le (n := n) (sp := sp) (pl := pl) (li := li) m 0 (st, peN n le)
      have r1 : rd hC 6 j 1 = nI st := by show hC.1 6 (j % cnt 6) 1 = _; rw [mj12 (by omega) rfl]; exact hcs.2.1
      have eS : fX1_duelling j (nI m) hC = some (nI (8 * dvF n sp pl li m 0 (st, peN n le) + 5 - d), hC) := by
        unfold fX1_duelling
        rw [packed_eq (by omega) hv hcs, bnd_eq, if_neg (show ¬ (3 : Int32) < nI m from g3), lt_eq, r1, eC, bnd_eq]
      rw [if_neg g, if_neg ne10, eB, bnd_eq, if_neg ne10, sixes_eq (by omega), bnd_eq, eM, if_neg g0, if_pos (Int32.not_lt.mp g3), jn_eq]
      dsimp only
      by_cases hz0 : z = 0
      · rw [if_pos hz0, eS, bnd_eq, if_pos hz0, val_eq hd5 (by omega), bnd_eq, if_pos hz0]
        exact ⟨_, _, _, rfl, rfl⟩
      · rw [if_neg hz0]
        by_cases hm0 : m = 0
        · rw [if_pos ((eq0_n (by omega)).mpr hm0), if_neg hz0, if_pos hm0]
          exact ⟨_, _, _, rfl, rfl⟩
        · rw [if_neg (fun q => hm0 ((eq0_n (by omega)).mp q)), eS, bnd_eq, if_neg hz0, cho_eq hd5 (by omega), bnd_eq, if_neg hz0, if_neg hm0]
          exact ⟨_, _, _, rfl, rfl⟩
