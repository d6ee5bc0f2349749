/-! the keeper forgets, and looks at a stage anew -/
theorem forget_wp {h : Hp} {n sp st f : Nat} {pl li le s : Nat → Nat} (hv : SV sp st n pl li le) (t : KT h n (GC n sp st pl li le) f s) (hf : f ≤ 2191) : ∃ h', fX2_forget h = some ((), h') ∧ (∀ k, k < 4096 → h'.1 11 0 k = 0) ∧ h'.1 0 0 2 = 0 ∧ ∀ k s i, k ≠ 11 → ¬ (k = 0 ∧ i = 2) → h'.1 k s i = h.1 k s i := by
  suffices hw : WP (fX2_forget h) (fun _ h' => (∀ k, k < 4096 → h'.1 11 0 k = 0) ∧ h'.1 0 0 2 = 0 ∧ ∀ k s i, k ≠ 11 → ¬ (k = 0 ∧ i = 2) → h'.1 k s i = h.1 k s i) by
    obtain ⟨u, h', e, q⟩ := hw
    exact ⟨h', e, q⟩
  obtain ⟨t1, t2, z, d, hz⟩ := id t
  unfold fX2_forget
  have r2 : rd h 0 0 2 = nI f := t1
  rw [r2, lt_eq]
  refine wp_itr1 (fun m x h' => m ≤ f ∧ x = nI m - (1 : Int32) ∧ HZ (h'.1 11 0) m (fun i => hmN n (s i)) z d ∧ ∀ k s i, k ≠ 11 → h'.1 k s i = h.1 k s i) ?_ FU f _ h (FUb (by omega)) ⟨Nat.le_refl _, rfl, hz, fun _ _ _ _ => rfl⟩
  rintro m x h1 rec ⟨hm, rfl, w, ot⟩ hrec
  unfold fX2_forget_l7
  cases m with
  | zero =>
    rw [if_pos (show nI 0 - (1 : Int32) < 0 by decide)]
    dsimp only
    rw [lt_eq]
    refine wp_some ⟨fun k hk => ?_, rfl, fun k s j h1' h2' => ?_⟩
    · rw [wr_other (by decide)]; exact w.2 k hk (fun i hi => absurd hi (Nat.not_lt_zero _))
    · rw [wr_g, if_neg (by omega)]; exact ot k s j h1'
  | succ m =>
    obtain ⟨q1, q2, q3, q4⟩ := t2 m (by omega)
    have hib : ib (nI m) 2200 = true := ib_nI (by omega) (by decide)
    have r12 : ra h1 12 0 (nI m) = nI (s m / 7776) := by rw [ra_n (by omega)]; exact (ot 12 0 m (by decide)).trans q2
    have r13 : ra h1 13 0 (nI m) = nI (pkN (lpC n (s m))) := by rw [ra_n (by omega)]; exact (ot 13 0 m (by decide)).trans q3
    obtain ⟨k, ek, hkl, hsr⟩ := slotOf_eq hv (fun i hi => ⟨(t2 i (by omega)).1, (ot 12 0 i (by decide)).trans (t2 i (by omega)).2.1, (ot 13 0 i (by decide)).trans (t2 i (by omega)).2.2.1⟩) w (by omega) q1
    have ezk : z m = k := by
      rcases hsr with ⟨j, hj, e, ez⟩ | ⟨hn, -⟩
      · rw [← q4 j (by omega) e]; exact ez
      · exact absurd rfl (hn m (by omega))
    rw [show nI (m + 1) - (1 : Int32) = nI m from nI_sub (b := 1) (by omega), if_neg (nI_pos (by omega)), ck_p hib, ck_p hib, r12, r13, ek, bnd_eq, ck_p (ib_nI hkl (by decide)), lt_eq, lt_eq]
    refine hrec m _ _ (by omega) ⟨by omega, (Int32.sub_eq_add_neg (nI m) 1).symm, w.del (by omega) (fun q => ?_), fun k s j hk => ?_⟩
    · rw [wa_g, nI_clamp (by omega), show 0 % cnt 11 = 0 from rfl, ezk]
      by_cases g : q = k
      · rw [if_pos ⟨rfl, rfl, g⟩, if_pos g]; rfl
      · rw [if_neg (fun w => g w.2.2), if_neg g]
    · rw [wa_g, if_neg (by omega)]; exact ot k s j hk
def KB (h : Hp) : Prop := ∃ n sp st pl li le f s, SV sp st n pl li le ∧ KT h n (GC n sp st pl li le) f s ∧ f ≤ 2191
def KY (h h' : Hp) : Prop := ∀ k s i, ¬ (11 ≤ k ∧ k ≤ 18) → ¬ (k = 0 ∧ 1 ≤ i ∧ i ≤ 3) → ¬ ((k = 6 ∨ k = 33 ∨ k = 34 ∨ k = 35) ∧ s = 10) → h'.1 k s i = h.1 k s i
theorem pk_c0 {n sp st : Nat} {pl li le : Nat → Nat} (hv : SV sp st n pl li le) : pkN (peN n le) = pkN (lpC n (c0N (GC n sp st pl li le))) := by
  have hG := GC_VG hv
  refine pkN_congr (fun k hk => ?_)
  unfold peN lpC
  by_cases g : k < n
  · rw [if_pos g, if_pos g]
    unfold c0N
    rw [cdN_dig (c0_dig hG) hk]
    show _ = (if (GC n sp st pl li le).1 k = true then _ else 0) + 1
    rw [if_pos (show (GC n sp st pl li le).1 k = true from decide_eq_true g)]
    show le k = le k - 1 + 1
    have := (hv.2.2.2.2 k g).2.2.2.1
    omega
  · rw [if_neg g, if_neg g]
/-- up to the first stand entered -/
theorem beginC_wp {h : Hp} {n sp st a : Nat} {pl li le : Nat → Nat} {l2 : Int32} (hv : SV sp st n pl li le) (ha : a < 12) (ha10 : a ≠ 10) (hc : CSt h a sp st n pl li le) (hk : KB h) (hl : zk l2 = true) : ∃ h' f s, fX2_explore a l2 h = itr1 (fX2_explore_l40 l2 (fun h23 => bnd (fX2_isForever 0 h23) fun x25 h24 => ck (zk x25) (some (x25, h24)))) FU 0 h' ∧ KT h' n (GC n sp st pl li le) f s ∧ 0 < f ∧ f ≤ 2191 ∧ s 0 = c0N (GC n sp st pl li le) ∧ CSt h' 10 sp st n pl li le ∧ h'.1 0 0 1 = l2 ∧ h'.1 0 0 3 = nI 1 ∧ h'.1 17 0 0 = nI 0 ∧ h'.1 14 0 0 = 1 ∧ (∀ q, 0 < q → q < f → h'.1 14 0 q = 0) ∧ h'.1 15 0 0 = 0 ∧ FW h' (GC n sp st pl li le) f s 0 n ∧ KY h h' := by
  have hG := GC_VG hv
  obtain ⟨n0, sp0, st0, pl0, li0, le0, f0, s0, hv0, t0, hf0⟩ := hk
  obtain ⟨h1, e1, z1, c1, o1⟩ := forget_wp hv0 t0 hf0
  obtain ⟨h2, e2, o2⟩ := cp8 (a := 10) (b := a) h1 (by decide) (show a < 12 from ha) (fun w => ha10 w.symm)
  have hc1 : CSt h1 a sp st n pl li le := hc.cp (fun k i hk => o1 k a i (by omega) (by omega))
  have hn := hv.2.2.2.1
  have hc2 : CSt h2 10 sp st n pl li le := by
    obtain ⟨q1, q2, q3, q4⟩ := hc1
    refine ⟨?_, ?_, ?_, fun p hp => ?_⟩
    · rw [o2, if_pos (by omega)]; exact q1
    · rw [o2, if_pos (by omega)]; exact q2
    · rw [o2, if_pos (by omega)]; exact q3
    · rw [o2, o2, o2, if_pos (by omega), if_pos (by omega), if_pos (by omega)]; exact q4 p hp
  generalize hH : wr (wr h2 0 0 1 l2) 0 0 3 0 = H
  have vH : ∀ k s i, ¬ (k = 0 ∧ (i = 1 ∨ i = 3)) → H.1 k s i = h2.1 k s i := fun k s i u => by rw [← hH, wr_g, if_neg (by omega), wr_g, if_neg (by omega)]
  have hcH : CSt H 10 sp st n pl li le := hc2.cp (fun k i hk => vH k 10 i (by omega))
  have tH : KT H n (GC n sp st pl li le) 0 (fun _ => 0) := ⟨by rw [vH 0 0 2 (by omega), o2, if_neg (by omega)]; exact c1, fun i hi => absurd hi (Nat.not_lt_zero _), fun _ => 0, fun _ => 0, fun i hi => absurd hi (Nat.not_lt_zero _), fun k hk _ => by rw [vH 11 0 k (by omega), o2, if_neg (by omega)]; exact z1 k hk⟩
  have hrc0 : Rc (GC n sp st pl li le) (c0N (GC n sp st pl li le)) := ⟨0, rfl⟩
  obtain ⟨h3, f3, s3, j, e3, t3, a1, a2, a3, a4, a5, a6, a7⟩ := numberFor_wp hv tH (by omega) hrc0
  have hr5 : c0N (GC n sp st pl li le) / 7776 = 5 := by unfold c0N; exact cdN_run (c0_dig hG)
  rw [hr5] at e3
  obtain ⟨b1, b2, b3⟩ : f3 = 1 ∧ j = 0 ∧ h3.1 14 0 0 = 0 := by
    rcases a7 with ⟨w, -⟩ | w
    · omega
    · exact ⟨by omega, w.2.1, w.2.2⟩
  rw [b2] at e3 a5
  have hc3 : CSt h3 10 sp st n pl li le := hcH.cp (fun k i hk => a6 k 10 i (by omega) (by omega) (by omega) (by omega) (by omega))
  have e33 : h3.1 0 0 3 = nI 0 := by rw [a6 0 0 3 (by omega) (by omega) (by omega) (by omega) (by omega), ← hH]; rfl
  obtain ⟨h4, f4, s4, e4, t4, d1, d2, d3, d4, d5, d6, d7, d8, d9, x1, x2, x3, x4, x5⟩ := enter_wp hv hc3 t3 a2 (show 0 < f3 by omega) (show 0 < 2200 by decide) e33
  refine ⟨h4, f4, s4, ?_, t4, by omega, d2, (d3 0 (by omega)).trans a5, hc3.cp (fun k i hk => x5 k 10 i (by omega) (by omega) (by omega) (by omega)), ?_, d4, d5, d7, fun q h1' h2' => d9 q (by omega) h2', x1, x3, fun k s i u1 u2 u3 => ?_⟩
  · unfold fX2_explore
    rw [e1, bnd_eq, e2, bnd_eq, ck_p hl, lt_eq, lt_eq, hH, packed_eq (by decide) hv hcH, bnd_eq, pk_c0 hv, show (5 : Int32) = nI 5 from rfl, e3, bnd_eq, e4, bnd_eq]
  · rw [x5 0 0 1 (by omega) (by omega) (by omega) (by omega), a6 0 0 1 (by omega) (by omega) (by omega) (by omega) (by omega), ← hH, wr_g, if_neg (by omega)]; rfl
  · rw [x5 k s i (by omega) (by omega) (by omega) (by omega), a6 k s i (by omega) (by omega) (by omega) (by omega) (by omega), vH k s i (by omega), o2, if_neg (by omega)]
    exact o1 k s i (by omega) (by omega)
theorem explore_wp {h : Hp} {n sp st a : Nat} {pl li le : Nat → Nat} {l2 : Int32} (hv : SV sp st n pl li le) (h1n : 1 ≤ n) (ha : a < 12) (ha10 : a ≠ 10) (hc : CSt h a sp st n pl li le) (hk : KB h) (hl : zk l2 = true) : ∃ r h', fX2_explore a l2 h = some (r, h') ∧ ((r = 1 ∧ Ev (GC n sp st pl li le) (c0N (GC n sp st pl li le))) ∨ (r = 0 ∧ ¬ Ev (GC n sp st pl li le) (c0N (GC n sp st pl li le)))) ∧ KY h h' ∧ CSt h' 10 sp st n pl li le ∧ h'.1 0 0 1 = l2 ∧ ∃ f s D o mk us T, DI h' n (GC n sp st pl li le) f s D o mk us T ∧ (l2 ≠ 0 → D = 0) := by
  obtain ⟨h1, f, s, e, t, b1, b2, b3, b4, b5, b6, b7, b8, b9, c1, c2, ky⟩ := beginC_wp hv ha ha10 hc hk hl
  have d : DI h1 n (GC n sp st pl li le) f s 1 (fun _ => 0) (fun q => if q = 0 then 1 else 0) (fun _ => 0) (fun _ => none) := by
    refine ⟨t, b2, b1, b3, ⟨b6, fun k hk => ?_, fun k k' hk hk' _ => by omega, fun _ => rfl, fun k hk => absurd hk (by omega)⟩, ⟨fun q hq => ?_, ?_, fun q hq e => ?_, fun q hq e => ?_, fun _ _ => rfl, fun q hq e => ?_⟩, ⟨fun q w => absurd rfl w, fun q hq e => ?_, fun q w hq e => ?_, fun q hq e => ?_⟩⟩
    · rw [show k = 0 by omega]; exact ⟨b7, b1, if_pos rfl⟩
    · dsimp only
      by_cases g : q = 0
      · rw [if_pos g, g]; exact ⟨b8, by omega⟩
      · rw [if_neg g]; exact ⟨b9 q (by omega) hq, by omega⟩
    · dsimp only
      rw [if_pos rfl]; omega
    · dsimp only at e
      have g : q = 0 := by
        apply Classical.byContradiction
        intro g
        rw [if_neg g] at e; omega
      rw [g]
      exact ⟨⟨0, by omega, rfl⟩, c1, Nat.zero_le _⟩
    · dsimp only at e
      by_cases g : q = 0
      · rw [if_pos g] at e; omega
      · rw [if_neg g] at e; omega
    · dsimp only at e
      have g : q = 0 := by
        apply Classical.byContradiction
        intro g
        rw [if_neg g] at e; exact e rfl
      rw [g]
      exact ⟨c2, fun p j w => absurd w (Nat.not_lt_zero _)⟩
    · dsimp only at e
      by_cases g : q = 0
      · rw [if_pos g] at e; omega
      · rw [if_neg g] at e; omega
    · cases e
    · dsimp only at e
      by_cases g : q = 0
      · rw [if_pos g] at e; omega
      · rw [if_neg g] at e; omega
  have hz : ∀ k, exS (fun _ => 0) k = 0 := by
    intro k
    induction k with
    | zero => rfl
    | succ k ih => show exS (fun _ => 0) k + 0 = 0; omega
  obtain ⟨r, h2, e2, q1, kx, q2⟩ := exploreL_wp (l2 := l2) hv h1n b4 d (hz 2200)
  refine ⟨r, h2, e.trans e2, q1, fun k s i u1 u2 u3 => (kx k s i u1 (by omega)).trans (ky k s i u1 u2 u3), b4.cp (fun k i hk => kx k 10 i (by omega) (by omega)), (kx 0 0 1 (by omega) (by omega)).trans b5, q2⟩
theorem DI.kb {h : Hp} {n sp st f D : Nat} {pl li le s o mk us : Nat → Nat} {T : Nat → Option Nat} (hv : SV sp st n pl li le) (d : DI h n (GC n sp st pl li le) f s D o mk us T) : KB h := ⟨n, sp, st, pl, li, le, f, s, hv, d.1, d.2.1⟩
