/-! the row of runs, place by place -/
def RW (G : KG) : Nat → Nat → Int32 → Prop
  | 0, c, r => NR G c r
  | k + 1, c, r => (NR G c (-1) ∧ r = -1) ∨ ∃ p, p < 5 ∧ NR G c (nI p) ∧ RW G k (nxN G c p) r
theorem RW.stop {G : KG} {c : Nat} (h : NR G c (-1)) : ∀ k, RW G k c (-1) := by
  intro k
  cases k with
  | zero => exact h
  | succ k => exact Or.inl ⟨h, rfl⟩
theorem RW.uniq {G : KG} : ∀ k c {r r' : Int32}, RW G k c r → RW G k c r' → r = r' := by
  intro k
  induction k with
  | zero => intro c r r' a b; exact NR.uniq a b
  | succ k ih =>
    intro c r r' a b
    rcases a with ⟨a1, rfl⟩ | ⟨p, hp, a1, a2⟩
    · rcases b with ⟨-, rfl⟩ | ⟨q, hq, b1, b2⟩
      · rfl
      · exact absurd (a1.uniq b1).symm (nI_nm1 (by omega))
    · rcases b with ⟨b1, rfl⟩ | ⟨q, hq, b1, b2⟩
      · exact absurd (a1.uniq b1) (nI_nm1 (by omega))
      · have := (eq_n (by omega) (by omega)).mp (a1.uniq b1)
        rw [← this] at b2
        exact ih _ a2 b2
theorem NR.kp {G : KG} {c p : Nat} (hp : p < 5) (h : NR G c (nI p)) : kpN G c p = true := by
  rcases h with ⟨e, -⟩ | ⟨q, hq, e, ok, -⟩
  · exact absurd e (nI_nm1 (by omega))
  · rw [(eq_n (by omega) (by omega)).mp e]; exact ok.1
theorem rowPlateC_eq {h : Hp} {n sp st f k : Nat} {pl li le s o mk us : Nat → Nat} {T : Nat → Option Nat} (hv : SV sp st n pl li le) (h1n : 1 ≤ n) (hc : CSt h 10 sp st n pl li le) (d : DI h n (GC n sp st pl li le) f s 0 o mk us T) (hk : k ≤ 1000) : ∃ r, fX2_rowPlate (nI k) h = some (r, h) ∧ RW (GC n sp st pl li le) k (c0N (GC n sp st pl li le)) r := by
  have hn := hv.2.2.2.1
  have hall := (d.all hv).2
  obtain ⟨t, hf, h0, hs0, dk, ⟨m1, m0, m2, m3, m4, m5⟩, dt⟩ := id d
  suffices hw : WP (fX2_rowPlate (nI k) h) (fun r h' => h' = h ∧ RW (GC n sp st pl li le) k (c0N (GC n sp st pl li le)) r) by
    obtain ⟨r, h', e, rfl, q⟩ := hw
    exact ⟨r, e, q⟩
  unfold fX2_rowPlate
  refine wp_for2 (k + 1) (fun q a h' => q ≤ k ∧ h' = h ∧ ∃ i, i < f ∧ a = nI i ∧ ∀ r, RW (GC n sp st pl li le) (k - q) (s i) r → RW (GC n sp st pl li le) k (c0N (GC n sp st pl li le)) r) ?_ ?_ FU 0 h (i0 := 0) (by omega) (FUb (by omega)) ⟨Nat.zero_le _, rfl, 0, h0, rfl, fun r hr => by rw [hs0] at hr; exact hr⟩
  · rintro q a h1 rec hq ⟨hqk, rfl, i, hi, rfl, hrw⟩ hrec
    unfold fX2_rowPlate_l4
    obtain ⟨r, er, hr⟩ := nextRunC_eq hv h1n hc d hi
    rw [if_neg (show ¬ nI k < nI q from fun w => by have := (lt_n (by omega) (by omega)).mp w; omega), er, bnd_eq]
    rcases id hr with ⟨rfl, -⟩ | ⟨p, hp, rfl, ok, -⟩
    · rw [if_pos rfl]
      exact wp_some ⟨rfl, hrw _ (RW.stop hr _)⟩
    · have hpn : p < n := by
        have w : decide (p < n) = true := (kp_le ok.1).1
        exact of_decide_eq_true w
      rw [if_neg (nI_nm1 (show p < 2 ^ 31 by omega))]
      by_cases g : q = k
      · rw [if_pos (by rw [g])]
        rw [g, Nat.sub_self] at hrw
        exact wp_some ⟨rfl, hrw _ hr⟩
      · obtain ⟨fw, -⟩ := m5 i hi (by have := hall i hi; omega)
        obtain ⟨j, hj, ej, e18⟩ := (fw p hpn).1 ok.1
        rw [if_neg (fun w => g ((eq_n (by omega) (by omega)).mp w)), followerOf_eq hn hc.2.2.1 (by omega) hpn, bnd_eq, e18, lt_eq, nI_1]
        refine hrec _ _ ⟨by omega, rfl, j, hj, rfl, fun r' hr' => hrw r' ?_⟩
        rw [show k - q = (k - (q + 1)) + 1 by omega]
        rw [ej] at hr'
        exact Or.inr ⟨p, hp, hr, hr'⟩
  · rintro a h1 rec ⟨hqk, -⟩
    exact absurd hqk (by omega)
