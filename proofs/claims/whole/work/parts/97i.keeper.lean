/-! how long it lasts from a stand on -/
theorem lastsFromC_eq {h : Hp} {n sp st f i : Nat} {pl li le s o mk us : Nat → Nat} {T : Nat → Option Nat} (hv : SV sp st n pl li le) (d : DI h n (GC n sp st pl li le) f s 0 o mk us T) (hi : i < f) : (fX2_lastsFrom (nI i) h = some (-1, h) ∧ Ev (GC n sp st pl li le) (s i)) ∨ ∃ w, fX2_lastsFrom (nI i) h = some (nI w, h) ∧ Lst (GC n sp st pl li le) (s i) w := by
  have hall := (d.all hv).2 i hi
  obtain ⟨t, hf, h0, hs0, dk, ⟨m1, -⟩, ⟨t1, t2, t3, t4⟩⟩ := id d
  have hib : ib (nI i) 2200 = true := ib_nI (by omega) (by decide)
  have r2 : rd h 0 0 2 = nI f := t.1
  have r14 : ra h 14 0 (nI i) = nI (mk i) := by rw [ra_n (by omega)]; exact (m1 i hi).1
  unfold fX2_lastsFrom
  rw [jn_eq, if_neg (fun q => in_no (show i < 2200 by omega) (by decide) (Or.inl q)), r2, if_neg (fun q => nI_ge hi (by omega) q), ck_p hib, r14]
  rcases hall with e | e
  · obtain ⟨w, hw⟩ := t2 i hi e
    obtain ⟨-, e16, hL, -⟩ := t3 i w hi hw
    rw [e, if_neg (show ¬ nI 2 = (3 : Int32) by decide), ck_p hib, show ra h 16 0 (nI i) = nI w by rw [ra_n (by omega)]; exact e16]
    exact Or.inr ⟨w, rfl, hL⟩
  · rw [e, if_pos (show nI 3 = (3 : Int32) from rfl)]
    exact Or.inl ⟨rfl, (t4 i hi e).2⟩
