theorem log_fa {w : Int64} {a : Int32} {h : Hp} {d : Nat} (n8 : ¬ lg_cmp w 1920298611 = 0) (hd : (d = 0 ∧ lg_cmp w 495874699108 = 0) ∨ (d = 1 ∧ ¬ lg_cmp w 495874699108 = 0 ∧ lg_cmp w 7102841 = 0)) : fX12_logLine w a h = bnd (fX12_full 1 8 a h) fun _ h8 => bnd (fX12_token h8) fun _ h9 => bnd (fX12_take 1 0 4 h9) fun x11 h10 => if x11 = 0 then some (0, h10) else bnd (fX12_take 2 0 30 h10) fun x13 h12 => if x13 = 0 then some (0, h12) else itr1 (fX12_logLine_l148 (ra h12 51 0 1) (fun h14 => bnd (fX12_lesser 8 (ra h12 51 0 1 + (1 : Int32)) h14) fun x16 h15 => ck (ib 1 81) (lt (wa h15 51 0 1 x16) fun h17 => ck (zk 1) (some (1, h17))))) FU 0 (wa h12 52 0 0 (nI (1 - d))) := by
  unfold fX12_logLine
  rw [jn_eq, if_neg n8]
  rcases hd with ⟨rfl, y⟩ | ⟨rfl, n9, y⟩
  · rw [if_pos y]
    dsimp only
    rw [if_neg n8]
    refine congrArg (bnd _) ?_
    funext _ h8
    refine congrArg (bnd _) ?_
    funext _ h9
    refine congrArg (bnd _) ?_
    funext x11 h10
    by_cases hx : x11 = 0
    · rw [if_pos hx, if_pos hx]; rfl
    · rw [if_neg hx, if_neg hx]
      refine congrArg (bnd _) ?_
      funext x13 h12
      by_cases hy : x13 = 0
      · rw [if_pos hy, if_pos hy]; rfl
      · rw [if_neg hy, if_neg hy, ck_p (show ib 1 81 = true from rfl), lt_eq, jn_eq, if_pos y]; rfl
  · rw [if_neg n9, if_pos y]
    dsimp only
    rw [if_neg n8]
    refine congrArg (bnd _) ?_
    funext _ h8
    refine congrArg (bnd _) ?_
    funext _ h9
    refine congrArg (bnd _) ?_
    funext x11 h10
    by_cases hx : x11 = 0
    · rw [if_pos hx, if_pos hx]; rfl
    · rw [if_neg hx, if_neg hx]
      refine congrArg (bnd _) ?_
      funext x13 h12
      by_cases hy : x13 = 0
      · rw [if_pos hy, if_pos hy]; rfl
      · rw [if_neg hy, if_neg hy, ck_p (show ib 1 81 = true from rfl), lt_eq, jn_eq, if_neg n9]; rfl
