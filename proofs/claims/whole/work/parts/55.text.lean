theorem log_no {w : Int64} {a : Int32} {h : Hp} (n8 : ¬ lg_cmp w 1920298611 = 0) (n9 : ¬ lg_cmp w 495874699108 = 0) (n10 : ¬ lg_cmp w 7102841 = 0) : fX12_logLine w a h = bnd (fX12_fails h) fun x15 h14 => ck (zk x15) (some (x15, h14)) := by
  unfold fX12_logLine
  rw [jn_eq, if_neg n8, if_neg n9, if_neg n10]
theorem log_ru {w : Int64} {a : Int32} {h : Hp} (y8 : lg_cmp w 1920298611 = 0) : fX12_logLine w a h = bnd (fX12_token h) fun _ h5 => bnd (fX12_take (nI 0) (nI 0) (nI 4) h5) fun x9 h8 => if x9 = 0 then some (0, h8) else some (1, asg 0 h8) := by
  unfold fX12_logLine
  rw [jn_eq, if_pos y8]
  dsimp only
  rw [if_pos y8]
  refine congrArg (bnd (fX12_token h)) ?_
  funext _ h5
  show bnd (fX12_take (nI 0) (nI 0) (nI 4) h5) _ = _
  refine congrArg (bnd _) ?_
  funext x9 h8
  by_cases hx : x9 = 0
  · rw [if_pos hx, if_pos hx]; rfl
  · rw [if_neg hx, if_neg hx]
    exact asg_if (i := 0) (j := 0) rfl rfl
