def fX12_logLine_l148 (l4 : Int32) (K : Hp → Option (Int32 × Hp)) (rec : Int32 → Hp → Option (Int32 × Hp)) (l5 : Int32) (h : Hp) : Option (Int32 × Hp) :=
  if (3 : Int32) ≤ l5 then (K h)
  else (if (8 : Int32) ≤ l4 then (K h)
  else (ck (ib l5 3) (
  ck (ib (((2 : Int32) + ((3 : Int32) * l4)) + l5) 81) (lt (wa h 51 0 (((2 : Int32) + ((3 : Int32) * l4)) + l5) (ra h 52 0 l5)) fun h18 =>
  lt (l5 + 1) fun x19 =>
  rec x19 h18))))
def fX12_logLine (l1 : Int64) (l3 : Int32) (h : Hp) : Option (Int32 × Hp) :=
  jn (κ := Hp → Option (Int32 × Hp)) (fun h2 => if (lg_cmp l1 1920298611) = 0 then (bnd (fX12_token h2) fun _ h3 =>
  bnd (fX12_take 0 0 4 h3) fun x5 h4 =>
  if x5 = 0 then (ck (zk 0) (some (0, h4)))
  else (if (rd h4 10 0 20) = 0 then (ck (ib 0 81) (
  ck (ib 0 81) (lt (wa h4 51 0 0 (ra h4 51 0 0)) fun h6 =>
  ck (zk 1) (some (1, h6)))))
  else (ck (ib 0 3) (
  ck (ib 0 81) (lt (wa h4 51 0 0 (ra h4 52 0 0)) fun h7 =>
  ck (zk 1) (some (1, h7)))))))
  else (bnd (fX12_full 1 8 l3 h2) fun _ h8 =>
  bnd (fX12_token h8) fun _ h9 =>
  bnd (fX12_take 1 0 4 h9) fun x11 h10 =>
  if x11 = 0 then (ck (zk 0) (some (0, h10)))
  else (bnd (fX12_take 2 0 30 h10) fun x13 h12 =>
  if x13 = 0 then (ck (zk 0) (some (0, h12)))
  else (ck (ib 1 81) (
  lt (ra h12 51 0 1) fun x14 =>
  jn (κ := Int32 → Hp → Option (Int32 × Hp)) (fun z0_14 h16 => ck (ib 0 3) (lt (wa h16 52 0 0 z0_14) fun h17 =>
  itr1 (fX12_logLine_l148 x14 (fun h20 => bnd (fX12_lesser 8 (x14 + (1 : Int32)) h20) fun x22 h21 =>
  ck (ib 1 81) (lt (wa h21 51 0 1 x22) fun h23 =>
  ck (zk 1) (some (1, h23))))) FU 0 h17)) fun k144_14 =>
  if (lg_cmp l1 495874699108) = 0 then (k144_14 1 h12)
  else (k144_14 0 h12)))))) fun k29_0 =>
  if (lg_cmp l1 1920298611) = 0 then (k29_0 h)
  else (if (lg_cmp l1 495874699108) = 0 then (k29_0 h)
  else (if (lg_cmp l1 7102841) = 0 then (k29_0 h)
  else (bnd (fX12_fails h) fun x25 h24 =>
  ck (zk x25) (some (x25, h24)))))
set_option maxHeartbeats 4000000 in
set_option maxRecDepth 100000 in
theorem sX12_logLine_l148 (g : GE) (l4 : Int32) (K : Hp → Option (Int32 × Hp)) (hK : ∀ (h : Hp), Sim cvi 1 g mX12_logLine 5 188 [(0, rv g 10 0), (4, .int l4)] [] h (K  h)) : ∀ (n : Nat) (l5 : Int32) (h : Hp), Sim cvi 1 g mX12_logLine 5 148 [(0, rv g 10 0), (4, .int l4), (5, .int l5)] [] h (itr1 (fX12_logLine_l148 l4 K) n l5 h) := by
  refine s_itr1 (fun l5 h o => Sim cvi 1 g mX12_logLine 5 148 [(0, rv g 10 0), (4, .int l4), (5, .int l5)] [] h o) (fun _ _ => s_none) ?_
  intro rec hrec l5 h
  unfold fX12_logLine_l148
  refine s_iload 2 dX12_logLine_148 rfl ?_
  refine s_iconst (v := 3) dX12_logLine_150 rfl ?_
  refine s_icmp_ge (tgt := 188) dX12_logLine_151 (by decide) ?_ ?_
  ·
    refine s_sub [0, 1] rfl ?_
    exact hK h
  ·
    refine s_iload 1 dX12_logLine_154 rfl ?_
    refine s_bipush (v := 8) dX12_logLine_156 rfl ?_
    refine s_icmp_ge (tgt := 188) dX12_logLine_158 (by decide) ?_ ?_
    ·
      refine s_sub [0, 1] rfl ?_
      exact hK h
    ·
      refine s_aload_n 0 dX12_logLine_161 rfl rfl ?_
      refine s_getr (s0 := 0) dX12_logLine_162 fl_X12_35 ?_
      refine s_iconst (v := 2) dX12_logLine_165 rfl ?_
      refine s_iconst (v := 3) dX12_logLine_166 rfl ?_
      refine s_iload 1 dX12_logLine_167 rfl ?_
      refine s_imul dX12_logLine_169 ?_
      refine s_iadd dX12_logLine_170 ?_
      refine s_iload 2 dX12_logLine_171 rfl ?_
      refine s_iadd dX12_logLine_173 ?_
      refine s_aload_n 0 dX12_logLine_174 rfl rfl ?_
      refine s_getr (s0 := 0) dX12_logLine_175 fl_X12_38 ?_
      refine s_iload 2 dX12_logLine_178 rfl ?_
      refine s_iald (s0 := 0) ka_52 dX12_logLine_180 ?_
      refine s_iast (s0 := 0) ka_51 dX12_logLine_181 (fun h18 => ?_)
      refine s_iincl 2 (w := 1) (fun x19 => [(5, .int x19), (0, rv g 10 0), (4, .int l4)]) dX12_logLine_182 rfl rfl (by decide) (fun _ => rfl) (fun x19 => ?_)
      refine s_goto (tgt := 148) dX12_logLine_185 (by decide) ?_
      refine s_sub [1, 2, 0] rfl ?_
      exact hrec x19 h18
set_option maxHeartbeats 4000000 in
set_option maxRecDepth 100000 in
theorem cX12_logLine_ok (g : GE) (l1 : Int64) (l3 : Int32) (h : Hp) : Con cvi 1 g mX12_logLine 5 [rv g 10 0, .long l1, .int l3] h (fX12_logLine l1 l3 h) := by
  refine Con.of (by decide +kernel) (Nat.le_of_ble_eq_true rfl) ?_
  show Sim cvi 1 g mX12_logLine 5 0 [(0, rv g 10 0), (1, .long l1), (3, .int l3)] [] h _
  unfold fX12_logLine
  refine s_lload_n 1 dX12_logLine_0 rfl rfl ?_
  refine s_ldc2 dX12_logLine_1 w_6_212 ?_
  refine s_lcmp dX12_logLine_4 ?_
  refine s_jn (fun (k29_0 : Hp → Option (Int32 × Hp)) => ∀ (h2 : Hp), Sim cvi 1 g mX12_logLine 5 29 [(0, rv g 10 0), (1, .long l1), (3, .int l3)] [] h2 (k29_0 h2)) (fun h2 => ?_) (fun k29_0 Hk29_0 => ?_)
  ·
    refine s_lload_n 1 dX12_logLine_29 rfl rfl ?_
    refine s_ldc2 dX12_logLine_30 w_6_212 ?_
    refine s_lcmp dX12_logLine_33 ?_
    refine s_if_ne (tgt := 83) dX12_logLine_34 (by decide) ?_ ?_
    ·
      refine s_aload_n 0 dX12_logLine_37 rfl rfl ?_
      refine s_callVv (s0 := 0) (As := []) (rest := []) (cX12_token_ok g h2) vl_X12_152 rfl (Nat.le_of_ble_eq_true rfl) (Nat.le_of_ble_eq_true rfl) dX12_logLine_38 rfl (fun h3 => ?_)
      refine s_aload_n 0 dX12_logLine_41 rfl rfl ?_
      refine s_iconst (v := 0) dX12_logLine_42 rfl ?_
      refine s_iconst (v := 0) dX12_logLine_43 rfl ?_
      refine s_iconst (v := 4) dX12_logLine_44 rfl ?_
      refine s_callVi (s0 := 0) (As := [.int 0, .int 0, .int 4]) (rest := []) (cX12_take_ok g 0 0 4 h3) vl_X12_159 rfl (Nat.le_of_ble_eq_true rfl) (Nat.le_of_ble_eq_true rfl) dX12_logLine_45 rfl (fun x5 h4 => ?_)
      refine s_if_ne (tgt := 53) dX12_logLine_48 (by decide) ?_ ?_
      ·
        refine s_iconst (v := 0) dX12_logLine_51 rfl ?_
        exact s_zret rfl dX12_logLine_52
      ·
        refine s_aload_n 0 dX12_logLine_53 rfl rfl ?_
        refine s_getr (s0 := 0) dX12_logLine_54 fl_X12_35 ?_
        refine s_iconst (v := 0) dX12_logLine_57 rfl ?_
        refine s_aload_n 0 dX12_logLine_58 rfl rfl ?_
        refine s_geti (s0 := 0) dX12_logLine_59 fl_X12_148 ?_
        refine s_if_eq (tgt := 74) dX12_logLine_62 (by decide) ?_ ?_
        ·
          refine s_aload_n 0 dX12_logLine_74 rfl rfl ?_
          refine s_getr (s0 := 0) dX12_logLine_75 fl_X12_35 ?_
          refine s_iconst (v := 0) dX12_logLine_78 rfl ?_
          refine s_iald (s0 := 0) ka_51 dX12_logLine_79 ?_
          refine s_iast (s0 := 0) ka_51 dX12_logLine_80 (fun h6 => ?_)
          refine s_iconst (v := 1) dX12_logLine_81 rfl ?_
          exact s_zret rfl dX12_logLine_82
        ·
          refine s_aload_n 0 dX12_logLine_65 rfl rfl ?_
          refine s_getr (s0 := 0) dX12_logLine_66 fl_X12_38 ?_
          refine s_iconst (v := 0) dX12_logLine_69 rfl ?_
          refine s_iald (s0 := 0) ka_52 dX12_logLine_70 ?_
          refine s_goto (tgt := 80) dX12_logLine_71 (by decide) ?_
          refine s_iast (s0 := 0) ka_51 dX12_logLine_80 (fun h7 => ?_)
          refine s_iconst (v := 1) dX12_logLine_81 rfl ?_
          exact s_zret rfl dX12_logLine_82
    ·
      refine s_aload_n 0 dX12_logLine_83 rfl rfl ?_
      refine s_iconst (v := 1) dX12_logLine_84 rfl ?_
      refine s_bipush (v := 8) dX12_logLine_85 rfl ?_
      refine s_iload_n 2 dX12_logLine_87 rfl rfl ?_
      refine s_callVv (s0 := 0) (As := [.int 1, .int 8, .int l3]) (rest := []) (cX12_full_ok g 1 8 l3 h2) vl_X12_155 rfl (Nat.le_of_ble_eq_true rfl) (Nat.le_of_ble_eq_true rfl) dX12_logLine_88 rfl (fun h8 => ?_)
      refine s_aload_n 0 dX12_logLine_91 rfl rfl ?_
      refine s_callVv (s0 := 0) (As := []) (rest := []) (cX12_token_ok g h8) vl_X12_152 rfl (Nat.le_of_ble_eq_true rfl) (Nat.le_of_ble_eq_true rfl) dX12_logLine_92 rfl (fun h9 => ?_)
      refine s_aload_n 0 dX12_logLine_95 rfl rfl ?_
      refine s_iconst (v := 1) dX12_logLine_96 rfl ?_
      refine s_iconst (v := 0) dX12_logLine_97 rfl ?_
      refine s_iconst (v := 4) dX12_logLine_98 rfl ?_
      refine s_callVi (s0 := 0) (As := [.int 1, .int 0, .int 4]) (rest := []) (cX12_take_ok g 1 0 4 h9) vl_X12_159 rfl (Nat.le_of_ble_eq_true rfl) (Nat.le_of_ble_eq_true rfl) dX12_logLine_99 rfl (fun x11 h10 => ?_)
      refine s_if_eq (tgt := 116) dX12_logLine_102 (by decide) ?_ ?_
      ·
        refine s_iconst (v := 0) dX12_logLine_116 rfl ?_
        exact s_zret rfl dX12_logLine_117
      ·
        refine s_aload_n 0 dX12_logLine_105 rfl rfl ?_
        refine s_iconst (v := 2) dX12_logLine_106 rfl ?_
        refine s_iconst (v := 0) dX12_logLine_107 rfl ?_
        refine s_bipush (v := 30) dX12_logLine_108 rfl ?_
        refine s_callVi (s0 := 0) (As := [.int 2, .int 0, .int 30]) (rest := []) (cX12_take_ok g 2 0 30 h10) vl_X12_159 rfl (Nat.le_of_ble_eq_true rfl) (Nat.le_of_ble_eq_true rfl) dX12_logLine_110 rfl (fun x13 h12 => ?_)
        refine s_if_ne (tgt := 118) dX12_logLine_113 (by decide) ?_ ?_
        ·
          refine s_iconst (v := 0) dX12_logLine_116 rfl ?_
          exact s_zret rfl dX12_logLine_117
        ·
          refine s_aload_n 0 dX12_logLine_118 rfl rfl ?_
          refine s_getr (s0 := 0) dX12_logLine_119 fl_X12_35 ?_
          refine s_iconst (v := 1) dX12_logLine_122 rfl ?_
          refine s_iald (s0 := 0) ka_51 dX12_logLine_123 ?_
          refine s_leti (fun x14 => ?_)
          refine s_istore (ls' := [(4, .int x14), (0, rv g 10 0), (1, .long l1), (3, .int l3)]) dX12_logLine_124 (by decide) rfl ?_
          refine s_aload_n 1 dX12_logLine_126 rfl rfl ?_
          refine s_getr (s0 := 0) dX12_logLine_127 fl_X12_38 ?_
          refine s_iconst (v := 0) dX12_logLine_130 rfl ?_
          refine s_lload_n 2 dX12_logLine_131 rfl rfl ?_
          refine s_ldc2 dX12_logLine_132 w_6_213 ?_
          refine s_lcmp dX12_logLine_135 ?_
          refine s_jn (fun (k144_14 : Int32 → Hp → Option (Int32 × Hp)) => ∀ (z0_14 : Int32) (h16 : Hp), Sim cvi 1 g mX12_logLine 5 144 [(0, rv g 10 0), (4, .int x14)] [.int z0_14, .int 0, rv g 52 0] h16 (k144_14 z0_14 h16)) (fun z0_14 h16 => ?_) (fun k144_14 Hk144_14 => ?_)
          ·
            refine s_iast (s0 := 0) ka_52 dX12_logLine_144 (fun h17 => ?_)
            refine s_iconst (v := 0) dX12_logLine_145 rfl ?_
            refine s_istore (ls' := [(5, .int 0), (0, rv g 10 0), (4, .int x14)]) dX12_logLine_146 (by decide) rfl ?_
            refine s_sub (ls' := [(0, rv g 10 0), (4, .int x14), (5, .int 0)]) [1, 2, 0] rfl ?_
            refine sX12_logLine_l148 g x14 _ (fun h20 => ?_) FU 0 h17
            refine s_aload_n 0 dX12_logLine_188 rfl rfl ?_
            refine s_getr (s0 := 0) dX12_logLine_189 fl_X12_35 ?_
            refine s_iconst (v := 1) dX12_logLine_192 rfl ?_
            refine s_bipush (v := 8) dX12_logLine_193 rfl ?_
            refine s_iload 1 dX12_logLine_195 rfl ?_
            refine s_iconst (v := 1) dX12_logLine_197 rfl ?_
            refine s_iadd dX12_logLine_198 ?_
            refine s_callSi (As := [.int 8, .int (x14 + (1 : Int32))]) (rest := [.int 1, rv g 51 0]) (cX12_lesser_ok g 8 (x14 + (1 : Int32)) h20) sl_X12_162 rfl (Nat.le_of_ble_eq_true rfl) (Nat.le_of_ble_eq_true rfl) dX12_logLine_199 rfl (fun x22 h21 => ?_)
            refine s_iast (s0 := 0) ka_51 dX12_logLine_202 (fun h23 => ?_)
            refine s_iconst (v := 1) dX12_logLine_203 rfl ?_
            exact s_zret rfl dX12_logLine_204
          refine s_if_ne (tgt := 143) dX12_logLine_136 (by decide) ?_ ?_
          ·
            refine s_iconst (v := 1) dX12_logLine_139 rfl ?_
            refine s_goto (tgt := 144) dX12_logLine_140 (by decide) ?_
            refine s_sub [1, 0] rfl ?_
            exact Hk144_14 1 h12
          ·
            refine s_iconst (v := 0) dX12_logLine_143 rfl ?_
            refine s_sub [1, 0] rfl ?_
            exact Hk144_14 0 h12
  refine s_if_eq (tgt := 29) dX12_logLine_5 (by decide) ?_ ?_
  ·
    exact Hk29_0 h
  ·
    refine s_lload_n 1 dX12_logLine_8 rfl rfl ?_
    refine s_ldc2 dX12_logLine_9 w_6_213 ?_
    refine s_lcmp dX12_logLine_12 ?_
    refine s_if_eq (tgt := 29) dX12_logLine_13 (by decide) ?_ ?_
    ·
      exact Hk29_0 h
    ·
      refine s_lload_n 1 dX12_logLine_16 rfl rfl ?_
      refine s_ldc2 dX12_logLine_17 w_6_214 ?_
      refine s_lcmp dX12_logLine_20 ?_
      refine s_if_eq (tgt := 29) dX12_logLine_21 (by decide) ?_ ?_
      ·
        exact Hk29_0 h
      ·
        refine s_aload_n 0 dX12_logLine_24 rfl rfl ?_
        refine s_callVi (s0 := 0) (As := []) (rest := []) (cX12_fails_ok g h) vl_X12_140 rfl (Nat.le_of_ble_eq_true rfl) (Nat.le_of_ble_eq_true rfl) dX12_logLine_25 rfl (fun x25 h24 => ?_)
        exact s_zret rfl dX12_logLine_28
def fX12_deedBy (l1 : Int64) (h : Hp) : Option (Int32 × Hp) :=
  if (lg_cmp l1 2002872692) = 0 then (some (0, h))
  else (if (lg_cmp l1 7501166) = 0 then (some (1, h))
  else (if (lg_cmp l1 7562612) = 0 then (some (2, h))
  else (if (lg_cmp l1 1735750516) = 0 then (some (3, h))
  else (if (lg_cmp l1 7301484) = 0 then (some (4, h))
  else (some ((-1), h))))))
set_option maxHeartbeats 4000000 in
set_option maxRecDepth 100000 in
theorem cX12_deedBy_ok (g : GE) (l1 : Int64) (h : Hp) : Con cvi 1 g mX12_deedBy 2 [rv g 10 0, .long l1] h (fX12_deedBy l1 h) := by
  refine Con.of (by decide +kernel) (Nat.le_of_ble_eq_true rfl) ?_
  show Sim cvi 1 g mX12_deedBy 2 0 [(0, rv g 10 0), (1, .long l1)] [] h _
  unfold fX12_deedBy
  refine s_lload_n 1 dX12_deedBy_0 rfl rfl ?_
  refine s_ldc2 dX12_deedBy_1 w_6_203 ?_
  refine s_lcmp dX12_deedBy_4 ?_
  refine s_if_ne (tgt := 12) dX12_deedBy_5 (by decide) ?_ ?_
  ·
    refine s_iconst (v := 0) dX12_deedBy_8 rfl ?_
    refine s_goto (tgt := 61) dX12_deedBy_9 (by decide) ?_
    exact s_iret rfl dX12_deedBy_61
  ·
    refine s_lload_n 1 dX12_deedBy_12 rfl rfl ?_
    refine s_ldc2 dX12_deedBy_13 w_6_204 ?_
    refine s_lcmp dX12_deedBy_16 ?_
    refine s_if_ne (tgt := 24) dX12_deedBy_17 (by decide) ?_ ?_
    ·
      refine s_iconst (v := 1) dX12_deedBy_20 rfl ?_
      refine s_goto (tgt := 61) dX12_deedBy_21 (by decide) ?_
      exact s_iret rfl dX12_deedBy_61
    ·
      refine s_lload_n 1 dX12_deedBy_24 rfl rfl ?_
      refine s_ldc2 dX12_deedBy_25 w_6_205 ?_
      refine s_lcmp dX12_deedBy_28 ?_
      refine s_if_ne (tgt := 36) dX12_deedBy_29 (by decide) ?_ ?_
      ·
        refine s_iconst (v := 2) dX12_deedBy_32 rfl ?_
        refine s_goto (tgt := 61) dX12_deedBy_33 (by decide) ?_
        exact s_iret rfl dX12_deedBy_61
      ·
        refine s_lload_n 1 dX12_deedBy_36 rfl rfl ?_
        refine s_ldc2 dX12_deedBy_37 w_6_206 ?_
        refine s_lcmp dX12_deedBy_40 ?_
        refine s_if_ne (tgt := 48) dX12_deedBy_41 (by decide) ?_ ?_
        ·
          refine s_iconst (v := 3) dX12_deedBy_44 rfl ?_
          refine s_goto (tgt := 61) dX12_deedBy_45 (by decide) ?_
          exact s_iret rfl dX12_deedBy_61
        ·
          refine s_lload_n 1 dX12_deedBy_48 rfl rfl ?_
          refine s_ldc2 dX12_deedBy_49 w_6_207 ?_
          refine s_lcmp dX12_deedBy_52 ?_
          refine s_if_ne (tgt := 60) dX12_deedBy_53 (by decide) ?_ ?_
          ·
            refine s_iconst (v := 4) dX12_deedBy_56 rfl ?_
            refine s_goto (tgt := 61) dX12_deedBy_57 (by decide) ?_
            exact s_iret rfl dX12_deedBy_61
          ·
            refine s_iconst (v := (-1)) dX12_deedBy_60 rfl ?_
            exact s_iret rfl dX12_deedBy_61
def fX12_showLine (l1 : Int64) (l3 : Int32) (h : Hp) : Option (Int32 × Hp) :=
  bnd (fX12_deedBy l1 h) fun x2 h1 =>
  if x2 = (-1) then (bnd (fX12_fails h1) fun x4 h3 =>
  ck (zk x4) (some (x4, h3)))
  else (bnd (fX12_full 0 40 l3 h1) fun _ h5 =>
  bnd (fX12_token h5) fun _ h6 =>
  ck (ib 1 3) (lt (wa h6 52 0 1 (-1)) fun h7 =>
  jn (κ := Hp → Option (Int32 × Hp)) (fun h9 => ck (ib 0 81) (
  lt (ra h9 51 0 0) fun x10 =>
  jn (κ := Hp → Option (Int32 × Hp)) (fun h12 => bnd (fX12_lesser 40 (x10 + (1 : Int32)) h12) fun x14 h13 =>
  ck (ib 0 81) (lt (wa h13 51 0 0 x14) fun h15 =>
  ck (zk 1) (some (1, h15)))) fun k99_10 =>
  if (40 : Int32) ≤ x10 then (k99_10 h9)
  else (ck (ib ((1 : Int32) + ((2 : Int32) * x10)) 81) (lt (wa h9 51 0 ((1 : Int32) + ((2 : Int32) * x10)) x2) fun h16 =>
  ck (ib 1 3) (
  ck (ib ((2 : Int32) + ((2 : Int32) * x10)) 81) (lt (wa h16 51 0 ((2 : Int32) + ((2 : Int32) * x10)) (ra h16 52 0 1)) fun h17 =>
  k99_10 h17)))))) fun k54_7 =>
  if x2 = 0 then (k54_7 h7)
  else (bnd (fX12_take 1 0 4 h7) fun x19 h18 =>
  if x19 = 0 then (ck (zk 0) (some (0, h18)))
  else (k54_7 h18))))
set_option maxHeartbeats 4000000 in
set_option maxRecDepth 100000 in
theorem cX12_showLine_ok (g : GE) (l1 : Int64) (l3 : Int32) (h : Hp) : Con cvi 1 g mX12_showLine 5 [rv g 10 0, .long l1, .int l3] h (fX12_showLine l1 l3 h) := by
  refine Con.of (by decide +kernel) (Nat.le_of_ble_eq_true rfl) ?_
  show Sim cvi 1 g mX12_showLine 5 0 [(0, rv g 10 0), (1, .long l1), (3, .int l3)] [] h _
  unfold fX12_showLine
  refine s_aload_n 0 dX12_showLine_0 rfl rfl ?_
  refine s_lload_n 1 dX12_showLine_1 rfl rfl ?_
  refine s_callVi (s0 := 0) (As := [.long l1]) (rest := []) (cX12_deedBy_ok g l1 h) vl_X12_186 rfl (Nat.le_of_ble_eq_true rfl) (Nat.le_of_ble_eq_true rfl) dX12_showLine_2 rfl (fun x2 h1 => ?_)
  refine s_istore (ls' := [(4, .int x2), (0, rv g 10 0), (1, .long l1), (3, .int l3)]) dX12_showLine_5 (by decide) rfl ?_
  refine s_iload 0 dX12_showLine_7 rfl ?_
  refine s_iconst (v := (-1)) dX12_showLine_9 rfl ?_
  refine s_icmp_ne (tgt := 18) dX12_showLine_10 (by decide) ?_ ?_
  ·
    refine s_aload_n 1 dX12_showLine_13 rfl rfl ?_
    refine s_callVi (s0 := 0) (As := []) (rest := []) (cX12_fails_ok g h1) vl_X12_140 rfl (Nat.le_of_ble_eq_true rfl) (Nat.le_of_ble_eq_true rfl) dX12_showLine_14 rfl (fun x4 h3 => ?_)
    exact s_zret rfl dX12_showLine_17
  ·
    refine s_aload_n 1 dX12_showLine_18 rfl rfl ?_
    refine s_iconst (v := 0) dX12_showLine_19 rfl ?_
    refine s_bipush (v := 40) dX12_showLine_20 rfl ?_
    refine s_iload_n 3 dX12_showLine_22 rfl rfl ?_
    refine s_callVv (s0 := 0) (As := [.int 0, .int 40, .int l3]) (rest := []) (cX12_full_ok g 0 40 l3 h1) vl_X12_155 rfl (Nat.le_of_ble_eq_true rfl) (Nat.le_of_ble_eq_true rfl) dX12_showLine_23 rfl (fun h5 => ?_)
    refine s_aload_n 1 dX12_showLine_26 rfl rfl ?_
    refine s_callVv (s0 := 0) (As := []) (rest := []) (cX12_token_ok g h5) vl_X12_152 rfl (Nat.le_of_ble_eq_true rfl) (Nat.le_of_ble_eq_true rfl) dX12_showLine_27 rfl (fun h6 => ?_)
    refine s_aload_n 1 dX12_showLine_30 rfl rfl ?_
    refine s_getr (s0 := 0) dX12_showLine_31 fl_X12_38 ?_
    refine s_iconst (v := 1) dX12_showLine_34 rfl ?_
    refine s_iconst (v := (-1)) dX12_showLine_35 rfl ?_
    refine s_iast (s0 := 0) ka_52 dX12_showLine_36 (fun h7 => ?_)
    refine s_iload 0 dX12_showLine_37 rfl ?_
    refine s_jn (fun (k54_7 : Hp → Option (Int32 × Hp)) => ∀ (h9 : Hp), Sim cvi 1 g mX12_showLine 5 54 [(0, rv g 10 0), (4, .int x2)] [] h9 (k54_7 h9)) (fun h9 => ?_) (fun k54_7 Hk54_7 => ?_)
    ·
      refine s_aload_n 0 dX12_showLine_54 rfl rfl ?_
      refine s_getr (s0 := 0) dX12_showLine_55 fl_X12_35 ?_
      refine s_iconst (v := 0) dX12_showLine_58 rfl ?_
      refine s_iald (s0 := 0) ka_51 dX12_showLine_59 ?_
      refine s_leti (fun x10 => ?_)
      refine s_istore (ls' := [(5, .int x10), (0, rv g 10 0), (4, .int x2)]) dX12_showLine_60 (by decide) rfl ?_
      refine s_iload 0 dX12_showLine_62 rfl ?_
      refine s_bipush (v := 40) dX12_showLine_64 rfl ?_
      refine s_jn (fun (k99_10 : Hp → Option (Int32 × Hp)) => ∀ (h12 : Hp), Sim cvi 1 g mX12_showLine 5 99 [(0, rv g 10 0), (5, .int x10)] [] h12 (k99_10 h12)) (fun h12 => ?_) (fun k99_10 Hk99_10 => ?_)
      ·
        refine s_aload_n 0 dX12_showLine_99 rfl rfl ?_
        refine s_getr (s0 := 0) dX12_showLine_100 fl_X12_35 ?_
        refine s_iconst (v := 0) dX12_showLine_103 rfl ?_
        refine s_bipush (v := 40) dX12_showLine_104 rfl ?_
        refine s_iload 1 dX12_showLine_106 rfl ?_
        refine s_iconst (v := 1) dX12_showLine_108 rfl ?_
        refine s_iadd dX12_showLine_109 ?_
        refine s_callSi (As := [.int 40, .int (x10 + (1 : Int32))]) (rest := [.int 0, rv g 51 0]) (cX12_lesser_ok g 40 (x10 + (1 : Int32)) h12) sl_X12_162 rfl (Nat.le_of_ble_eq_true rfl) (Nat.le_of_ble_eq_true rfl) dX12_showLine_110 rfl (fun x14 h13 => ?_)
        refine s_iast (s0 := 0) ka_51 dX12_showLine_113 (fun h15 => ?_)
        refine s_iconst (v := 1) dX12_showLine_114 rfl ?_
        exact s_zret rfl dX12_showLine_115
      refine s_icmp_ge (tgt := 99) dX12_showLine_66 (by decide) ?_ ?_
      ·
        refine s_sub [1, 0] rfl ?_
        exact Hk99_10 h9
      ·
        refine s_aload_n 1 dX12_showLine_69 rfl rfl ?_
        refine s_getr (s0 := 0) dX12_showLine_70 fl_X12_35 ?_
        refine s_iconst (v := 1) dX12_showLine_73 rfl ?_
        refine s_iconst (v := 2) dX12_showLine_74 rfl ?_
        refine s_iload 0 dX12_showLine_75 rfl ?_
        refine s_imul dX12_showLine_77 ?_
        refine s_iadd dX12_showLine_78 ?_
        refine s_iload 2 dX12_showLine_79 rfl ?_
        refine s_iast (s0 := 0) ka_51 dX12_showLine_81 (fun h16 => ?_)
        refine s_aload_n 1 dX12_showLine_82 rfl rfl ?_
        refine s_getr (s0 := 0) dX12_showLine_83 fl_X12_35 ?_
        refine s_iconst (v := 2) dX12_showLine_86 rfl ?_
        refine s_iconst (v := 2) dX12_showLine_87 rfl ?_
        refine s_iload 0 dX12_showLine_88 rfl ?_
        refine s_imul dX12_showLine_90 ?_
        refine s_iadd dX12_showLine_91 ?_
        refine s_aload_n 1 dX12_showLine_92 rfl rfl ?_
        refine s_getr (s0 := 0) dX12_showLine_93 fl_X12_38 ?_
        refine s_iconst (v := 1) dX12_showLine_96 rfl ?_
        refine s_iald (s0 := 0) ka_52 dX12_showLine_97 ?_
        refine s_iast (s0 := 0) ka_51 dX12_showLine_98 (fun h17 => ?_)
        refine s_sub [1, 0] rfl ?_
        exact Hk99_10 h17
    refine s_if_eq (tgt := 54) dX12_showLine_39 (by decide) ?_ ?_
    ·
      refine s_sub [1, 0] rfl ?_
      exact Hk54_7 h7
    ·
      refine s_aload_n 1 dX12_showLine_42 rfl rfl ?_
      refine s_iconst (v := 1) dX12_showLine_43 rfl ?_
      refine s_iconst (v := 0) dX12_showLine_44 rfl ?_
      refine s_iconst (v := 4) dX12_showLine_45 rfl ?_
      refine s_callVi (s0 := 0) (As := [.int 1, .int 0, .int 4]) (rest := []) (cX12_take_ok g 1 0 4 h7) vl_X12_159 rfl (Nat.le_of_ble_eq_true rfl) (Nat.le_of_ble_eq_true rfl) dX12_showLine_46 rfl (fun x19 h18 => ?_)
      refine s_if_ne (tgt := 54) dX12_showLine_49 (by decide) ?_ ?_
      ·
        refine s_iconst (v := 0) dX12_showLine_52 rfl ?_
        exact s_zret rfl dX12_showLine_53
      ·
        refine s_sub [1, 0] rfl ?_
        exact Hk54_7 h18
def fX12_plateLine_l66 (l2 : Int32) (K : Hp → Option (Int32 × Hp)) (rec : Int32 → Hp → Option (Int32 × Hp)) (l3 : Int32) (h : Hp) : Option (Int32 × Hp) :=
  if (3 : Int32) ≤ l3 then (K h)
  else (if (5 : Int32) ≤ l2 then (K h)
  else (ck (ib l3 3) (
  ck (ib (((3 : Int32) + ((5 : Int32) * l3)) + l2) 81) (lt (wa h 51 0 (((3 : Int32) + ((5 : Int32) * l3)) + l2) (ra h 52 0 l3)) fun h12 =>
  lt (l3 + 1) fun x13 =>
  rec x13 h12))))
def fX12_plateLine (l1 : Int32) (h : Hp) : Option (Int32 × Hp) :=
  bnd (fX12_full 2 5 l1 h) fun _ h1 =>
  bnd (fX12_token h1) fun _ h2 =>
  bnd (fX12_take 0 0 9 h2) fun x4 h3 =>
  if x4 = 0 then (ck (zk 0) (some (0, h3)))
  else (bnd (fX12_take 1 1 6 h3) fun x6 h5 =>
  if x6 = 0 then (ck (zk 0) (some (0, h5)))
  else (ck (ib 1 3) (
  bnd (fX12_lesser 6 (ra h5 52 0 1) h5) fun x8 h7 =>
  bnd (fX12_take 2 1 x8 h7) fun x10 h9 =>
  if x10 = 0 then (ck (zk 0) (some (0, h9)))
  else (ck (ib 2 81) (
  lt (ra h9 51 0 2) fun x11 =>
  itr1 (fX12_plateLine_l66 x11 (fun h14 => bnd (fX12_lesser 5 (x11 + (1 : Int32)) h14) fun x16 h15 =>
  ck (ib 2 81) (lt (wa h15 51 0 2 x16) fun h17 =>
  ck (zk 1) (some (1, h17))))) FU 0 h9)))))
set_option maxHeartbeats 4000000 in
set_option maxRecDepth 100000 in
theorem sX12_plateLine_l66 (g : GE) (l2 : Int32) (K : Hp → Option (Int32 × Hp)) (hK : ∀ (h : Hp), Sim cvi 1 g mX12_plateLine 5 100 [(0, rv g 10 0), (2, .int l2)] [] h (K  h)) : ∀ (n : Nat) (l3 : Int32) (h : Hp), Sim cvi 1 g mX12_plateLine 5 66 [(0, rv g 10 0), (2, .int l2), (3, .int l3)] [] h (itr1 (fX12_plateLine_l66 l2 K) n l3 h) := by
  refine s_itr1 (fun l3 h o => Sim cvi 1 g mX12_plateLine 5 66 [(0, rv g 10 0), (2, .int l2), (3, .int l3)] [] h o) (fun _ _ => s_none) ?_
  intro rec hrec l3 h
  unfold fX12_plateLine_l66
  refine s_iload_n 2 dX12_plateLine_66 rfl rfl ?_
  refine s_iconst (v := 3) dX12_plateLine_67 rfl ?_
  refine s_icmp_ge (tgt := 100) dX12_plateLine_68 (by decide) ?_ ?_
  ·
    refine s_sub [0, 1] rfl ?_
    exact hK h
  ·
    refine s_iload_n 1 dX12_plateLine_71 rfl rfl ?_
    refine s_iconst (v := 5) dX12_plateLine_72 rfl ?_
    refine s_icmp_ge (tgt := 100) dX12_plateLine_73 (by decide) ?_ ?_
    ·
      refine s_sub [0, 1] rfl ?_
      exact hK h
    ·
      refine s_aload_n 0 dX12_plateLine_76 rfl rfl ?_
      refine s_getr (s0 := 0) dX12_plateLine_77 fl_X12_35 ?_
      refine s_iconst (v := 3) dX12_plateLine_80 rfl ?_
      refine s_iconst (v := 5) dX12_plateLine_81 rfl ?_
      refine s_iload_n 2 dX12_plateLine_82 rfl rfl ?_
      refine s_imul dX12_plateLine_83 ?_
      refine s_iadd dX12_plateLine_84 ?_
      refine s_iload_n 1 dX12_plateLine_85 rfl rfl ?_
      refine s_iadd dX12_plateLine_86 ?_
      refine s_aload_n 0 dX12_plateLine_87 rfl rfl ?_
      refine s_getr (s0 := 0) dX12_plateLine_88 fl_X12_38 ?_
      refine s_iload_n 2 dX12_plateLine_91 rfl rfl ?_
      refine s_iald (s0 := 0) ka_52 dX12_plateLine_92 ?_
      refine s_iast (s0 := 0) ka_51 dX12_plateLine_93 (fun h12 => ?_)
      refine s_iincl 2 (w := 1) (fun x13 => [(3, .int x13), (0, rv g 10 0), (2, .int l2)]) dX12_plateLine_94 rfl rfl (by decide) (fun _ => rfl) (fun x13 => ?_)
      refine s_goto (tgt := 66) dX12_plateLine_97 (by decide) ?_
      refine s_sub [1, 2, 0] rfl ?_
      exact hrec x13 h12
set_option maxHeartbeats 4000000 in
set_option maxRecDepth 100000 in
theorem cX12_plateLine_ok (g : GE) (l1 : Int32) (h : Hp) : Con cvi 1 g mX12_plateLine 5 [rv g 10 0, .int l1] h (fX12_plateLine l1 h) := by
  refine Con.of (by decide +kernel) (Nat.le_of_ble_eq_true rfl) ?_
  show Sim cvi 1 g mX12_plateLine 5 0 [(0, rv g 10 0), (1, .int l1)] [] h _
  unfold fX12_plateLine
  refine s_aload_n 0 dX12_plateLine_0 rfl rfl ?_
  refine s_iconst (v := 2) dX12_plateLine_1 rfl ?_
  refine s_iconst (v := 5) dX12_plateLine_2 rfl ?_
  refine s_iload_n 1 dX12_plateLine_3 rfl rfl ?_
  refine s_callVv (s0 := 0) (As := [.int 2, .int 5, .int l1]) (rest := []) (cX12_full_ok g 2 5 l1 h) vl_X12_155 rfl (Nat.le_of_ble_eq_true rfl) (Nat.le_of_ble_eq_true rfl) dX12_plateLine_4 rfl (fun h1 => ?_)
  refine s_aload_n 0 dX12_plateLine_7 rfl rfl ?_
  refine s_callVv (s0 := 0) (As := []) (rest := []) (cX12_token_ok g h1) vl_X12_152 rfl (Nat.le_of_ble_eq_true rfl) (Nat.le_of_ble_eq_true rfl) dX12_plateLine_8 rfl (fun h2 => ?_)
  refine s_aload_n 0 dX12_plateLine_11 rfl rfl ?_
  refine s_iconst (v := 0) dX12_plateLine_12 rfl ?_
  refine s_iconst (v := 0) dX12_plateLine_13 rfl ?_
  refine s_bipush (v := 9) dX12_plateLine_14 rfl ?_
  refine s_callVi (s0 := 0) (As := [.int 0, .int 0, .int 9]) (rest := []) (cX12_take_ok g 0 0 9 h2) vl_X12_159 rfl (Nat.le_of_ble_eq_true rfl) (Nat.le_of_ble_eq_true rfl) dX12_plateLine_16 rfl (fun x4 h3 => ?_)
  refine s_if_eq (tgt := 33) dX12_plateLine_19 (by decide) ?_ ?_
  ·
    refine s_iconst (v := 0) dX12_plateLine_33 rfl ?_
    exact s_zret rfl dX12_plateLine_34
  ·
    refine s_aload_n 0 dX12_plateLine_22 rfl rfl ?_
    refine s_iconst (v := 1) dX12_plateLine_23 rfl ?_
    refine s_iconst (v := 1) dX12_plateLine_24 rfl ?_
    refine s_bipush (v := 6) dX12_plateLine_25 rfl ?_
    refine s_callVi (s0 := 0) (As := [.int 1, .int 1, .int 6]) (rest := []) (cX12_take_ok g 1 1 6 h3) vl_X12_159 rfl (Nat.le_of_ble_eq_true rfl) (Nat.le_of_ble_eq_true rfl) dX12_plateLine_27 rfl (fun x6 h5 => ?_)
    refine s_if_ne (tgt := 35) dX12_plateLine_30 (by decide) ?_ ?_
    ·
      refine s_iconst (v := 0) dX12_plateLine_33 rfl ?_
      exact s_zret rfl dX12_plateLine_34
    ·
      refine s_aload_n 0 dX12_plateLine_35 rfl rfl ?_
      refine s_iconst (v := 2) dX12_plateLine_36 rfl ?_
      refine s_iconst (v := 1) dX12_plateLine_37 rfl ?_
      refine s_bipush (v := 6) dX12_plateLine_38 rfl ?_
      refine s_aload_n 0 dX12_plateLine_40 rfl rfl ?_
      refine s_getr (s0 := 0) dX12_plateLine_41 fl_X12_38 ?_
      refine s_iconst (v := 1) dX12_plateLine_44 rfl ?_
      refine s_iald (s0 := 0) ka_52 dX12_plateLine_45 ?_
      refine s_callSi (As := [.int 6, .int (ra h5 52 0 1)]) (rest := [.int 1, .int 2, rv g 10 0]) (cX12_lesser_ok g 6 (ra h5 52 0 1) h5) sl_X12_162 rfl (Nat.le_of_ble_eq_true rfl) (Nat.le_of_ble_eq_true rfl) dX12_plateLine_46 rfl (fun x8 h7 => ?_)
      refine s_callVi (s0 := 0) (As := [.int 2, .int 1, .int x8]) (rest := []) (cX12_take_ok g 2 1 x8 h7) vl_X12_159 rfl (Nat.le_of_ble_eq_true rfl) (Nat.le_of_ble_eq_true rfl) dX12_plateLine_49 rfl (fun x10 h9 => ?_)
      refine s_if_ne (tgt := 57) dX12_plateLine_52 (by decide) ?_ ?_
      ·
        refine s_iconst (v := 0) dX12_plateLine_55 rfl ?_
        exact s_zret rfl dX12_plateLine_56
      ·
        refine s_aload_n 0 dX12_plateLine_57 rfl rfl ?_
        refine s_getr (s0 := 0) dX12_plateLine_58 fl_X12_35 ?_
        refine s_iconst (v := 2) dX12_plateLine_61 rfl ?_
        refine s_iald (s0 := 0) ka_51 dX12_plateLine_62 ?_
        refine s_leti (fun x11 => ?_)
        refine s_istore_n (ls' := [(2, .int x11), (0, rv g 10 0), (1, .int l1)]) dX12_plateLine_63 rfl (by decide) rfl ?_
        refine s_iconst (v := 0) dX12_plateLine_64 rfl ?_
        refine s_istore_n (ls' := [(3, .int 0), (2, .int x11), (0, rv g 10 0), (1, .int l1)]) dX12_plateLine_65 rfl (by decide) rfl ?_
        refine s_sub (ls' := [(0, rv g 10 0), (2, .int x11), (3, .int 0)]) [2, 1, 0] rfl ?_
        refine sX12_plateLine_l66 g x11 _ (fun h14 => ?_) FU 0 h9
        refine s_aload_n 0 dX12_plateLine_100 rfl rfl ?_
        refine s_getr (s0 := 0) dX12_plateLine_101 fl_X12_35 ?_
        refine s_iconst (v := 2) dX12_plateLine_104 rfl ?_
        refine s_iconst (v := 5) dX12_plateLine_105 rfl ?_
        refine s_iload_n 1 dX12_plateLine_106 rfl rfl ?_
        refine s_iconst (v := 1) dX12_plateLine_107 rfl ?_
        refine s_iadd dX12_plateLine_108 ?_
        refine s_callSi (As := [.int 5, .int (x11 + (1 : Int32))]) (rest := [.int 2, rv g 51 0]) (cX12_lesser_ok g 5 (x11 + (1 : Int32)) h14) sl_X12_162 rfl (Nat.le_of_ble_eq_true rfl) (Nat.le_of_ble_eq_true rfl) dX12_plateLine_109 rfl (fun x16 h15 => ?_)
        refine s_iast (s0 := 0) ka_51 dX12_plateLine_112 (fun h17 => ?_)
        refine s_iconst (v := 1) dX12_plateLine_113 rfl ?_
        exact s_zret rfl dX12_plateLine_114
def fX12_stageLine (l1 : Int64) (l3 : Int32) (h : Hp) : Option (Int32 × Hp) :=
  if (lg_cmp l1 482854663269) = 0 then (bnd (fX12_plateLine l3 h) fun x2 h1 =>
  ck (zk x2) (some (x2, h1)))
  else (jn (κ := Hp → Option (Int32 × Hp)) (fun h4 => bnd (fX12_token h4) fun _ h5 =>
  jn (κ := Int32 → Hp → Option (Int32 × Hp)) (fun z0_5 h7 => bnd (fX12_take 0 z0_5 9 h7) fun x9 h8 =>
  if x9 = 0 then (ck (zk 0) (some (0, h8)))
  else (jn (κ := Int32 → Hp → Option (Int32 × Hp)) (fun z0_9 h11 => if (rd h11 10 0 20) = 0 then (ck (ib z0_9 81) (
  ck (ib z0_9 81) (lt (wa h11 51 0 z0_9 (ra h11 51 0 z0_9)) fun h12 =>
  ck (zk 1) (some (1, h12)))))
  else (ck (ib 0 3) (
  ck (ib z0_9 81) (lt (wa h11 51 0 z0_9 (ra h11 52 0 0)) fun h13 =>
  ck (zk 1) (some (1, h13)))))) fun k77_9 =>
  if (lg_cmp l1 495806932324) = 0 then (k77_9 0 h8)
  else (k77_9 1 h8))) fun k54_5 =>
  if (lg_cmp l1 495806932324) = 0 then (k54_5 1 h5)
  else (k54_5 0 h5)) fun k35_2 =>
  if (lg_cmp l1 495806932324) = 0 then (k35_2 h)
  else (if (lg_cmp l1 495873782388) = 0 then (k35_2 h)
  else (bnd (fX12_fails h) fun x15 h14 =>
  ck (zk x15) (some (x15, h14)))))
set_option maxHeartbeats 4000000 in
set_option maxRecDepth 100000 in
theorem cX12_stageLine_ok (g : GE) (l1 : Int64) (l3 : Int32) (h : Hp) : Con cvi 1 g mX12_stageLine 6 [rv g 10 0, .long l1, .int l3] h (fX12_stageLine l1 l3 h) := by
  refine Con.of (by decide +kernel) (Nat.le_of_ble_eq_true rfl) ?_
  show Sim cvi 1 g mX12_stageLine 6 0 [(0, rv g 10 0), (1, .long l1), (3, .int l3)] [] h _
  unfold fX12_stageLine
  refine s_lload_n 1 dX12_stageLine_0 rfl rfl ?_
  refine s_ldc2 dX12_stageLine_1 w_6_169 ?_
  refine s_lcmp dX12_stageLine_4 ?_
  refine s_if_ne (tgt := 14) dX12_stageLine_5 (by decide) ?_ ?_
  ·
    refine s_aload_n 0 dX12_stageLine_8 rfl rfl ?_
    refine s_iload_n 2 dX12_stageLine_9 rfl rfl ?_
    refine s_callVi (s0 := 0) (As := [.int l3]) (rest := []) (cX12_plateLine_ok g l3 h) vl_X12_168 rfl (Nat.le_of_ble_eq_true rfl) (Nat.le_of_ble_eq_true rfl) dX12_stageLine_10 rfl (fun x2 h1 => ?_)
    exact s_zret rfl dX12_stageLine_13
  ·
    refine s_lload_n 1 dX12_stageLine_14 rfl rfl ?_
    refine s_ldc2 dX12_stageLine_15 w_6_193 ?_
    refine s_lcmp dX12_stageLine_18 ?_
    refine s_jn (fun (k35_2 : Hp → Option (Int32 × Hp)) => ∀ (h4 : Hp), Sim cvi 1 g mX12_stageLine 6 35 [(0, rv g 10 0), (1, .long l1)] [] h4 (k35_2 h4)) (fun h4 => ?_) (fun k35_2 Hk35_2 => ?_)
    ·
      refine s_aload_n 0 dX12_stageLine_35 rfl rfl ?_
      refine s_callVv (s0 := 0) (As := []) (rest := []) (cX12_token_ok g h4) vl_X12_152 rfl (Nat.le_of_ble_eq_true rfl) (Nat.le_of_ble_eq_true rfl) dX12_stageLine_36 rfl (fun h5 => ?_)
      refine s_aload_n 0 dX12_stageLine_39 rfl rfl ?_
      refine s_iconst (v := 0) dX12_stageLine_40 rfl ?_
      refine s_lload_n 1 dX12_stageLine_41 rfl rfl ?_
      refine s_ldc2 dX12_stageLine_42 w_6_193 ?_
      refine s_lcmp dX12_stageLine_45 ?_
      refine s_jn (fun (k54_5 : Int32 → Hp → Option (Int32 × Hp)) => ∀ (z0_5 : Int32) (h7 : Hp), Sim cvi 1 g mX12_stageLine 6 54 [(0, rv g 10 0), (1, .long l1)] [.int z0_5, .int 0, rv g 10 0] h7 (k54_5 z0_5 h7)) (fun z0_5 h7 => ?_) (fun k54_5 Hk54_5 => ?_)
      ·
        refine s_bipush (v := 9) dX12_stageLine_54 rfl ?_
        refine s_callVi (s0 := 0) (As := [.int 0, .int z0_5, .int 9]) (rest := []) (cX12_take_ok g 0 z0_5 9 h7) vl_X12_159 rfl (Nat.le_of_ble_eq_true rfl) (Nat.le_of_ble_eq_true rfl) dX12_stageLine_56 rfl (fun x9 h8 => ?_)
        refine s_if_ne (tgt := 64) dX12_stageLine_59 (by decide) ?_ ?_
        ·
          refine s_iconst (v := 0) dX12_stageLine_62 rfl ?_
          exact s_zret rfl dX12_stageLine_63
        ·
          refine s_lload_n 1 dX12_stageLine_64 rfl rfl ?_
          refine s_ldc2 dX12_stageLine_65 w_6_193 ?_
          refine s_lcmp dX12_stageLine_68 ?_
          refine s_jn (fun (k77_9 : Int32 → Hp → Option (Int32 × Hp)) => ∀ (z0_9 : Int32) (h11 : Hp), Sim cvi 1 g mX12_stageLine 6 77 [(0, rv g 10 0)] [.int z0_9] h11 (k77_9 z0_9 h11)) (fun z0_9 h11 => ?_) (fun k77_9 Hk77_9 => ?_)
          ·
            refine s_istore (ls' := [(4, .int z0_9), (0, rv g 10 0)]) dX12_stageLine_77 (by decide) rfl ?_
            refine s_aload_n 1 dX12_stageLine_79 rfl rfl ?_
            refine s_getr (s0 := 0) dX12_stageLine_80 fl_X12_35 ?_
            refine s_iload 0 dX12_stageLine_83 rfl ?_
            refine s_aload_n 1 dX12_stageLine_85 rfl rfl ?_
            refine s_geti (s0 := 0) dX12_stageLine_86 fl_X12_148 ?_
            refine s_if_eq (tgt := 101) dX12_stageLine_89 (by decide) ?_ ?_
            ·
              refine s_aload_n 1 dX12_stageLine_101 rfl rfl ?_
              refine s_getr (s0 := 0) dX12_stageLine_102 fl_X12_35 ?_
              refine s_iload 0 dX12_stageLine_105 rfl ?_
              refine s_iald (s0 := 0) ka_51 dX12_stageLine_107 ?_
              refine s_iast (s0 := 0) ka_51 dX12_stageLine_108 (fun h12 => ?_)
              refine s_iconst (v := 1) dX12_stageLine_109 rfl ?_
              exact s_zret rfl dX12_stageLine_110
            ·
              refine s_aload_n 1 dX12_stageLine_92 rfl rfl ?_
              refine s_getr (s0 := 0) dX12_stageLine_93 fl_X12_38 ?_
              refine s_iconst (v := 0) dX12_stageLine_96 rfl ?_
              refine s_iald (s0 := 0) ka_52 dX12_stageLine_97 ?_
              refine s_goto (tgt := 108) dX12_stageLine_98 (by decide) ?_
              refine s_iast (s0 := 0) ka_51 dX12_stageLine_108 (fun h13 => ?_)
              refine s_iconst (v := 1) dX12_stageLine_109 rfl ?_
              exact s_zret rfl dX12_stageLine_110
          refine s_if_ne (tgt := 76) dX12_stageLine_69 (by decide) ?_ ?_
          ·
            refine s_iconst (v := 0) dX12_stageLine_72 rfl ?_
            refine s_goto (tgt := 77) dX12_stageLine_73 (by decide) ?_
            refine s_sub [0] rfl ?_
            exact Hk77_9 0 h8
          ·
            refine s_iconst (v := 1) dX12_stageLine_76 rfl ?_
            refine s_sub [0] rfl ?_
            exact Hk77_9 1 h8
      refine s_if_ne (tgt := 53) dX12_stageLine_46 (by decide) ?_ ?_
      ·
        refine s_iconst (v := 1) dX12_stageLine_49 rfl ?_
        refine s_goto (tgt := 54) dX12_stageLine_50 (by decide) ?_
        exact Hk54_5 1 h5
      ·
        refine s_iconst (v := 0) dX12_stageLine_53 rfl ?_
        exact Hk54_5 0 h5
    refine s_if_eq (tgt := 35) dX12_stageLine_19 (by decide) ?_ ?_
    ·
      refine s_sub [0, 1] rfl ?_
      exact Hk35_2 h
    ·
      refine s_lload_n 1 dX12_stageLine_22 rfl rfl ?_
      refine s_ldc2 dX12_stageLine_23 w_6_194 ?_
      refine s_lcmp dX12_stageLine_26 ?_
      refine s_if_eq (tgt := 35) dX12_stageLine_27 (by decide) ?_ ?_
      ·
        refine s_sub [0, 1] rfl ?_
        exact Hk35_2 h
      ·
        refine s_aload_n 0 dX12_stageLine_30 rfl rfl ?_
        refine s_callVi (s0 := 0) (As := []) (rest := []) (cX12_fails_ok g h) vl_X12_140 rfl (Nat.le_of_ble_eq_true rfl) (Nat.le_of_ble_eq_true rfl) dX12_stageLine_31 rfl (fun x15 h14 => ?_)
        exact s_zret rfl dX12_stageLine_34
def fX12_allLines_l2 (l1 : Int32) (K : Int32 → Hp → Option (Int32 × Hp)) (rec : Int32 → Hp → Option (Int32 × Hp)) (l2 : Int32) (h : Hp) : Option (Int32 × Hp) :=
  if l2 = 0 then (K l2 h)
  else (if (rd h 10 0 12) = 0 then (K l2 h)
  else (lt (rd h 10 0 11) fun x1 =>
  jn (κ := Int64 → Hp → Option (Int32 × Hp)) (fun z0_1 h3 => ck (zk 1) (lt (wr h3 10 0 20 1) fun h4 =>
  jn (κ := Int32 → Hp → Option (Int32 × Hp)) (fun z0_4 h6 => jn (κ := Int32 → Hp → Option (Int32 × Hp)) (fun y2_6 h8 => jn (κ := Hp → Option (Int32 × Hp)) (fun h10 => rec y2_6 h10) fun k103_8 =>
  if y2_6 = 0 then (k103_8 h8)
  else (bnd (fX12_token h8) fun _ h11 =>
  k103_8 h11)) fun k95_6 =>
  if z0_4 = 0 then (k95_6 z0_4 h6)
  else (if (rd h6 10 0 12) = 4 then (k95_6 z0_4 h6)
  else (bnd (fX12_fails h6) fun x13 h12 =>
  k95_6 x13 h12))) fun k77_4 =>
  if l1 = 0 then (bnd (fX12_stageLine z0_1 x1 h4) fun x15 h14 =>
  k77_4 x15 h14)
  else (if l1 = 1 then (bnd (fX12_showLine z0_1 x1 h4) fun x17 h16 =>
  k77_4 x17 h16)
  else (bnd (fX12_logLine z0_1 x1 h4) fun x19 h18 =>
  k77_4 x19 h18)))) fun k34_1 =>
  if (rd h 10 0 12) = 2 then (k34_1 (h.2) h)
  else (k34_1 0 h)))
def fX12_allLines (l1 : Int32) (h : Hp) : Option (Int32 × Hp) :=
  itr1 (fX12_allLines_l2 l1 (fun y20 h21 => ck (zk y20) (some (y20, h21)))) FU 1 h
set_option maxHeartbeats 4000000 in
set_option maxRecDepth 100000 in
theorem sX12_allLines_l2 (g : GE) (l1 : Int32) (K : Int32 → Hp → Option (Int32 × Hp)) (hK : ∀ (y2 : Int32) (h : Hp), Sim cvi 1 g mX12_allLines 7 106 [(2, .int y2)] [] h (K y2 h)) : ∀ (n : Nat) (l2 : Int32) (h : Hp), Sim cvi 1 g mX12_allLines 7 2 [(0, rv g 10 0), (1, .int l1), (2, .int l2)] [] h (itr1 (fX12_allLines_l2 l1 K) n l2 h) := by
  refine s_itr1 (fun l2 h o => Sim cvi 1 g mX12_allLines 7 2 [(0, rv g 10 0), (1, .int l1), (2, .int l2)] [] h o) (fun _ _ => s_none) ?_
  intro rec hrec l2 h
  unfold fX12_allLines_l2
  refine s_iload_n 2 dX12_allLines_2 rfl rfl ?_
  refine s_if_eq (tgt := 106) dX12_allLines_3 (by decide) ?_ ?_
  ·
    refine s_sub [2] rfl ?_
    exact hK l2 h
  ·
    refine s_aload_n 0 dX12_allLines_6 rfl rfl ?_
    refine s_geti (s0 := 0) dX12_allLines_7 fl_X12_125 ?_
    refine s_if_eq (tgt := 106) dX12_allLines_10 (by decide) ?_ ?_
    ·
      refine s_sub [2] rfl ?_
      exact hK l2 h
    ·
      refine s_aload_n 0 dX12_allLines_13 rfl rfl ?_
      refine s_geti (s0 := 0) dX12_allLines_14 fl_X12_118 ?_
      refine s_leti (fun x1 => ?_)
      refine s_istore_n (ls' := [(3, .int x1), (0, rv g 10 0), (1, .int l1), (2, .int l2)]) dX12_allLines_17 rfl (by decide) rfl ?_
      refine s_aload_n 1 dX12_allLines_18 rfl rfl ?_
      refine s_geti (s0 := 0) dX12_allLines_19 fl_X12_125 ?_
      refine s_iconst (v := 2) dX12_allLines_22 rfl ?_
      refine s_jn (fun (k34_1 : Int64 → Hp → Option (Int32 × Hp)) => ∀ (z0_1 : Int64) (h3 : Hp), Sim cvi 1 g mX12_allLines 7 34 [(0, rv g 10 0), (1, .int l1), (3, .int x1)] [.long z0_1] h3 (k34_1 z0_1 h3)) (fun z0_1 h3 => ?_) (fun k34_1 Hk34_1 => ?_)
      ·
        refine s_lstore (ls' := [(4, .long z0_1), (0, rv g 10 0), (1, .int l1), (3, .int x1)]) dX12_allLines_34 (by decide) rfl ?_
        refine s_aload_n 1 dX12_allLines_36 rfl rfl ?_
        refine s_iconst (v := 1) dX12_allLines_37 rfl ?_
        refine s_putz (s0 := 0) dX12_allLines_38 fl_X12_148 (fun h4 => ?_)
        refine s_iload_n 2 dX12_allLines_41 rfl rfl ?_
        refine s_jn (fun (k77_4 : Int32 → Hp → Option (Int32 × Hp)) => ∀ (z0_4 : Int32) (h6 : Hp), Sim cvi 1 g mX12_allLines 7 77 [(0, rv g 10 0), (1, .int l1)] [.int z0_4] h6 (k77_4 z0_4 h6)) (fun z0_4 h6 => ?_) (fun k77_4 Hk77_4 => ?_)
        ·
          refine s_istore_n (ls' := [(2, .int z0_4), (0, rv g 10 0), (1, .int l1)]) dX12_allLines_77 rfl (by decide) rfl ?_
          refine s_iload_n 0 dX12_allLines_78 rfl rfl ?_
          refine s_jn (fun (k95_6 : Int32 → Hp → Option (Int32 × Hp)) => ∀ (y2_6 : Int32) (h8 : Hp), Sim cvi 1 g mX12_allLines 7 95 [(0, rv g 10 0), (1, .int l1), (2, .int y2_6)] [] h8 (k95_6 y2_6 h8)) (fun y2_6 h8 => ?_) (fun k95_6 Hk95_6 => ?_)
          ·
            refine s_iload_n 2 dX12_allLines_95 rfl rfl ?_
            refine s_jn (fun (k103_8 : Hp → Option (Int32 × Hp)) => ∀ (h10 : Hp), Sim cvi 1 g mX12_allLines 7 103 [(0, rv g 10 0), (1, .int l1), (2, .int y2_6)] [] h10 (k103_8 h10)) (fun h10 => ?_) (fun k103_8 Hk103_8 => ?_)
            ·
              refine s_goto (tgt := 2) dX12_allLines_103 (by decide) ?_
              exact hrec y2_6 h10
            refine s_if_eq (tgt := 103) dX12_allLines_96 (by decide) ?_ ?_
            ·
              exact Hk103_8 h8
            ·
              refine s_aload_n 0 dX12_allLines_99 rfl rfl ?_
              refine s_callVv (s0 := 0) (As := []) (rest := []) (cX12_token_ok g h8) vl_X12_152 rfl (Nat.le_of_ble_eq_true rfl) (Nat.le_of_ble_eq_true rfl) dX12_allLines_100 rfl (fun h11 => ?_)
              exact Hk103_8 h11
          refine s_if_eq (tgt := 95) dX12_allLines_79 (by decide) ?_ ?_
          ·
            refine s_sub [1, 2, 0] rfl ?_
            exact Hk95_6 z0_4 h6
          ·
            refine s_aload_n 1 dX12_allLines_82 rfl rfl ?_
            refine s_geti (s0 := 0) dX12_allLines_83 fl_X12_125 ?_
            refine s_iconst (v := 4) dX12_allLines_86 rfl ?_
            refine s_icmp_eq (tgt := 95) dX12_allLines_87 (by decide) ?_ ?_
            ·
              refine s_sub [1, 2, 0] rfl ?_
              exact Hk95_6 z0_4 h6
            ·
              refine s_aload_n 1 dX12_allLines_90 rfl rfl ?_
              refine s_callVi (s0 := 0) (As := []) (rest := []) (cX12_fails_ok g h6) vl_X12_140 rfl (Nat.le_of_ble_eq_true rfl) (Nat.le_of_ble_eq_true rfl) dX12_allLines_91 rfl (fun x13 h12 => ?_)
              refine s_istore_n (ls' := [(2, .int x13), (0, rv g 10 0), (1, .int l1)]) dX12_allLines_94 rfl (by decide) rfl ?_
              refine s_sub [1, 2, 0] rfl ?_
              exact Hk95_6 x13 h12
        refine s_if_ne (tgt := 55) dX12_allLines_42 (by decide) ?_ ?_
        ·
          refine s_aload_n 1 dX12_allLines_45 rfl rfl ?_
          refine s_lload 0 dX12_allLines_46 rfl ?_
          refine s_iload_n 3 dX12_allLines_48 rfl rfl ?_
          refine s_callVi (s0 := 0) (As := [.long z0_1, .int x1]) (rest := []) (cX12_stageLine_ok g z0_1 x1 h4) vl_X12_196 rfl (Nat.le_of_ble_eq_true rfl) (Nat.le_of_ble_eq_true rfl) dX12_allLines_49 rfl (fun x15 h14 => ?_)
          refine s_goto (tgt := 77) dX12_allLines_52 (by decide) ?_
          refine s_sub [1, 2] rfl ?_
          exact Hk77_4 x15 h14
        ·
          refine s_iload_n 2 dX12_allLines_55 rfl rfl ?_
          refine s_iconst (v := 1) dX12_allLines_56 rfl ?_
          refine s_icmp_ne (tgt := 70) dX12_allLines_57 (by decide) ?_ ?_
          ·
            refine s_aload_n 1 dX12_allLines_60 rfl rfl ?_
            refine s_lload 0 dX12_allLines_61 rfl ?_
            refine s_iload_n 3 dX12_allLines_63 rfl rfl ?_
            refine s_callVi (s0 := 0) (As := [.long z0_1, .int x1]) (rest := []) (cX12_showLine_ok g z0_1 x1 h4) vl_X12_200 rfl (Nat.le_of_ble_eq_true rfl) (Nat.le_of_ble_eq_true rfl) dX12_allLines_64 rfl (fun x17 h16 => ?_)
            refine s_goto (tgt := 77) dX12_allLines_67 (by decide) ?_
            refine s_sub [1, 2] rfl ?_
            exact Hk77_4 x17 h16
          ·
            refine s_aload_n 1 dX12_allLines_70 rfl rfl ?_
            refine s_lload 0 dX12_allLines_71 rfl ?_
            refine s_iload_n 3 dX12_allLines_73 rfl rfl ?_
            refine s_callVi (s0 := 0) (As := [.long z0_1, .int x1]) (rest := []) (cX12_logLine_ok g z0_1 x1 h4) vl_X12_203 rfl (Nat.le_of_ble_eq_true rfl) (Nat.le_of_ble_eq_true rfl) dX12_allLines_74 rfl (fun x19 h18 => ?_)
            refine s_sub [1, 2] rfl ?_
            exact Hk77_4 x19 h18
      refine s_icmp_ne (tgt := 33) dX12_allLines_23 (by decide) ?_ ?_
      ·
        refine s_aload_n 1 dX12_allLines_26 rfl rfl ?_
        refine s_getl (s0 := 0) dX12_allLines_27 fl_X12_121 ?_
        refine s_goto (tgt := 34) dX12_allLines_30 (by decide) ?_
        refine s_sub [1, 2, 0] rfl ?_
        exact Hk34_1 (h.2) h
      ·
        refine s_lconst (v := 0) dX12_allLines_33 rfl ?_
        refine s_sub [1, 2, 0] rfl ?_
        exact Hk34_1 0 h
set_option maxHeartbeats 4000000 in
set_option maxRecDepth 100000 in
theorem cX12_allLines_ok (g : GE) (l1 : Int32) (h : Hp) : Con cvi 1 g mX12_allLines 7 [rv g 10 0, .int l1] h (fX12_allLines l1 h) := by
  refine Con.of (by decide +kernel) (Nat.le_of_ble_eq_true rfl) ?_
  show Sim cvi 1 g mX12_allLines 7 0 [(0, rv g 10 0), (1, .int l1)] [] h _
  unfold fX12_allLines
  refine s_iconst (v := 1) dX12_allLines_0 rfl ?_
  refine s_istore_n (ls' := [(2, .int 1), (0, rv g 10 0), (1, .int l1)]) dX12_allLines_1 rfl (by decide) rfl ?_
  refine s_sub (ls' := [(0, rv g 10 0), (1, .int l1), (2, .int 1)]) [1, 2, 0] rfl ?_
  refine sX12_allLines_l2 g l1 _ (fun y20 h21 => ?_) FU 1 h
  refine s_iload_n 0 dX12_allLines_106 rfl rfl ?_
  exact s_zret rfl dX12_allLines_107
def fX12_placeNow (h : Hp) : Option (Int32 × Hp) :=
  if (rd h 10 0 47) = 5 then (some (rd h 10 0 24, h))
  else (ck (ib (rd h 10 0 47) 5) (
  some (ra h 53 0 (rd h 10 0 47), h)))
set_option maxHeartbeats 4000000 in
set_option maxRecDepth 100000 in
theorem cX12_placeNow_ok (g : GE) (h : Hp) : Con cvi 1 g mX12_placeNow 2 [rv g 10 0] h (fX12_placeNow h) := by
  refine Con.of (by decide +kernel) (Nat.le_of_ble_eq_true rfl) ?_
  show Sim cvi 1 g mX12_placeNow 2 0 [(0, rv g 10 0)] [] h _
  unfold fX12_placeNow
  refine s_aload_n 0 dX12_placeNow_0 rfl rfl ?_
  refine s_geti (s0 := 0) dX12_placeNow_1 fl_X12_328 ?_
  refine s_iconst (v := 5) dX12_placeNow_4 rfl ?_
  refine s_icmp_ne (tgt := 15) dX12_placeNow_5 (by decide) ?_ ?_
  ·
    refine s_aload_n 0 dX12_placeNow_8 rfl rfl ?_
    refine s_geti (s0 := 0) dX12_placeNow_9 fl_X12_229 ?_
    refine s_goto (tgt := 24) dX12_placeNow_12 (by decide) ?_
    exact s_iret rfl dX12_placeNow_24
  ·
    refine s_aload_n 0 dX12_placeNow_15 rfl rfl ?_
    refine s_getr (s0 := 0) dX12_placeNow_16 fl_X12_41 ?_
    refine s_aload_n 0 dX12_placeNow_19 rfl rfl ?_
    refine s_geti (s0 := 0) dX12_placeNow_20 fl_X12_328 ?_
    refine s_iald (s0 := 0) ka_53 dX12_placeNow_23 ?_
    exact s_iret rfl dX12_placeNow_24
def fX12_beatsTo (l1 : Int32) (h : Hp) : Option (Int32 × Hp) :=
  bnd (fX12_placeNow h) fun x2 h1 =>
  ck (ib l1 5) (
  bnd (fX12_way x2 (ra h1 53 0 l1) h1) fun x4 h3 =>
  some (x4 + (1 : Int32), h3))
set_option maxHeartbeats 4000000 in
set_option maxRecDepth 100000 in
theorem cX12_beatsTo_ok (g : GE) (l1 : Int32) (h : Hp) : Con cvi 1 g mX12_beatsTo 3 [rv g 10 0, .int l1] h (fX12_beatsTo l1 h) := by
  refine Con.of (by decide +kernel) (Nat.le_of_ble_eq_true rfl) ?_
  show Sim cvi 1 g mX12_beatsTo 3 0 [(0, rv g 10 0), (1, .int l1)] [] h _
  unfold fX12_beatsTo
  refine s_aload_n 0 dX12_beatsTo_0 rfl rfl ?_
  refine s_aload_n 0 dX12_beatsTo_1 rfl rfl ?_
  refine s_callVi (s0 := 0) (As := []) (rest := [rv g 10 0]) (cX12_placeNow_ok g h) vl_X12_331 rfl (Nat.le_of_ble_eq_true rfl) (Nat.le_of_ble_eq_true rfl) dX12_beatsTo_2 rfl (fun x2 h1 => ?_)
  refine s_aload_n 0 dX12_beatsTo_5 rfl rfl ?_
  refine s_getr (s0 := 0) dX12_beatsTo_6 fl_X12_41 ?_
  refine s_iload_n 1 dX12_beatsTo_9 rfl rfl ?_
  refine s_iald (s0 := 0) ka_53 dX12_beatsTo_10 ?_
  refine s_callVi (s0 := 0) (As := [.int x2, .int (ra h1 53 0 l1)]) (rest := []) (cX12_way_ok g x2 (ra h1 53 0 l1) h1) vl_X12_283 rfl (Nat.le_of_ble_eq_true rfl) (Nat.le_of_ble_eq_true rfl) dX12_beatsTo_11 rfl (fun x4 h3 => ?_)
  refine s_iconst (v := 1) dX12_beatsTo_14 rfl ?_
  refine s_iadd dX12_beatsTo_15 ?_
  exact s_iret rfl dX12_beatsTo_16
def fX12_has (l0 : Int32) (l1 : Int32) (h : Hp) : Option (Int32 × Hp) :=
  if ((l0 >>> (l1 &&& 31)) &&& (1 : Int32)) = 1 then (ck (zk 1) (some (1, h)))
  else (ck (zk 0) (some (0, h)))
set_option maxHeartbeats 4000000 in
set_option maxRecDepth 100000 in
theorem cX12_has_ok (g : GE) (l0 : Int32) (l1 : Int32) (h : Hp) : Con cvi 1 g mX12_has 2 [.int l0, .int l1] h (fX12_has l0 l1 h) := by
  refine Con.of (by decide +kernel) (Nat.le_of_ble_eq_true rfl) ?_
  show Sim cvi 1 g mX12_has 2 0 [(0, .int l0), (1, .int l1)] [] h _
  unfold fX12_has
  refine s_iload_n 0 dX12_has_0 rfl rfl ?_
  refine s_iload_n 1 dX12_has_1 rfl rfl ?_
  refine s_ishr dX12_has_2 ?_
  refine s_iconst (v := 1) dX12_has_3 rfl ?_
  refine s_iand dX12_has_4 ?_
  refine s_iconst (v := 1) dX12_has_5 rfl ?_
  refine s_icmp_ne (tgt := 13) dX12_has_6 (by decide) ?_ ?_
  ·
    refine s_iconst (v := 1) dX12_has_9 rfl ?_
    refine s_goto (tgt := 14) dX12_has_10 (by decide) ?_
    exact s_zret rfl dX12_has_14
  ·
    refine s_iconst (v := 0) dX12_has_13 rfl ?_
    exact s_zret rfl dX12_has_14
def fX12_close_l7 (K : Int32 → Hp → Option (Int32 × Hp)) (rec : Int32 → Int32 → Hp → Option (Int32 × Hp)) (l1 l2 : Int32) (h : Hp) : Option (Int32 × Hp) :=
  if l2 < 0 then (K l1 h)
  else (bnd (fX12_has (rd h 10 0 25) l2 h) fun x3 h2 =>
  jn (κ := Int32 → Hp → Option (Int32 × Hp)) (fun z0_3 h5 => lt (((6 : Int32) * l1) + z0_3) fun x6 =>
  lt (l2 + (-1)) fun x7 =>
  rec x6 x7 h5) fun k38_3 =>
  if x3 = 0 then (k38_3 0 h2)
  else (ck (ib l2 5) (
  k38_3 ((ra h2 63 0 l2) - (1 : Int32)) h2)))
def fX12_close (h : Hp) : Option (Int32 × Hp) :=
  lt (rd h 10 0 47) fun x1 =>
  itr2 (fX12_close_l7 (fun y8 h9 => some (y8, h9))) FU x1 4 h
set_option maxHeartbeats 4000000 in
set_option maxRecDepth 100000 in
theorem sX12_close_l7 (g : GE) (K : Int32 → Hp → Option (Int32 × Hp)) (hK : ∀ (y1 : Int32) (h : Hp), Sim cvi 1 g mX12_close 3 46 [(1, .int y1)] [] h (K y1 h)) : ∀ (n : Nat) (l1 l2 : Int32) (h : Hp), Sim cvi 1 g mX12_close 3 7 [(0, rv g 10 0), (1, .int l1), (2, .int l2)] [] h (itr2 (fX12_close_l7 K) n l1 l2 h) := by
  refine s_itr2 (fun l1 l2 h o => Sim cvi 1 g mX12_close 3 7 [(0, rv g 10 0), (1, .int l1), (2, .int l2)] [] h o) (fun _ _ _ => s_none) ?_
  intro rec hrec l1 l2 h
  unfold fX12_close_l7
  refine s_iload_n 2 dX12_close_7 rfl rfl ?_
  refine s_if_lt (tgt := 46) dX12_close_8 (by decide) ?_ ?_
  ·
    refine s_sub [1] rfl ?_
    exact hK l1 h
  ·
    refine s_bipush (v := 6) dX12_close_11 rfl ?_
    refine s_iload_n 1 dX12_close_13 rfl rfl ?_
    refine s_imul dX12_close_14 ?_
    refine s_aload_n 0 dX12_close_15 rfl rfl ?_
    refine s_geti (s0 := 0) dX12_close_16 fl_X12_235 ?_
    refine s_iload_n 2 dX12_close_19 rfl rfl ?_
    refine s_callSi (As := [.int (rd h 10 0 25), .int l2]) (rest := [.int ((6 : Int32) * l1)]) (cX12_has_ok g (rd h 10 0 25) l2 h) sl_X12_92 rfl (Nat.le_of_ble_eq_true rfl) (Nat.le_of_ble_eq_true rfl) dX12_close_20 rfl (fun x3 h2 => ?_)
    refine s_jn (fun (k38_3 : Int32 → Hp → Option (Int32 × Hp)) => ∀ (z0_3 : Int32) (h5 : Hp), Sim cvi 1 g mX12_close 3 38 [(0, rv g 10 0), (2, .int l2)] [.int z0_3, .int ((6 : Int32) * l1)] h5 (k38_3 z0_3 h5)) (fun z0_3 h5 => ?_) (fun k38_3 Hk38_3 => ?_)
    ·
      refine s_iadd dX12_close_38 ?_
      refine s_leti (fun x6 => ?_)
      refine s_istore_n (ls' := [(1, .int x6), (0, rv g 10 0), (2, .int l2)]) dX12_close_39 rfl (by decide) rfl ?_
      refine s_iincl 2 (w := (-1)) (fun x7 => [(2, .int x7), (1, .int x6), (0, rv g 10 0)]) dX12_close_40 rfl rfl (by decide) (fun _ => rfl) (fun x7 => ?_)
      refine s_goto (tgt := 7) dX12_close_43 (by decide) ?_
      refine s_sub [2, 1, 0] rfl ?_
      exact hrec x6 x7 h5
    refine s_if_eq (tgt := 37) dX12_close_23 (by decide) ?_ ?_
    ·
      refine s_iconst (v := 0) dX12_close_37 rfl ?_
      refine s_sub [0, 2] rfl ?_
      exact Hk38_3 0 h2
    ·
      refine s_aload_n 0 dX12_close_26 rfl rfl ?_
      refine s_getr (s0 := 0) dX12_close_27 fl_X12_72 ?_
      refine s_iload_n 2 dX12_close_30 rfl rfl ?_
      refine s_iald (s0 := 0) ka_63 dX12_close_31 ?_
      refine s_iconst (v := 1) dX12_close_32 rfl ?_
      refine s_isub dX12_close_33 ?_
      refine s_goto (tgt := 38) dX12_close_34 (by decide) ?_
      refine s_sub [0, 2] rfl ?_
      exact Hk38_3 ((ra h2 63 0 l2) - (1 : Int32)) h2
set_option maxHeartbeats 4000000 in
set_option maxRecDepth 100000 in
theorem cX12_close_ok (g : GE) (h : Hp) : Con cvi 1 g mX12_close 3 [rv g 10 0] h (fX12_close h) := by
  refine Con.of (by decide +kernel) (Nat.le_of_ble_eq_true rfl) ?_
  show Sim cvi 1 g mX12_close 3 0 [(0, rv g 10 0)] [] h _
  unfold fX12_close
  refine s_aload_n 0 dX12_close_0 rfl rfl ?_
  refine s_geti (s0 := 0) dX12_close_1 fl_X12_328 ?_
  refine s_leti (fun x1 => ?_)
  refine s_istore_n (ls' := [(1, .int x1), (0, rv g 10 0)]) dX12_close_4 rfl (by decide) rfl ?_
  refine s_iconst (v := 4) dX12_close_5 rfl ?_
  refine s_istore_n (ls' := [(2, .int 4), (1, .int x1), (0, rv g 10 0)]) dX12_close_6 rfl (by decide) rfl ?_
  refine s_sub (ls' := [(0, rv g 10 0), (1, .int x1), (2, .int 4)]) [2, 1, 0] rfl ?_
  refine sX12_close_l7 g _ (fun y8 h9 => ?_) FU x1 4 h
  refine s_iload_n 0 dX12_close_46 rfl rfl ?_
  exact s_iret rfl dX12_close_47
def fX12_behindRun_l8 (l1 : Int32) (l2 : Int32) (K : Hp → Option (Int32 × Hp)) (rec : Int32 → Hp → Option (Int32 × Hp)) (l3 : Int32) (h : Hp) : Option (Int32 × Hp) :=
  if (5 : Int32) ≤ l3 then (K h)
  else (jn (κ := Int32 → Hp → Option (Int32 × Hp)) (fun z0_2 h4 => ck (ib l3 5) (lt (wa h4 63 0 l3 z0_2) fun h5 =>
  lt (l3 + 1) fun x6 =>
  rec x6 h5)) fun k40_2 =>
  if l3 = l1 then (ck (ib l3 5) (
  k40_2 (ra h 54 0 l3) h))
  else (ck (ib l3 5) (
  k40_2 ((ra h 63 0 l3) - l2) h)))
def fX12_behindRun (l1 : Int32) (h : Hp) : Option (Int32 × Hp) :=
  bnd (fX12_beatsTo l1 h) fun x2 h1 =>
  itr1 (fX12_behindRun_l8 l1 x2 (fun h7 => lt (wr h7 10 0 47 l1) fun h8 =>
  bnd (fX12_close h8) fun x10 h9 =>
  some (x10, h9))) FU 0 h1
set_option maxHeartbeats 4000000 in
set_option maxRecDepth 100000 in
theorem sX12_behindRun_l8 (g : GE) (l1 : Int32) (l2 : Int32) (K : Hp → Option (Int32 × Hp)) (hK : ∀ (h : Hp), Sim cvi 1 g mX12_behindRun 4 47 [(0, rv g 10 0), (1, .int l1)] [] h (K  h)) : ∀ (n : Nat) (l3 : Int32) (h : Hp), Sim cvi 1 g mX12_behindRun 4 8 [(0, rv g 10 0), (1, .int l1), (2, .int l2), (3, .int l3)] [] h (itr1 (fX12_behindRun_l8 l1 l2 K) n l3 h) := by
  refine s_itr1 (fun l3 h o => Sim cvi 1 g mX12_behindRun 4 8 [(0, rv g 10 0), (1, .int l1), (2, .int l2), (3, .int l3)] [] h o) (fun _ _ => s_none) ?_
  intro rec hrec l3 h
  unfold fX12_behindRun_l8
  refine s_iload_n 3 dX12_behindRun_8 rfl rfl ?_
  refine s_iconst (v := 5) dX12_behindRun_9 rfl ?_
  refine s_icmp_ge (tgt := 47) dX12_behindRun_10 (by decide) ?_ ?_
  ·
    refine s_sub [0, 1] rfl ?_
    exact hK h
  ·
    refine s_aload_n 0 dX12_behindRun_13 rfl rfl ?_
    refine s_getr (s0 := 0) dX12_behindRun_14 fl_X12_72 ?_
    refine s_iload_n 3 dX12_behindRun_17 rfl rfl ?_
    refine s_iload_n 3 dX12_behindRun_18 rfl rfl ?_
    refine s_iload_n 1 dX12_behindRun_19 rfl rfl ?_
    refine s_jn (fun (k40_2 : Int32 → Hp → Option (Int32 × Hp)) => ∀ (z0_2 : Int32) (h4 : Hp), Sim cvi 1 g mX12_behindRun 4 40 [(0, rv g 10 0), (1, .int l1), (2, .int l2), (3, .int l3)] [.int z0_2, .int l3, rv g 63 0] h4 (k40_2 z0_2 h4)) (fun z0_2 h4 => ?_) (fun k40_2 Hk40_2 => ?_)
    ·
      refine s_iast (s0 := 0) ka_63 dX12_behindRun_40 (fun h5 => ?_)
      refine s_iincl 3 (w := 1) (fun x6 => [(3, .int x6), (0, rv g 10 0), (1, .int l1), (2, .int l2)]) dX12_behindRun_41 rfl rfl (by decide) (fun _ => rfl) (fun x6 => ?_)
      refine s_goto (tgt := 8) dX12_behindRun_44 (by decide) ?_
      refine s_sub [1, 2, 3, 0] rfl ?_
      exact hrec x6 h5
    refine s_icmp_ne (tgt := 32) dX12_behindRun_20 (by decide) ?_ ?_
    ·
      refine s_aload_n 0 dX12_behindRun_23 rfl rfl ?_
      refine s_getr (s0 := 0) dX12_behindRun_24 fl_X12_44 ?_
      refine s_iload_n 3 dX12_behindRun_27 rfl rfl ?_
      refine s_iald (s0 := 0) ka_54 dX12_behindRun_28 ?_
      refine s_goto (tgt := 40) dX12_behindRun_29 (by decide) ?_
      exact Hk40_2 (ra h 54 0 l3) h
    ·
      refine s_aload_n 0 dX12_behindRun_32 rfl rfl ?_
      refine s_getr (s0 := 0) dX12_behindRun_33 fl_X12_72 ?_
      refine s_iload_n 3 dX12_behindRun_36 rfl rfl ?_
      refine s_iald (s0 := 0) ka_63 dX12_behindRun_37 ?_
      refine s_iload_n 2 dX12_behindRun_38 rfl rfl ?_
      refine s_isub dX12_behindRun_39 ?_
      exact Hk40_2 ((ra h 63 0 l3) - l2) h
set_option maxHeartbeats 4000000 in
set_option maxRecDepth 100000 in
theorem cX12_behindRun_ok (g : GE) (l1 : Int32) (h : Hp) : Con cvi 1 g mX12_behindRun 4 [rv g 10 0, .int l1] h (fX12_behindRun l1 h) := by
  refine Con.of (by decide +kernel) (Nat.le_of_ble_eq_true rfl) ?_
  show Sim cvi 1 g mX12_behindRun 4 0 [(0, rv g 10 0), (1, .int l1)] [] h _
  unfold fX12_behindRun
  refine s_aload_n 0 dX12_behindRun_0 rfl rfl ?_
  refine s_iload_n 1 dX12_behindRun_1 rfl rfl ?_
  refine s_callVi (s0 := 0) (As := [.int l1]) (rest := []) (cX12_beatsTo_ok g l1 h) vl_X12_334 rfl (Nat.le_of_ble_eq_true rfl) (Nat.le_of_ble_eq_true rfl) dX12_behindRun_2 rfl (fun x2 h1 => ?_)
  refine s_istore_n (ls' := [(2, .int x2), (0, rv g 10 0), (1, .int l1)]) dX12_behindRun_5 rfl (by decide) rfl ?_
  refine s_iconst (v := 0) dX12_behindRun_6 rfl ?_
  refine s_istore_n (ls' := [(3, .int 0), (2, .int x2), (0, rv g 10 0), (1, .int l1)]) dX12_behindRun_7 rfl (by decide) rfl ?_
  refine s_sub (ls' := [(0, rv g 10 0), (1, .int l1), (2, .int x2), (3, .int 0)]) [2, 3, 1, 0] rfl ?_
  refine sX12_behindRun_l8 g l1 x2 _ (fun h7 => ?_) FU 0 h1
  refine s_aload_n 0 dX12_behindRun_47 rfl rfl ?_
  refine s_iload_n 1 dX12_behindRun_48 rfl rfl ?_
  refine s_puti (s0 := 0) dX12_behindRun_49 fl_X12_328 (fun h8 => ?_)
  refine s_aload_n 0 dX12_behindRun_52 rfl rfl ?_
  refine s_callVi (s0 := 0) (As := []) (rest := []) (cX12_close_ok g h8) vl_X12_337 rfl (Nat.le_of_ble_eq_true rfl) (Nat.le_of_ble_eq_true rfl) dX12_behindRun_53 rfl (fun x10 h9 => ?_)
  exact s_iret rfl dX12_behindRun_56
