def fX2_nextRun_l46 (l1 : Int32) (l2 : Int32) (K : Int32 → Hp → Option (Int32 × Hp)) (rec : Int32 → Hp → Option (Int32 × Hp)) (l3 : Int32) (h : Hp) : Option (Int32 × Hp) :=
  if (rd h 6 10 2) ≤ l3 then (some ((-1), h))
  else (bnd (fX2_followerOf l1 l3 h) fun x6 h5 =>
  jn (κ := Hp → Option (Int32 × Hp)) (fun h8 => lt (l3 + 1) fun x9 =>
  rec x9 h8) fun k117_6 =>
  if x6 = (-1) then (k117_6 h5)
  else (if l2 = 0 then (bnd (fX2_beatsTo l1 l3 h5) fun x11 h10 =>
  ck (ib x6 2200) (
  ck (ib l1 2200) (
  if (x11 + (ra h10 16 0 x6)) = (ra h10 16 0 l1) then (some (l3, h10))
  else (k117_6 h10))))
  else (ck (ib x6 2200) (
  if (ra h5 14 0 x6) = 3 then (K l3 h5)
  else (k117_6 h5)))))
def fX2_nextRun (l1 : Int32) (h : Hp) : Option (Int32 × Hp) :=
  ck (ib l1 2200) (
  jn (κ := Int32 → Hp → Option (Int32 × Hp)) (fun z0_0 h2 => jn (κ := Hp → Option (Int32 × Hp)) (fun h4 => itr1 (fX2_nextRun_l46 l1 z0_0 (fun y12 h13 => some (y12, h13))) FU 0 h4) fun k44_2 =>
  if z0_0 = 0 then (ck (ib l1 2200) (
  bnd (fX0_soonest 10 (ra h2 13 0 l1) h2) fun x15 h14 =>
  ck (ib l1 2200) (
  if x15 = (ra h14 16 0 l1) then (some ((-1), h14))
  else (k44_2 h14))))
  else (k44_2 h2)) fun k15_0 =>
  if (ra h 14 0 l1) = 3 then (k15_0 1 h)
  else (k15_0 0 h))
set_option maxHeartbeats 4000000 in
set_option maxRecDepth 100000 in
theorem sX2_nextRun_l46 (g : GE) (l1 : Int32) (l2 : Int32) (K : Int32 → Hp → Option (Int32 × Hp)) (hK : ∀ (y3 : Int32) (h : Hp), Sim cvi 0 g mX2_nextRun 5 89 [(3, .int y3)] [] h (K y3 h)) : ∀ (n : Nat) (l3 : Int32) (h : Hp), Sim cvi 0 g mX2_nextRun 5 46 [(0, rv g 0 0), (1, .int l1), (2, .int l2), (3, .int l3)] [] h (itr1 (fX2_nextRun_l46 l1 l2 K) n l3 h) := by
  refine s_itr1 (fun l3 h o => Sim cvi 0 g mX2_nextRun 5 46 [(0, rv g 0 0), (1, .int l1), (2, .int l2), (3, .int l3)] [] h o) (fun _ _ => s_none) ?_
  intro rec hrec l3 h
  unfold fX2_nextRun_l46
  refine s_iload_n 3 dX2_nextRun_46 rfl rfl ?_
  refine s_aload_n 0 dX2_nextRun_47 rfl rfl ?_
  refine s_getr (s0 := 0) dX2_nextRun_48 fl_X2_12 ?_
  refine s_geti (s0 := 10) dX2_nextRun_51 fl_X2_98 ?_
  refine s_icmp_ge (tgt := 123) dX2_nextRun_54 (by decide) ?_ ?_
  ·
    refine s_iconst (v := (-1)) dX2_nextRun_123 rfl ?_
    exact s_iret rfl dX2_nextRun_124
  ·
    refine s_aload_n 0 dX2_nextRun_57 rfl rfl ?_
    refine s_iload_n 1 dX2_nextRun_58 rfl rfl ?_
    refine s_iload_n 3 dX2_nextRun_59 rfl rfl ?_
    refine s_callVi (s0 := 0) (As := [.int l1, .int l3]) (rest := []) (cX2_followerOf_ok g l1 l3 h) vl_X2_104 rfl (Nat.le_of_ble_eq_true rfl) (Nat.le_of_ble_eq_true rfl) dX2_nextRun_60 rfl (fun x6 h5 => ?_)
    refine s_istore (ls' := [(4, .int x6), (0, rv g 0 0), (1, .int l1), (2, .int l2), (3, .int l3)]) dX2_nextRun_63 (by decide) rfl ?_
    refine s_iload 0 dX2_nextRun_65 rfl ?_
    refine s_iconst (v := (-1)) dX2_nextRun_67 rfl ?_
    refine s_jn (fun (k117_6 : Hp → Option (Int32 × Hp)) => ∀ (h8 : Hp), Sim cvi 0 g mX2_nextRun 5 117 [(0, rv g 0 0), (1, .int l1), (2, .int l2), (3, .int l3)] [] h8 (k117_6 h8)) (fun h8 => ?_) (fun k117_6 Hk117_6 => ?_)
    ·
      refine s_iincl 3 (w := 1) (fun x9 => [(3, .int x9), (0, rv g 0 0), (1, .int l1), (2, .int l2)]) dX2_nextRun_117 rfl rfl (by decide) (fun _ => rfl) (fun x9 => ?_)
      refine s_goto (tgt := 46) dX2_nextRun_120 (by decide) ?_
      refine s_sub [1, 2, 3, 0] rfl ?_
      exact hrec x9 h8
    refine s_icmp_ne (tgt := 74) dX2_nextRun_68 (by decide) ?_ ?_
    ·
      refine s_goto (tgt := 117) dX2_nextRun_71 (by decide) ?_
      refine s_sub [1, 2, 3, 4] rfl ?_
      exact Hk117_6 h5
    ·
      refine s_iload_n 3 dX2_nextRun_74 rfl rfl ?_
      refine s_if_eq (tgt := 92) dX2_nextRun_75 (by decide) ?_ ?_
      ·
        refine s_aload_n 1 dX2_nextRun_92 rfl rfl ?_
        refine s_iload_n 2 dX2_nextRun_93 rfl rfl ?_
        refine s_iload_n 4 dX2_nextRun_94 rfl rfl ?_
        refine s_callVi (s0 := 0) (As := [.int l1, .int l3]) (rest := []) (cX2_beatsTo_ok g l1 l3 h5) vl_X2_146 rfl (Nat.le_of_ble_eq_true rfl) (Nat.le_of_ble_eq_true rfl) dX2_nextRun_95 rfl (fun x11 h10 => ?_)
        refine s_aload_n 1 dX2_nextRun_98 rfl rfl ?_
        refine s_getr (s0 := 0) dX2_nextRun_99 fl_X2_55 ?_
        refine s_iload 0 dX2_nextRun_102 rfl ?_
        refine s_sald (s0 := 0) ka_16 dX2_nextRun_104 ?_
        refine s_iadd dX2_nextRun_105 ?_
        refine s_aload_n 1 dX2_nextRun_106 rfl rfl ?_
        refine s_getr (s0 := 0) dX2_nextRun_107 fl_X2_55 ?_
        refine s_iload_n 2 dX2_nextRun_110 rfl rfl ?_
        refine s_sald (s0 := 0) ka_16 dX2_nextRun_111 ?_
        refine s_icmp_ne (tgt := 117) dX2_nextRun_112 (by decide) ?_ ?_
        ·
          refine s_iload_n 4 dX2_nextRun_115 rfl rfl ?_
          exact s_iret rfl dX2_nextRun_116
        ·
          refine s_sub [1, 2, 3, 4] rfl ?_
          exact Hk117_6 h10
      ·
        refine s_aload_n 1 dX2_nextRun_78 rfl rfl ?_
        refine s_getr (s0 := 0) dX2_nextRun_79 fl_X2_49 ?_
        refine s_iload 0 dX2_nextRun_82 rfl ?_
        refine s_bald (s0 := 0) ka_14 dX2_nextRun_84 ?_
        refine s_iconst (v := 3) dX2_nextRun_85 rfl ?_
        refine s_icmp_ne (tgt := 117) dX2_nextRun_86 (by decide) ?_ ?_
        ·
          refine s_sub [4] rfl ?_
          exact hK l3 h5
        ·
          refine s_sub [1, 2, 3, 4] rfl ?_
          exact Hk117_6 h5
set_option maxHeartbeats 4000000 in
set_option maxRecDepth 100000 in
theorem cX2_nextRun_ok (g : GE) (l1 : Int32) (h : Hp) : Con cvi 0 g mX2_nextRun 5 [rv g 0 0, .int l1] h (fX2_nextRun l1 h) := by
  refine Con.of (by decide +kernel) (Nat.le_of_ble_eq_true rfl) ?_
  show Sim cvi 0 g mX2_nextRun 5 0 [(0, rv g 0 0), (1, .int l1)] [] h _
  unfold fX2_nextRun
  refine s_aload_n 0 dX2_nextRun_0 rfl rfl ?_
  refine s_getr (s0 := 0) dX2_nextRun_1 fl_X2_49 ?_
  refine s_iload_n 1 dX2_nextRun_4 rfl rfl ?_
  refine s_bald (s0 := 0) ka_14 dX2_nextRun_5 ?_
  refine s_iconst (v := 3) dX2_nextRun_6 rfl ?_
  refine s_jn (fun (k15_0 : Int32 → Hp → Option (Int32 × Hp)) => ∀ (z0_0 : Int32) (h2 : Hp), Sim cvi 0 g mX2_nextRun 5 15 [(0, rv g 0 0), (1, .int l1)] [.int z0_0] h2 (k15_0 z0_0 h2)) (fun z0_0 h2 => ?_) (fun k15_0 Hk15_0 => ?_)
  ·
    refine s_istore_n (ls' := [(2, .int z0_0), (0, rv g 0 0), (1, .int l1)]) dX2_nextRun_15 rfl (by decide) rfl ?_
    refine s_iload_n 0 dX2_nextRun_16 rfl rfl ?_
    refine s_jn (fun (k44_2 : Hp → Option (Int32 × Hp)) => ∀ (h4 : Hp), Sim cvi 0 g mX2_nextRun 5 44 [(0, rv g 0 0), (1, .int l1), (2, .int z0_0)] [] h4 (k44_2 h4)) (fun h4 => ?_) (fun k44_2 Hk44_2 => ?_)
    ·
      refine s_iconst (v := 0) dX2_nextRun_44 rfl ?_
      refine s_istore_n (ls' := [(3, .int 0), (0, rv g 0 0), (1, .int l1), (2, .int z0_0)]) dX2_nextRun_45 rfl (by decide) rfl ?_
      refine s_sub (ls' := [(0, rv g 0 0), (1, .int l1), (2, .int z0_0), (3, .int 0)]) [1, 2, 3, 0] rfl ?_
      refine sX2_nextRun_l46 g l1 z0_0 _ (fun y12 h13 => ?_) FU 0 h4
      refine s_goto (tgt := 115) dX2_nextRun_89 (by decide) ?_
      refine s_iload_n 0 dX2_nextRun_115 rfl rfl ?_
      exact s_iret rfl dX2_nextRun_116
    refine s_if_ne (tgt := 44) dX2_nextRun_17 (by decide) ?_ ?_
    ·
      refine s_aload_n 1 dX2_nextRun_20 rfl rfl ?_
      refine s_getr (s0 := 0) dX2_nextRun_21 fl_X2_12 ?_
      refine s_aload_n 1 dX2_nextRun_24 rfl rfl ?_
      refine s_getr (s0 := 0) dX2_nextRun_25 fl_X2_46 ?_
      refine s_iload_n 2 dX2_nextRun_28 rfl rfl ?_
      refine s_sald (s0 := 0) ka_13 dX2_nextRun_29 ?_
      refine s_callSi (As := [rv g 6 10, .int (ra h2 13 0 l1)]) (rest := []) (cX0_soonest_ok g 10 (ra h2 13 0 l1) h2) sl_X2_142 rfl (Nat.le_of_ble_eq_true rfl) (Nat.le_of_ble_eq_true rfl) dX2_nextRun_30 rfl (fun x15 h14 => ?_)
      refine s_aload_n 1 dX2_nextRun_33 rfl rfl ?_
      refine s_getr (s0 := 0) dX2_nextRun_34 fl_X2_55 ?_
      refine s_iload_n 2 dX2_nextRun_37 rfl rfl ?_
      refine s_sald (s0 := 0) ka_16 dX2_nextRun_38 ?_
      refine s_icmp_ne (tgt := 44) dX2_nextRun_39 (by decide) ?_ ?_
      ·
        refine s_iconst (v := (-1)) dX2_nextRun_42 rfl ?_
        exact s_iret rfl dX2_nextRun_43
      ·
        refine s_sub [1, 2, 0] rfl ?_
        exact Hk44_2 h14
    ·
      refine s_sub [1, 2, 0] rfl ?_
      exact Hk44_2 h2
  refine s_icmp_ne (tgt := 14) dX2_nextRun_7 (by decide) ?_ ?_
  ·
    refine s_iconst (v := 1) dX2_nextRun_10 rfl ?_
    refine s_goto (tgt := 15) dX2_nextRun_11 (by decide) ?_
    exact Hk15_0 1 h
  ·
    refine s_iconst (v := 0) dX2_nextRun_14 rfl ?_
    exact Hk15_0 0 h
def fX2_findRound_l2 (K : Hp → Option (Unit × Hp)) (rec : Int32 → Hp → Option (Unit × Hp)) (l1 : Int32) (h : Hp) : Option (Unit × Hp) :=
  if (rd h 0 0 2) ≤ l1 then (K h)
  else (ck (ib l1 2200) (lt (wa h 19 0 l1 (vp_nar .short (-1))) fun h1 =>
  lt (l1 + 1) fun x2 =>
  rec x2 h1))
def fX2_findRound_l29 (K : Int32 → Int32 → Int32 → Hp → Option (Unit × Hp)) (rec : Int32 → Int32 → Int32 → Hp → Option (Unit × Hp)) (l1 l2 l3 : Int32) (h : Hp) : Option (Unit × Hp) :=
  if (2200 : Int32) < l3 then (some ((), h))
  else (bnd (fX2_nextRun l1 h) fun x5 h4 =>
  ck (ib l1 2200) (
  if (ra h4 19 0 l1) = (-1) then (if x5 = (-1) then (K l1 l2 l3 h4)
  else (ck (ib l1 2200) (lt (wa h4 19 0 l1 (vp_nar .short (l3.toInt16.toInt32))) fun h6 =>
  ck (ib l1 2200) (lt (wa h6 20 0 l1 (vp_nar .short (l2.toInt16.toInt32))) fun h7 =>
  bnd (fX2_beatsTo l1 x5 h7) fun x9 h8 =>
  lt (l2 + x9) fun x10 =>
  bnd (fX2_followerOf l1 x5 h8) fun x12 h11 =>
  lt (l3 + 1) fun x13 =>
  rec x12 x10 x13 h11))))
  else (K l1 l2 l3 h4)))
def fX2_findRound (h : Hp) : Option (Unit × Hp) :=
  itr1 (fX2_findRound_l2 (fun h3 => itr3 (fX2_findRound_l29 (fun y14 y15 y16 h17 => ck (ib y14 2200) (
  lt (wr h17 0 0 4 (ra h17 19 0 y14)) fun h18 =>
  lt (wr h18 0 0 5 (y16 - (rd h18 0 0 4))) fun h19 =>
  ck (ib y14 2200) (
  lt (wr h19 0 0 6 (y15 - (ra h19 20 0 y14))) fun h20 =>
  some ((), h20))))) FU 0 0 0 h3)) FU 0 h
set_option maxHeartbeats 4000000 in
set_option maxRecDepth 100000 in
theorem sX2_findRound_l2 (g : GE) (K : Hp → Option (Unit × Hp)) (hK : ∀ (h : Hp), Sim cvv 0 g mX2_findRound 6 23 [(0, rv g 0 0)] [] h (K  h)) : ∀ (n : Nat) (l1 : Int32) (h : Hp), Sim cvv 0 g mX2_findRound 6 2 [(0, rv g 0 0), (1, .int l1)] [] h (itr1 (fX2_findRound_l2 K) n l1 h) := by
  refine s_itr1 (fun l1 h o => Sim cvv 0 g mX2_findRound 6 2 [(0, rv g 0 0), (1, .int l1)] [] h o) (fun _ _ => s_none) ?_
  intro rec hrec l1 h
  unfold fX2_findRound_l2
  refine s_iload_n 1 dX2_findRound_2 rfl rfl ?_
  refine s_aload_n 0 dX2_findRound_3 rfl rfl ?_
  refine s_geti (s0 := 0) dX2_findRound_4 fl_X2_22 ?_
  refine s_icmp_ge (tgt := 23) dX2_findRound_7 (by decide) ?_ ?_
  ·
    refine s_sub [0] rfl ?_
    exact hK h
  ·
    refine s_aload_n 0 dX2_findRound_10 rfl rfl ?_
    refine s_getr (s0 := 0) dX2_findRound_11 fl_X2_64 ?_
    refine s_iload_n 1 dX2_findRound_14 rfl rfl ?_
    refine s_iconst (v := (-1)) dX2_findRound_15 rfl ?_
    refine s_sast (s0 := 0) ka_19 dX2_findRound_16 (fun h1 => ?_)
    refine s_iincl 1 (w := 1) (fun x2 => [(1, .int x2), (0, rv g 0 0)]) dX2_findRound_17 rfl rfl (by decide) (fun _ => rfl) (fun x2 => ?_)
    refine s_goto (tgt := 2) dX2_findRound_20 (by decide) ?_
    refine s_sub [1, 0] rfl ?_
    exact hrec x2 h1
set_option maxHeartbeats 4000000 in
set_option maxRecDepth 100000 in
theorem sX2_findRound_l29 (g : GE) (K : Int32 → Int32 → Int32 → Hp → Option (Unit × Hp)) (hK : ∀ (y1 y2 y3 : Int32) (h : Hp), Sim cvv 0 g mX2_findRound 6 59 [(0, rv g 0 0), (1, .int y1), (2, .int y2), (3, .int y3)] [] h (K y1 y2 y3 h)) : ∀ (n : Nat) (l1 l2 l3 : Int32) (h : Hp), Sim cvv 0 g mX2_findRound 6 29 [(0, rv g 0 0), (1, .int l1), (2, .int l2), (3, .int l3)] [] h (itr3 (fX2_findRound_l29 K) n l1 l2 l3 h) := by
  refine s_itr3 (fun l1 l2 l3 h o => Sim cvv 0 g mX2_findRound 6 29 [(0, rv g 0 0), (1, .int l1), (2, .int l2), (3, .int l3)] [] h o) (fun _ _ _ _ => s_none) ?_
  intro rec hrec l1 l2 l3 h
  unfold fX2_findRound_l29
  refine s_iload_n 3 dX2_findRound_29 rfl rfl ?_
  refine s_sipush (v := 2200) dX2_findRound_30 rfl ?_
  refine s_icmp_gt (tgt := 132) dX2_findRound_33 (by decide) ?_ ?_
  ·
    exact s_vret rfl dX2_findRound_132
  ·
    refine s_aload_n 0 dX2_findRound_36 rfl rfl ?_
    refine s_iload_n 1 dX2_findRound_37 rfl rfl ?_
    refine s_callVi (s0 := 0) (As := [.int l1]) (rest := []) (cX2_nextRun_ok g l1 h) vl_X2_163 rfl (Nat.le_of_ble_eq_true rfl) (Nat.le_of_ble_eq_true rfl) dX2_findRound_38 rfl (fun x5 h4 => ?_)
    refine s_istore (ls' := [(4, .int x5), (0, rv g 0 0), (1, .int l1), (2, .int l2), (3, .int l3)]) dX2_findRound_41 (by decide) rfl ?_
    refine s_aload_n 1 dX2_findRound_43 rfl rfl ?_
    refine s_getr (s0 := 0) dX2_findRound_44 fl_X2_64 ?_
    refine s_iload_n 2 dX2_findRound_47 rfl rfl ?_
    refine s_sald (s0 := 0) ka_19 dX2_findRound_48 ?_
    refine s_iconst (v := (-1)) dX2_findRound_49 rfl ?_
    refine s_icmp_ne (tgt := 59) dX2_findRound_50 (by decide) ?_ ?_
    ·
      refine s_iload 0 dX2_findRound_53 rfl ?_
      refine s_iconst (v := (-1)) dX2_findRound_55 rfl ?_
      refine s_icmp_ne (tgt := 92) dX2_findRound_56 (by decide) ?_ ?_
      ·
        refine s_sub [1, 2, 3, 4] rfl ?_
        exact hK l1 l2 l3 h4
      ·
        refine s_aload_n 1 dX2_findRound_92 rfl rfl ?_
        refine s_getr (s0 := 0) dX2_findRound_93 fl_X2_64 ?_
        refine s_iload_n 2 dX2_findRound_96 rfl rfl ?_
        refine s_iload_n 4 dX2_findRound_97 rfl rfl ?_
        refine s_i2s dX2_findRound_98 ?_
        refine s_sast (s0 := 0) ka_19 dX2_findRound_99 (fun h6 => ?_)
        refine s_aload_n 1 dX2_findRound_100 rfl rfl ?_
        refine s_getr (s0 := 0) dX2_findRound_101 fl_X2_67 ?_
        refine s_iload_n 2 dX2_findRound_104 rfl rfl ?_
        refine s_iload_n 3 dX2_findRound_105 rfl rfl ?_
        refine s_i2s dX2_findRound_106 ?_
        refine s_sast (s0 := 0) ka_20 dX2_findRound_107 (fun h7 => ?_)
        refine s_iload_n 3 dX2_findRound_108 rfl rfl ?_
        refine s_aload_n 1 dX2_findRound_109 rfl rfl ?_
        refine s_iload_n 2 dX2_findRound_110 rfl rfl ?_
        refine s_iload 0 dX2_findRound_111 rfl ?_
        refine s_callVi (s0 := 0) (As := [.int l1, .int x5]) (rest := [.int l2]) (cX2_beatsTo_ok g l1 x5 h7) vl_X2_146 rfl (Nat.le_of_ble_eq_true rfl) (Nat.le_of_ble_eq_true rfl) dX2_findRound_113 rfl (fun x9 h8 => ?_)
        refine s_iadd dX2_findRound_116 ?_
        refine s_leti (fun x10 => ?_)
        refine s_istore_n (ls' := [(2, .int x10), (4, .int x5), (0, rv g 0 0), (1, .int l1), (3, .int l3)]) dX2_findRound_117 rfl (by decide) rfl ?_
        refine s_aload_n 2 dX2_findRound_118 rfl rfl ?_
        refine s_iload_n 3 dX2_findRound_119 rfl rfl ?_
        refine s_iload 1 dX2_findRound_120 rfl ?_
        refine s_callVi (s0 := 0) (As := [.int l1, .int x5]) (rest := []) (cX2_followerOf_ok g l1 x5 h8) vl_X2_104 rfl (Nat.le_of_ble_eq_true rfl) (Nat.le_of_ble_eq_true rfl) dX2_findRound_122 rfl (fun x12 h11 => ?_)
        refine s_istore_n (ls' := [(1, .int x12), (2, .int x10), (4, .int x5), (0, rv g 0 0), (3, .int l3)]) dX2_findRound_125 rfl (by decide) rfl ?_
        refine s_iincl 4 (w := 1) (fun x13 => [(3, .int x13), (1, .int x12), (2, .int x10), (4, .int x5), (0, rv g 0 0)]) dX2_findRound_126 rfl rfl (by decide) (fun _ => rfl) (fun x13 => ?_)
        refine s_goto (tgt := 29) dX2_findRound_129 (by decide) ?_
        refine s_sub [4, 1, 2, 0] rfl ?_
        exact hrec x12 x10 x13 h11
    ·
      refine s_sub [1, 2, 3, 4] rfl ?_
      exact hK l1 l2 l3 h4
set_option maxHeartbeats 4000000 in
set_option maxRecDepth 100000 in
theorem cX2_findRound_ok (g : GE) (h : Hp) : Con cvv 0 g mX2_findRound 6 [rv g 0 0] h (fX2_findRound h) := by
  refine Con.of (by decide +kernel) (Nat.le_of_ble_eq_true rfl) ?_
  show Sim cvv 0 g mX2_findRound 6 0 [(0, rv g 0 0)] [] h _
  unfold fX2_findRound
  refine s_iconst (v := 0) dX2_findRound_0 rfl ?_
  refine s_istore_n (ls' := [(1, .int 0), (0, rv g 0 0)]) dX2_findRound_1 rfl (by decide) rfl ?_
  refine s_sub (ls' := [(0, rv g 0 0), (1, .int 0)]) [1, 0] rfl ?_
  refine sX2_findRound_l2 g _ (fun h3 => ?_) FU 0 h
  refine s_iconst (v := 0) dX2_findRound_23 rfl ?_
  refine s_istore_n (ls' := [(1, .int 0), (0, rv g 0 0)]) dX2_findRound_24 rfl (by decide) rfl ?_
  refine s_iconst (v := 0) dX2_findRound_25 rfl ?_
  refine s_istore_n (ls' := [(2, .int 0), (1, .int 0), (0, rv g 0 0)]) dX2_findRound_26 rfl (by decide) rfl ?_
  refine s_iconst (v := 0) dX2_findRound_27 rfl ?_
  refine s_istore_n (ls' := [(3, .int 0), (2, .int 0), (1, .int 0), (0, rv g 0 0)]) dX2_findRound_28 rfl (by decide) rfl ?_
  refine s_sub (ls' := [(0, rv g 0 0), (1, .int 0), (2, .int 0), (3, .int 0)]) [3, 2, 1, 0] rfl ?_
  refine sX2_findRound_l29 g _ (fun y14 y15 y16 h17 => ?_) FU 0 0 0 h3
  refine s_aload_n 0 dX2_findRound_59 rfl rfl ?_
  refine s_aload_n 0 dX2_findRound_60 rfl rfl ?_
  refine s_getr (s0 := 0) dX2_findRound_61 fl_X2_64 ?_
  refine s_iload_n 1 dX2_findRound_64 rfl rfl ?_
  refine s_sald (s0 := 0) ka_19 dX2_findRound_65 ?_
  refine s_puti (s0 := 0) dX2_findRound_66 fl_X2_29 (fun h18 => ?_)
  refine s_aload_n 0 dX2_findRound_69 rfl rfl ?_
  refine s_iload_n 3 dX2_findRound_70 rfl rfl ?_
  refine s_aload_n 0 dX2_findRound_71 rfl rfl ?_
  refine s_geti (s0 := 0) dX2_findRound_72 fl_X2_29 ?_
  refine s_isub dX2_findRound_75 ?_
  refine s_puti (s0 := 0) dX2_findRound_76 fl_X2_32 (fun h19 => ?_)
  refine s_aload_n 0 dX2_findRound_79 rfl rfl ?_
  refine s_iload_n 2 dX2_findRound_80 rfl rfl ?_
  refine s_aload_n 0 dX2_findRound_81 rfl rfl ?_
  refine s_getr (s0 := 0) dX2_findRound_82 fl_X2_67 ?_
  refine s_iload_n 1 dX2_findRound_85 rfl rfl ?_
  refine s_sald (s0 := 0) ka_20 dX2_findRound_86 ?_
  refine s_isub dX2_findRound_87 ?_
  refine s_puti (s0 := 0) dX2_findRound_88 fl_X2_35 (fun h20 => ?_)
  exact s_vret rfl dX2_findRound_91
def fX2_rowLength_l4 (K : Hp → Option (Int32 × Hp)) (rec : Int32 → Int32 → Hp → Option (Int32 × Hp)) (l1 l2 : Int32) (h : Hp) : Option (Int32 × Hp) :=
  if (2200 : Int32) ≤ l2 then (K h)
  else (bnd (fX2_nextRun l1 h) fun x2 h1 =>
  if x2 = (-1) then (some (l2, h1))
  else (bnd (fX2_followerOf l1 x2 h1) fun x4 h3 =>
  lt (l2 + 1) fun x5 =>
  rec x4 x5 h3))
def fX2_rowLength (h : Hp) : Option (Int32 × Hp) :=
  itr2 (fX2_rowLength_l4 (fun h6 => some (2200, h6))) FU 0 0 h
set_option maxHeartbeats 4000000 in
set_option maxRecDepth 100000 in
theorem sX2_rowLength_l4 (g : GE) (K : Hp → Option (Int32 × Hp)) (hK : ∀ (h : Hp), Sim cvi 0 g mX2_rowLength 6 37 [] [] h (K  h)) : ∀ (n : Nat) (l1 l2 : Int32) (h : Hp), Sim cvi 0 g mX2_rowLength 6 4 [(0, rv g 0 0), (1, .int l1), (2, .int l2)] [] h (itr2 (fX2_rowLength_l4 K) n l1 l2 h) := by
  refine s_itr2 (fun l1 l2 h o => Sim cvi 0 g mX2_rowLength 6 4 [(0, rv g 0 0), (1, .int l1), (2, .int l2)] [] h o) (fun _ _ _ => s_none) ?_
  intro rec hrec l1 l2 h
  unfold fX2_rowLength_l4
  refine s_iload_n 2 dX2_rowLength_4 rfl rfl ?_
  refine s_sipush (v := 2200) dX2_rowLength_5 rfl ?_
  refine s_icmp_ge (tgt := 37) dX2_rowLength_8 (by decide) ?_ ?_
  ·
    refine s_sub [] rfl ?_
    exact hK h
  ·
    refine s_aload_n 0 dX2_rowLength_11 rfl rfl ?_
    refine s_iload_n 1 dX2_rowLength_12 rfl rfl ?_
    refine s_callVi (s0 := 0) (As := [.int l1]) (rest := []) (cX2_nextRun_ok g l1 h) vl_X2_163 rfl (Nat.le_of_ble_eq_true rfl) (Nat.le_of_ble_eq_true rfl) dX2_rowLength_13 rfl (fun x2 h1 => ?_)
    refine s_istore_n (ls' := [(3, .int x2), (0, rv g 0 0), (1, .int l1), (2, .int l2)]) dX2_rowLength_16 rfl (by decide) rfl ?_
    refine s_iload_n 0 dX2_rowLength_17 rfl rfl ?_
    refine s_iconst (v := (-1)) dX2_rowLength_18 rfl ?_
    refine s_icmp_ne (tgt := 24) dX2_rowLength_19 (by decide) ?_ ?_
    ·
      refine s_iload_n 3 dX2_rowLength_22 rfl rfl ?_
      exact s_iret rfl dX2_rowLength_23
    ·
      refine s_aload_n 1 dX2_rowLength_24 rfl rfl ?_
      refine s_iload_n 2 dX2_rowLength_25 rfl rfl ?_
      refine s_iload_n 0 dX2_rowLength_26 rfl rfl ?_
      refine s_callVi (s0 := 0) (As := [.int l1, .int x2]) (rest := []) (cX2_followerOf_ok g l1 x2 h1) vl_X2_104 rfl (Nat.le_of_ble_eq_true rfl) (Nat.le_of_ble_eq_true rfl) dX2_rowLength_27 rfl (fun x4 h3 => ?_)
      refine s_istore_n (ls' := [(1, .int x4), (3, .int x2), (0, rv g 0 0), (2, .int l2)]) dX2_rowLength_30 rfl (by decide) rfl ?_
      refine s_iincl 3 (w := 1) (fun x5 => [(2, .int x5), (1, .int x4), (3, .int x2), (0, rv g 0 0)]) dX2_rowLength_31 rfl rfl (by decide) (fun _ => rfl) (fun x5 => ?_)
      refine s_goto (tgt := 4) dX2_rowLength_34 (by decide) ?_
      refine s_sub [3, 1, 0] rfl ?_
      exact hrec x4 x5 h3
set_option maxHeartbeats 4000000 in
set_option maxRecDepth 100000 in
theorem cX2_rowLength_ok (g : GE) (h : Hp) : Con cvi 0 g mX2_rowLength 6 [rv g 0 0] h (fX2_rowLength h) := by
  refine Con.of (by decide +kernel) (Nat.le_of_ble_eq_true rfl) ?_
  show Sim cvi 0 g mX2_rowLength 6 0 [(0, rv g 0 0)] [] h _
  unfold fX2_rowLength
  refine s_iconst (v := 0) dX2_rowLength_0 rfl ?_
  refine s_istore_n (ls' := [(1, .int 0), (0, rv g 0 0)]) dX2_rowLength_1 rfl (by decide) rfl ?_
  refine s_iconst (v := 0) dX2_rowLength_2 rfl ?_
  refine s_istore_n (ls' := [(2, .int 0), (1, .int 0), (0, rv g 0 0)]) dX2_rowLength_3 rfl (by decide) rfl ?_
  refine s_sub (ls' := [(0, rv g 0 0), (1, .int 0), (2, .int 0)]) [2, 1, 0] rfl ?_
  refine sX2_rowLength_l4 g _ (fun h6 => ?_) FU 0 0 h
  refine s_sipush (v := 2200) dX2_rowLength_37 rfl ?_
  exact s_iret rfl dX2_rowLength_40
def fX2_answer (l1 : Int32) (h : Hp) : Option (Int32 × Hp) :=
  bnd (fX2_isForever 0 h) fun x2 h1 =>
  if l1 = 0 then (if x2 = 0 then (some (0, h1))
  else (some (1, h1)))
  else if l1 = 1 then (bnd (fX2_lastsFrom 0 h1) fun x6 h5 =>
  some (x6, h5))
  else if l1 = 5 then (if x2 = 0 then (bnd (fX2_rowLength h1) fun x9 h8 =>
  some (x9, h8))
  else (some ((-1), h1)))
  else (if x2 = 0 then (some ((-1), h1))
  else (if (rd h1 6 10 2) = 0 then (some ((-1), h1))
  else (bnd (fX2_findRound h1) fun _ h10 =>
  if l1 = 2 then (some (rd h10 0 0 4, h10))
  else (if l1 = 3 then (some (rd h10 0 0 5, h10))
  else (some (rd h10 0 0 6, h10))))))
set_option maxHeartbeats 4000000 in
set_option maxRecDepth 100000 in
theorem cX2_answer_ok (g : GE) (l1 : Int32) (h : Hp) : Con cvi 0 g mX2_answer 7 [rv g 0 0, .int l1] h (fX2_answer l1 h) := by
  refine Con.of (by decide +kernel) (Nat.le_of_ble_eq_true rfl) ?_
  show Sim cvi 0 g mX2_answer 7 0 [(0, rv g 0 0), (1, .int l1)] [] h _
  unfold fX2_answer
  refine s_aload_n 0 dX2_answer_0 rfl rfl ?_
  refine s_iconst (v := 0) dX2_answer_1 rfl ?_
  refine s_callVi (s0 := 0) (As := [.int 0]) (rest := []) (cX2_isForever_ok g 0 h) vl_X2_107 rfl (Nat.le_of_ble_eq_true rfl) (Nat.le_of_ble_eq_true rfl) dX2_answer_2 rfl (fun x2 h1 => ?_)
  refine s_istore_n (ls' := [(2, .int x2), (0, rv g 0 0), (1, .int l1)]) dX2_answer_5 rfl (by decide) rfl ?_
  refine s_iload_n 2 dX2_answer_6 rfl rfl ?_
  refine s_lk 0 (tgt := 40) dX2_answer_7 (by decide) rfl (by decide) ?_ (fun e3 => ?_)
  ·
    refine s_iload_n 0 dX2_answer_40 rfl rfl ?_
    refine s_if_eq (tgt := 48) dX2_answer_41 (by decide) ?_ ?_
    ·
      refine s_iconst (v := 0) dX2_answer_48 rfl ?_
      exact s_iret rfl dX2_answer_49
    ·
      refine s_iconst (v := 1) dX2_answer_44 rfl ?_
      refine s_goto (tgt := 49) dX2_answer_45 (by decide) ?_
      exact s_iret rfl dX2_answer_49
  refine s_lk 1 (tgt := 50) dX2_answer_7 (by decide) rfl (by decide) ?_ (fun e4 => ?_)
  ·
    refine s_aload_n 1 dX2_answer_50 rfl rfl ?_
    refine s_iconst (v := 0) dX2_answer_51 rfl ?_
    refine s_callVi (s0 := 0) (As := [.int 0]) (rest := []) (cX2_lastsFrom_ok g 0 h1) vl_X2_154 rfl (Nat.le_of_ble_eq_true rfl) (Nat.le_of_ble_eq_true rfl) dX2_answer_52 rfl (fun x6 h5 => ?_)
    exact s_iret rfl dX2_answer_55
  refine s_lk 5 (tgt := 56) dX2_answer_7 (by decide) rfl (by decide) ?_ (fun e7 => ?_)
  ·
    refine s_iload_n 0 dX2_answer_56 rfl rfl ?_
    refine s_if_eq (tgt := 64) dX2_answer_57 (by decide) ?_ ?_
    ·
      refine s_aload_n 1 dX2_answer_64 rfl rfl ?_
      refine s_callVi (s0 := 0) (As := []) (rest := []) (cX2_rowLength_ok g h1) vl_X2_157 rfl (Nat.le_of_ble_eq_true rfl) (Nat.le_of_ble_eq_true rfl) dX2_answer_65 rfl (fun x9 h8 => ?_)
      exact s_iret rfl dX2_answer_68
    ·
      refine s_iconst (v := (-1)) dX2_answer_60 rfl ?_
      refine s_goto (tgt := 68) dX2_answer_61 (by decide) ?_
      exact s_iret rfl dX2_answer_68
  refine s_lkd (tgt := 69) dX2_answer_7 (by decide) ((lv_osw e3 rfl).trans ((lv_osw e4 rfl).trans ((lv_osw e7 rfl).trans rfl))) (by decide) ?_
  refine s_iload_n 0 dX2_answer_69 rfl rfl ?_
  refine s_if_eq (tgt := 83) dX2_answer_70 (by decide) ?_ ?_
  ·
    refine s_iconst (v := (-1)) dX2_answer_83 rfl ?_
    exact s_iret rfl dX2_answer_84
  ·
    refine s_aload_n 1 dX2_answer_73 rfl rfl ?_
    refine s_getr (s0 := 0) dX2_answer_74 fl_X2_12 ?_
    refine s_geti (s0 := 10) dX2_answer_77 fl_X2_98 ?_
    refine s_if_ne (tgt := 85) dX2_answer_80 (by decide) ?_ ?_
    ·
      refine s_iconst (v := (-1)) dX2_answer_83 rfl ?_
      exact s_iret rfl dX2_answer_84
    ·
      refine s_aload_n 1 dX2_answer_85 rfl rfl ?_
      refine s_callVv (s0 := 0) (As := []) (rest := []) (cX2_findRound_ok g h1) vl_X2_160 rfl (Nat.le_of_ble_eq_true rfl) (Nat.le_of_ble_eq_true rfl) dX2_answer_86 rfl (fun h10 => ?_)
      refine s_iload_n 2 dX2_answer_89 rfl rfl ?_
      refine s_iconst (v := 2) dX2_answer_90 rfl ?_
      refine s_icmp_ne (tgt := 101) dX2_answer_91 (by decide) ?_ ?_
      ·
        refine s_aload_n 1 dX2_answer_94 rfl rfl ?_
        refine s_geti (s0 := 0) dX2_answer_95 fl_X2_29 ?_
        refine s_goto (tgt := 117) dX2_answer_98 (by decide) ?_
        exact s_iret rfl dX2_answer_117
      ·
        refine s_iload_n 2 dX2_answer_101 rfl rfl ?_
        refine s_iconst (v := 3) dX2_answer_102 rfl ?_
        refine s_icmp_ne (tgt := 113) dX2_answer_103 (by decide) ?_ ?_
        ·
          refine s_aload_n 1 dX2_answer_106 rfl rfl ?_
          refine s_geti (s0 := 0) dX2_answer_107 fl_X2_32 ?_
          refine s_goto (tgt := 117) dX2_answer_110 (by decide) ?_
          exact s_iret rfl dX2_answer_117
        ·
          refine s_aload_n 1 dX2_answer_113 rfl rfl ?_
          refine s_geti (s0 := 0) dX2_answer_114 fl_X2_35 ?_
          exact s_iret rfl dX2_answer_117
def fX2_rowPlate_l4 (l1 : Int32) (K : Hp → Option (Int32 × Hp)) (rec : Int32 → Int32 → Hp → Option (Int32 × Hp)) (l2 l3 : Int32) (h : Hp) : Option (Int32 × Hp) :=
  if l1 < l3 then (K h)
  else (bnd (fX2_nextRun l2 h) fun x2 h1 =>
  if x2 = (-1) then (some (x2, h1))
  else (if l3 = l1 then (some (x2, h1))
  else (bnd (fX2_followerOf l2 x2 h1) fun x4 h3 =>
  lt (l3 + 1) fun x5 =>
  rec x4 x5 h3)))
def fX2_rowPlate (l1 : Int32) (h : Hp) : Option (Int32 × Hp) :=
  itr2 (fX2_rowPlate_l4 l1 (fun h6 => some ((-1), h6))) FU 0 0 h
set_option maxHeartbeats 4000000 in
set_option maxRecDepth 100000 in
theorem sX2_rowPlate_l4 (g : GE) (l1 : Int32) (K : Hp → Option (Int32 × Hp)) (hK : ∀ (h : Hp), Sim cvi 0 g mX2_rowPlate 6 44 [] [] h (K  h)) : ∀ (n : Nat) (l2 l3 : Int32) (h : Hp), Sim cvi 0 g mX2_rowPlate 6 4 [(0, rv g 0 0), (1, .int l1), (2, .int l2), (3, .int l3)] [] h (itr2 (fX2_rowPlate_l4 l1 K) n l2 l3 h) := by
  refine s_itr2 (fun l2 l3 h o => Sim cvi 0 g mX2_rowPlate 6 4 [(0, rv g 0 0), (1, .int l1), (2, .int l2), (3, .int l3)] [] h o) (fun _ _ _ => s_none) ?_
  intro rec hrec l2 l3 h
  unfold fX2_rowPlate_l4
  refine s_iload_n 3 dX2_rowPlate_4 rfl rfl ?_
  refine s_iload_n 1 dX2_rowPlate_5 rfl rfl ?_
  refine s_icmp_gt (tgt := 44) dX2_rowPlate_6 (by decide) ?_ ?_
  ·
    refine s_sub [] rfl ?_
    exact hK h
  ·
    refine s_aload_n 0 dX2_rowPlate_9 rfl rfl ?_
    refine s_iload_n 2 dX2_rowPlate_10 rfl rfl ?_
    refine s_callVi (s0 := 0) (As := [.int l2]) (rest := []) (cX2_nextRun_ok g l2 h) vl_X2_163 rfl (Nat.le_of_ble_eq_true rfl) (Nat.le_of_ble_eq_true rfl) dX2_rowPlate_11 rfl (fun x2 h1 => ?_)
    refine s_istore (ls' := [(4, .int x2), (0, rv g 0 0), (1, .int l1), (2, .int l2), (3, .int l3)]) dX2_rowPlate_14 (by decide) rfl ?_
    refine s_iload 0 dX2_rowPlate_16 rfl ?_
    refine s_iconst (v := (-1)) dX2_rowPlate_18 rfl ?_
    refine s_icmp_eq (tgt := 27) dX2_rowPlate_19 (by decide) ?_ ?_
    ·
      refine s_iload 0 dX2_rowPlate_27 rfl ?_
      exact s_iret rfl dX2_rowPlate_29
    ·
      refine s_iload_n 4 dX2_rowPlate_22 rfl rfl ?_
      refine s_iload_n 2 dX2_rowPlate_23 rfl rfl ?_
      refine s_icmp_ne (tgt := 30) dX2_rowPlate_24 (by decide) ?_ ?_
      ·
        refine s_iload 0 dX2_rowPlate_27 rfl ?_
        exact s_iret rfl dX2_rowPlate_29
      ·
        refine s_aload_n 1 dX2_rowPlate_30 rfl rfl ?_
        refine s_iload_n 3 dX2_rowPlate_31 rfl rfl ?_
        refine s_iload 0 dX2_rowPlate_32 rfl ?_
        refine s_callVi (s0 := 0) (As := [.int l2, .int x2]) (rest := []) (cX2_followerOf_ok g l2 x2 h1) vl_X2_104 rfl (Nat.le_of_ble_eq_true rfl) (Nat.le_of_ble_eq_true rfl) dX2_rowPlate_34 rfl (fun x4 h3 => ?_)
        refine s_istore_n (ls' := [(2, .int x4), (4, .int x2), (0, rv g 0 0), (1, .int l1), (3, .int l3)]) dX2_rowPlate_37 rfl (by decide) rfl ?_
        refine s_iincl 4 (w := 1) (fun x5 => [(3, .int x5), (2, .int x4), (4, .int x2), (0, rv g 0 0), (1, .int l1)]) dX2_rowPlate_38 rfl rfl (by decide) (fun _ => rfl) (fun x5 => ?_)
        refine s_goto (tgt := 4) dX2_rowPlate_41 (by decide) ?_
        refine s_sub [3, 4, 1, 0] rfl ?_
        exact hrec x4 x5 h3
set_option maxHeartbeats 4000000 in
set_option maxRecDepth 100000 in
theorem cX2_rowPlate_ok (g : GE) (l1 : Int32) (h : Hp) : Con cvi 0 g mX2_rowPlate 6 [rv g 0 0, .int l1] h (fX2_rowPlate l1 h) := by
  refine Con.of (by decide +kernel) (Nat.le_of_ble_eq_true rfl) ?_
  show Sim cvi 0 g mX2_rowPlate 6 0 [(0, rv g 0 0), (1, .int l1)] [] h _
  unfold fX2_rowPlate
  refine s_iconst (v := 0) dX2_rowPlate_0 rfl ?_
  refine s_istore_n (ls' := [(2, .int 0), (0, rv g 0 0), (1, .int l1)]) dX2_rowPlate_1 rfl (by decide) rfl ?_
  refine s_iconst (v := 0) dX2_rowPlate_2 rfl ?_
  refine s_istore_n (ls' := [(3, .int 0), (2, .int 0), (0, rv g 0 0), (1, .int l1)]) dX2_rowPlate_3 rfl (by decide) rfl ?_
  refine s_sub (ls' := [(0, rv g 0 0), (1, .int l1), (2, .int 0), (3, .int 0)]) [2, 3, 1, 0] rfl ?_
  refine sX2_rowPlate_l4 g l1 _ (fun h6 => ?_) FU 0 0 h
  refine s_iconst (v := (-1)) dX2_rowPlate_44 rfl ?_
  exact s_iret rfl dX2_rowPlate_45
def fX11_keep (l1 : Int32) (l2 : Int32) (h : Hp) : Option (Int32 × Hp) :=
  bnd (fX9_stageAt 0 l1 h) fun x2 h1 =>
  nl x2 (some ((-2), h1))
  fun b3 => (jn (κ := Hp → Option (Int32 × Hp)) (fun h5 => if l2 < 0 then (some ((-2), h5))
  else (if l2 ≤ 5 then (bnd (fX2_exploreAll b3 h5) fun _ h6 =>
  bnd (fX2_answer l2 h6) fun x8 h7 =>
  some (x8, h7))
  else (some ((-2), h5)))) fun k51_3 =>
  if l2 < 10 then (k51_3 h1)
  else (if (99 : Int32) < (l2 - (10 : Int32)) then (k51_3 h1)
  else (bnd (fX2_exploreAll b3 h1) fun _ h9 =>
  bnd (fX2_rowPlate (l2 - (10 : Int32)) h9) fun x11 h10 =>
  some (x11, h10))))
set_option maxHeartbeats 4000000 in
set_option maxRecDepth 100000 in
theorem cX11_keep_ok (g : GE) (l1 : Int32) (l2 : Int32) (h : Hp) : Con cvi 0 g mX11_keep 8 [rv g 9 0, .int l1, .int l2] h (fX11_keep l1 l2 h) := by
  refine Con.of (by decide +kernel) (Nat.le_of_ble_eq_true rfl) ?_
  show Sim cvi 0 g mX11_keep 8 0 [(0, rv g 9 0), (1, .int l1), (2, .int l2)] [] h _
  unfold fX11_keep
  refine s_aload_n 0 dX11_keep_0 rfl rfl ?_
  refine s_getr (s0 := 0) dX11_keep_1 fl_X11_10 ?_
  refine s_iload_n 1 dX11_keep_4 rfl rfl ?_
  refine s_callVq (s0 := 0) (As := [.int l1]) (rest := []) (cX9_stageAt_ok g 0 l1 h) vl_X11_85 rfl (Nat.le_of_ble_eq_true rfl) (Nat.le_of_ble_eq_true rfl) dX11_keep_5 rfl (fun x2 h1 => ?_)
  refine s_astoreq_n (ls' := [(3, rq g 6 x2), (0, rv g 9 0), (1, .int l1), (2, .int l2)]) dX11_keep_8 rfl (by decide) (List.forall_mem_cons.mpr ⟨rfl, (List.forall_mem_cons.mpr ⟨rfl, (List.forall_mem_cons.mpr ⟨rfl, (fun _ h => absurd h List.not_mem_nil)⟩)⟩)⟩) rfl ?_
  refine s_aloadq_n 0 dX11_keep_9 rfl rfl ?_
  refine s_ifnonnull x2 (tgt := 16) (fun qq => [(3, rq g 6 qq), (0, rv g 9 0), (1, .int l1), (2, .int l2)]) dX11_keep_10 (by decide) ?_ (fun b3 => ?_)
  ·
    refine s_bipush (v := (-2)) dX11_keep_13 rfl ?_
    exact s_iret rfl dX11_keep_15
  ·
    refine s_iload_n 3 dX11_keep_16 rfl rfl ?_
    refine s_bipush (v := 10) dX11_keep_17 rfl ?_
    refine s_jn (fun (k51_3 : Hp → Option (Int32 × Hp)) => ∀ (h5 : Hp), Sim cvi 0 g mX11_keep 8 51 [(0, rv g 9 0), (2, .int l2), (3, rv g 6 b3)] [] h5 (k51_3 h5)) (fun h5 => ?_) (fun k51_3 Hk51_3 => ?_)
    ·
      refine s_iload_n 1 dX11_keep_51 rfl rfl ?_
      refine s_if_lt (tgt := 60) dX11_keep_52 (by decide) ?_ ?_
      ·
        refine s_bipush (v := (-2)) dX11_keep_60 rfl ?_
        exact s_iret rfl dX11_keep_62
      ·
        refine s_iload_n 1 dX11_keep_55 rfl rfl ?_
        refine s_iconst (v := 5) dX11_keep_56 rfl ?_
        refine s_icmp_le (tgt := 63) dX11_keep_57 (by decide) ?_ ?_
        ·
          refine s_aload_n 0 dX11_keep_63 rfl rfl ?_
          refine s_getr (s0 := 0) dX11_keep_64 fl_X11_49 ?_
          refine s_aload_n 2 dX11_keep_67 rfl rfl ?_
          refine s_callVv (s0 := 0) (As := [rv g 6 b3]) (rest := []) (cX2_exploreAll_ok g b3 h5) vl_X11_131 rfl (Nat.le_of_ble_eq_true rfl) (Nat.le_of_ble_eq_true rfl) dX11_keep_68 rfl (fun h6 => ?_)
          refine s_aload_n 0 dX11_keep_71 rfl rfl ?_
          refine s_getr (s0 := 0) dX11_keep_72 fl_X11_49 ?_
          refine s_iload_n 1 dX11_keep_75 rfl rfl ?_
          refine s_callVi (s0 := 0) (As := [.int l2]) (rest := []) (cX2_answer_ok g l2 h6) vl_X11_140 rfl (Nat.le_of_ble_eq_true rfl) (Nat.le_of_ble_eq_true rfl) dX11_keep_76 rfl (fun x8 h7 => ?_)
          exact s_iret rfl dX11_keep_79
        ·
          refine s_bipush (v := (-2)) dX11_keep_60 rfl ?_
          exact s_iret rfl dX11_keep_62
    refine s_icmp_lt (tgt := 51) dX11_keep_19 (by decide) ?_ ?_
    ·
      refine s_sub [1, 3, 0] rfl ?_
      exact Hk51_3 h1
    ·
      refine s_iload_n 3 dX11_keep_22 rfl rfl ?_
      refine s_bipush (v := 10) dX11_keep_23 rfl ?_
      refine s_isub dX11_keep_25 ?_
      refine s_bipush (v := 99) dX11_keep_26 rfl ?_
      refine s_icmp_gt (tgt := 51) dX11_keep_28 (by decide) ?_ ?_
      ·
        refine s_sub [1, 3, 0] rfl ?_
        exact Hk51_3 h1
      ·
        refine s_aload_n 1 dX11_keep_31 rfl rfl ?_
        refine s_getr (s0 := 0) dX11_keep_32 fl_X11_49 ?_
        refine s_aload_n 0 dX11_keep_35 rfl rfl ?_
        refine s_callVv (s0 := 0) (As := [rv g 6 b3]) (rest := []) (cX2_exploreAll_ok g b3 h1) vl_X11_131 rfl (Nat.le_of_ble_eq_true rfl) (Nat.le_of_ble_eq_true rfl) dX11_keep_36 rfl (fun h9 => ?_)
        refine s_aload_n 1 dX11_keep_39 rfl rfl ?_
        refine s_getr (s0 := 0) dX11_keep_40 fl_X11_49 ?_
        refine s_iload_n 3 dX11_keep_43 rfl rfl ?_
        refine s_bipush (v := 10) dX11_keep_44 rfl ?_
        refine s_isub dX11_keep_46 ?_
        refine s_callVi (s0 := 0) (As := [.int (l2 - (10 : Int32))]) (rest := []) (cX2_rowPlate_ok g (l2 - (10 : Int32)) h9) vl_X11_137 rfl (Nat.le_of_ble_eq_true rfl) (Nat.le_of_ble_eq_true rfl) dX11_keep_47 rfl (fun x11 h10 => ?_)
        exact s_iret rfl dX11_keep_50
def fX11_least (l1 : Int32) (l2 : Int32) (l3 : Int32) (h : Hp) : Option (Int32 × Hp) :=
  bnd (fX9_stageAt 0 l1 h) fun x2 h1 =>
  bnd (fX9_logAt 0 l2 h1) fun x4 h3 =>
  nl x2 (some ((-1), h3))
  fun b5 => (nl x4 (some ((-1), h3))
  fun b6 => (bnd (fX6_tally b5 b6 (-1) h3) fun _ h7 =>
  if l3 = 0 then (some (rd h7 4 0 2, h7))
  else if l3 = 1 then (some (rd h7 4 0 3, h7))
  else if l3 = 2 then (some (rd h7 4 0 4, h7))
  else (some ((-1), h7))))
set_option maxHeartbeats 4000000 in
set_option maxRecDepth 100000 in
theorem cX11_least_ok (g : GE) (l1 : Int32) (l2 : Int32) (l3 : Int32) (h : Hp) : Con cvi 0 g mX11_least 5 [rv g 9 0, .int l1, .int l2, .int l3] h (fX11_least l1 l2 l3 h) := by
  refine Con.of (by decide +kernel) (Nat.le_of_ble_eq_true rfl) ?_
  show Sim cvi 0 g mX11_least 5 0 [(0, rv g 9 0), (1, .int l1), (2, .int l2), (3, .int l3)] [] h _
  unfold fX11_least
  refine s_aload_n 0 dX11_least_0 rfl rfl ?_
  refine s_getr (s0 := 0) dX11_least_1 fl_X11_10 ?_
  refine s_iload_n 1 dX11_least_4 rfl rfl ?_
  refine s_callVq (s0 := 0) (As := [.int l1]) (rest := []) (cX9_stageAt_ok g 0 l1 h) vl_X11_85 rfl (Nat.le_of_ble_eq_true rfl) (Nat.le_of_ble_eq_true rfl) dX11_least_5 rfl (fun x2 h1 => ?_)
  refine s_astoreq (ls' := [(4, rq g 6 x2), (0, rv g 9 0), (1, .int l1), (2, .int l2), (3, .int l3)]) dX11_least_8 (by decide) (List.forall_mem_cons.mpr ⟨rfl, (List.forall_mem_cons.mpr ⟨rfl, (List.forall_mem_cons.mpr ⟨rfl, (List.forall_mem_cons.mpr ⟨rfl, (fun _ h => absurd h List.not_mem_nil)⟩)⟩)⟩)⟩) rfl ?_
  refine s_aload_n 1 dX11_least_10 rfl rfl ?_
  refine s_getr (s0 := 0) dX11_least_11 fl_X11_10 ?_
  refine s_iload_n 3 dX11_least_14 rfl rfl ?_
  refine s_callVq (s0 := 0) (As := [.int l2]) (rest := []) (cX9_logAt_ok g 0 l2 h1) vl_X11_214 rfl (Nat.le_of_ble_eq_true rfl) (Nat.le_of_ble_eq_true rfl) dX11_least_15 rfl (fun x4 h3 => ?_)
  refine s_astoreq (ls' := [(5, rq g 1 x4), (4, rq g 6 x2), (0, rv g 9 0), (1, .int l1), (2, .int l2), (3, .int l3)]) dX11_least_18 (by decide) (List.forall_mem_cons.mpr ⟨cat_rq _ _ _, (List.forall_mem_cons.mpr ⟨rfl, (List.forall_mem_cons.mpr ⟨rfl, (List.forall_mem_cons.mpr ⟨rfl, (List.forall_mem_cons.mpr ⟨rfl, (fun _ h => absurd h List.not_mem_nil)⟩)⟩)⟩)⟩)⟩) rfl ?_
  refine s_aloadq 1 dX11_least_20 rfl ?_
  refine s_ifnull x2 (tgt := 30) (fun qq => [(5, rq g 1 x4), (4, rq g 6 qq), (0, rv g 9 0), (1, .int l1), (2, .int l2), (3, .int l3)]) dX11_least_22 (by decide) ?_ (fun b5 => ?_)
  ·
    refine s_iconst (v := (-1)) dX11_least_30 rfl ?_
    exact s_iret rfl dX11_least_31
  ·
    refine s_aloadq 0 dX11_least_25 rfl ?_
    refine s_ifnonnull x4 (tgt := 32) (fun qq => [(5, rq g 1 qq), (4, rv g 6 b5), (0, rv g 9 0), (1, .int l1), (2, .int l2), (3, .int l3)]) dX11_least_27 (by decide) ?_ (fun b6 => ?_)
    ·
      refine s_iconst (v := (-1)) dX11_least_30 rfl ?_
      exact s_iret rfl dX11_least_31
    ·
      refine s_aload_n 2 dX11_least_32 rfl rfl ?_
      refine s_getr (s0 := 0) dX11_least_33 fl_X11_53 ?_
      refine s_aload 1 dX11_least_36 rfl ?_
      refine s_aload 0 dX11_least_38 rfl ?_
      refine s_iconst (v := (-1)) dX11_least_40 rfl ?_
      refine s_callVv (s0 := 0) (As := [rv g 6 b5, rv g 1 b6, .int (-1)]) (rest := []) (cX6_tally_ok g b5 b6 (-1) h3) vl_X11_229 rfl (Nat.le_of_ble_eq_true rfl) (Nat.le_of_ble_eq_true rfl) dX11_least_41 rfl (fun h7 => ?_)
      refine s_iload_n 5 dX11_least_44 rfl rfl ?_
      refine s_tab 0 (tgt := 72) dX11_least_45 (by decide) (by decide) rfl (by decide) ?_ (fun e8 => ?_)
      ·
        refine s_aload_n 2 dX11_least_72 rfl rfl ?_
        refine s_getr (s0 := 0) dX11_least_73 fl_X11_53 ?_
        refine s_geti (s0 := 0) dX11_least_76 fl_X11_309 ?_
        exact s_iret rfl dX11_least_79
      refine s_tab 1 (tgt := 80) dX11_least_45 (by decide) (by decide) rfl (by decide) ?_ (fun e9 => ?_)
      ·
        refine s_aload_n 2 dX11_least_80 rfl rfl ?_
        refine s_getr (s0 := 0) dX11_least_81 fl_X11_53 ?_
        refine s_geti (s0 := 0) dX11_least_84 fl_X11_312 ?_
        exact s_iret rfl dX11_least_87
      refine s_tab 2 (tgt := 88) dX11_least_45 (by decide) (by decide) rfl (by decide) ?_ (fun e10 => ?_)
      ·
        refine s_aload_n 2 dX11_least_88 rfl rfl ?_
        refine s_getr (s0 := 0) dX11_least_89 fl_X11_53 ?_
        refine s_geti (s0 := 0) dX11_least_92 fl_X11_315 ?_
        exact s_iret rfl dX11_least_95
      have e8 := lv_neT e8 (show (0 : Int32).toInt = 0 from rfl)
      have e9 := lv_neT e9 (show (1 : Int32).toInt = 1 from rfl)
      have e10 := lv_neT e10 (show (2 : Int32).toInt = 2 from rfl)
      refine s_tabd (tgt := 96) dX11_least_45 (by omega) (by decide) ?_
      refine s_iconst (v := (-1)) dX11_least_96 rfl ?_
      exact s_iret rfl dX11_least_97
def fX8_waysFrom_l4 (a0 : Nat) (l1 : Int32) (K : Int32 → Hp → Option (Int32 × Hp)) (rec : Int32 → Int32 → Hp → Option (Int32 × Hp)) (l2 l3 : Int32) (h : Hp) : Option (Int32 × Hp) :=
  if (rd h 6 a0 2) ≤ l3 then (K l2 h)
  else (ck (ib l3 5) (
  bnd (fX8_way a0 l1 (ra h 33 a0 l3) h) fun x2 h1 =>
  lt (l2 + x2) fun x3 =>
  lt (l3 + 1) fun x4 =>
  rec x3 x4 h1))
def fX8_waysFrom (a0 : Nat) (l1 : Int32) (h : Hp) : Option (Int32 × Hp) :=
  itr2 (fX8_waysFrom_l4 a0 l1 (fun y5 h6 => some (y5, h6))) FU 0 0 h
set_option maxHeartbeats 4000000 in
set_option maxRecDepth 100000 in
theorem sX8_waysFrom_l4 (g : GE) (a0 : Nat) (l1 : Int32) (K : Int32 → Hp → Option (Int32 × Hp)) (hK : ∀ (y2 : Int32) (h : Hp), Sim cvi 0 g mX8_waysFrom 3 32 [(2, .int y2)] [] h (K y2 h)) : ∀ (n : Nat) (l2 l3 : Int32) (h : Hp), Sim cvi 0 g mX8_waysFrom 3 4 [(0, rv g 6 a0), (1, .int l1), (2, .int l2), (3, .int l3)] [] h (itr2 (fX8_waysFrom_l4 a0 l1 K) n l2 l3 h) := by
  refine s_itr2 (fun l2 l3 h o => Sim cvi 0 g mX8_waysFrom 3 4 [(0, rv g 6 a0), (1, .int l1), (2, .int l2), (3, .int l3)] [] h o) (fun _ _ _ => s_none) ?_
  intro rec hrec l2 l3 h
  unfold fX8_waysFrom_l4
  refine s_iload_n 3 dX8_waysFrom_4 rfl rfl ?_
  refine s_aload_n 0 dX8_waysFrom_5 rfl rfl ?_
  refine s_geti (s0 := a0) dX8_waysFrom_6 fl_X8_18 ?_
  refine s_icmp_ge (tgt := 32) dX8_waysFrom_9 (by decide) ?_ ?_
  ·
    refine s_sub [2] rfl ?_
    exact hK l2 h
  ·
    refine s_iload_n 2 dX8_waysFrom_12 rfl rfl ?_
    refine s_aload_n 0 dX8_waysFrom_13 rfl rfl ?_
    refine s_iload_n 1 dX8_waysFrom_14 rfl rfl ?_
    refine s_aload_n 0 dX8_waysFrom_15 rfl rfl ?_
    refine s_getr1 (k2 := 33) (s0 := a0) rfl dX8_waysFrom_16 fl_X8_21 ?_
    refine s_iload_n 3 dX8_waysFrom_19 rfl rfl ?_
    refine s_iald (s0 := a0) ka_33 dX8_waysFrom_20 ?_
    refine s_callVi (s0 := a0) (As := [.int l1, .int (ra h 33 a0 l3)]) (rest := [.int l2]) (cX8_way_ok g a0 l1 (ra h 33 a0 l3) h) vl_X8_67 rfl (Nat.le_of_ble_eq_true rfl) (Nat.le_of_ble_eq_true rfl) dX8_waysFrom_21 rfl (fun x2 h1 => ?_)
    refine s_iadd dX8_waysFrom_24 ?_
    refine s_leti (fun x3 => ?_)
    refine s_istore_n (ls' := [(2, .int x3), (0, rv g 6 a0), (1, .int l1), (3, .int l3)]) dX8_waysFrom_25 rfl (by decide) rfl ?_
    refine s_iincl 3 (w := 1) (fun x4 => [(3, .int x4), (2, .int x3), (0, rv g 6 a0), (1, .int l1)]) dX8_waysFrom_26 rfl rfl (by decide) (fun _ => rfl) (fun x4 => ?_)
    refine s_goto (tgt := 4) dX8_waysFrom_29 (by decide) ?_
    refine s_sub [2, 3, 1, 0] rfl ?_
    exact hrec x3 x4 h1
set_option maxHeartbeats 4000000 in
set_option maxRecDepth 100000 in
theorem cX8_waysFrom_ok (g : GE) (a0 : Nat) (l1 : Int32) (h : Hp) : Con cvi 0 g mX8_waysFrom 3 [rv g 6 a0, .int l1] h (fX8_waysFrom a0 l1 h) := by
  refine Con.of (by decide +kernel) (Nat.le_of_ble_eq_true rfl) ?_
  show Sim cvi 0 g mX8_waysFrom 3 0 [(0, rv g 6 a0), (1, .int l1)] [] h _
  unfold fX8_waysFrom
  refine s_iconst (v := 0) dX8_waysFrom_0 rfl ?_
  refine s_istore_n (ls' := [(2, .int 0), (0, rv g 6 a0), (1, .int l1)]) dX8_waysFrom_1 rfl (by decide) rfl ?_
  refine s_iconst (v := 0) dX8_waysFrom_2 rfl ?_
  refine s_istore_n (ls' := [(3, .int 0), (2, .int 0), (0, rv g 6 a0), (1, .int l1)]) dX8_waysFrom_3 rfl (by decide) rfl ?_
  refine s_sub (ls' := [(0, rv g 6 a0), (1, .int l1), (2, .int 0), (3, .int 0)]) [2, 3, 1, 0] rfl ?_
  refine sX8_waysFrom_l4 g a0 l1 _ (fun y5 h6 => ?_) FU 0 0 h
  refine s_iload_n 0 dX8_waysFrom_32 rfl rfl ?_
  exact s_iret rfl dX8_waysFrom_33
def fX8_centre_l4 (a0 : Nat) (K : Int32 → Hp → Option (Int32 × Hp)) (rec : Int32 → Int32 → Hp → Option (Int32 × Hp)) (l1 l2 : Int32) (h : Hp) : Option (Int32 × Hp) :=
  if (10 : Int32) ≤ l2 then (K l1 h)
  else (bnd (fX8_waysFrom a0 l2 h) fun x2 h1 =>
  bnd (fX8_waysFrom a0 l1 h1) fun x4 h3 =>
  jn (κ := Int32 → Hp → Option (Int32 × Hp)) (fun y1_4 h6 => lt (l2 + 1) fun x7 =>
  rec y1_4 x7 h6) fun k25_4 =>
  if x4 ≤ x2 then (k25_4 l1 h3)
  else (k25_4 l2 h3))
def fX8_centre (a0 : Nat) (h : Hp) : Option (Int32 × Hp) :=
  itr2 (fX8_centre_l4 a0 (fun y8 h9 => some (y8, h9))) FU 0 1 h
set_option maxHeartbeats 4000000 in
set_option maxRecDepth 100000 in
theorem sX8_centre_l4 (g : GE) (a0 : Nat) (K : Int32 → Hp → Option (Int32 × Hp)) (hK : ∀ (y1 : Int32) (h : Hp), Sim cvi 0 g mX8_centre 4 31 [(1, .int y1)] [] h (K y1 h)) : ∀ (n : Nat) (l1 l2 : Int32) (h : Hp), Sim cvi 0 g mX8_centre 4 4 [(0, rv g 6 a0), (1, .int l1), (2, .int l2)] [] h (itr2 (fX8_centre_l4 a0 K) n l1 l2 h) := by
  refine s_itr2 (fun l1 l2 h o => Sim cvi 0 g mX8_centre 4 4 [(0, rv g 6 a0), (1, .int l1), (2, .int l2)] [] h o) (fun _ _ _ => s_none) ?_
  intro rec hrec l1 l2 h
  unfold fX8_centre_l4
  refine s_iload_n 2 dX8_centre_4 rfl rfl ?_
  refine s_bipush (v := 10) dX8_centre_5 rfl ?_
  refine s_icmp_ge (tgt := 31) dX8_centre_7 (by decide) ?_ ?_
  ·
    refine s_sub [1] rfl ?_
    exact hK l1 h
  ·
    refine s_aload_n 0 dX8_centre_10 rfl rfl ?_
    refine s_iload_n 2 dX8_centre_11 rfl rfl ?_
    refine s_callVi (s0 := a0) (As := [.int l2]) (rest := []) (cX8_waysFrom_ok g a0 l2 h) vl_X8_70 rfl (Nat.le_of_ble_eq_true rfl) (Nat.le_of_ble_eq_true rfl) dX8_centre_12 rfl (fun x2 h1 => ?_)
    refine s_aload_n 0 dX8_centre_15 rfl rfl ?_
    refine s_iload_n 1 dX8_centre_16 rfl rfl ?_
    refine s_callVi (s0 := a0) (As := [.int l1]) (rest := [.int x2]) (cX8_waysFrom_ok g a0 l1 h1) vl_X8_70 rfl (Nat.le_of_ble_eq_true rfl) (Nat.le_of_ble_eq_true rfl) dX8_centre_17 rfl (fun x4 h3 => ?_)
    refine s_jn (fun (k25_4 : Int32 → Hp → Option (Int32 × Hp)) => ∀ (y1_4 : Int32) (h6 : Hp), Sim cvi 0 g mX8_centre 4 25 [(0, rv g 6 a0), (1, .int y1_4), (2, .int l2)] [] h6 (k25_4 y1_4 h6)) (fun y1_4 h6 => ?_) (fun k25_4 Hk25_4 => ?_)
    ·
      refine s_iincl 2 (w := 1) (fun x7 => [(2, .int x7), (0, rv g 6 a0), (1, .int y1_4)]) dX8_centre_25 rfl rfl (by decide) (fun _ => rfl) (fun x7 => ?_)
      refine s_goto (tgt := 4) dX8_centre_28 (by decide) ?_
      refine s_sub [1, 2, 0] rfl ?_
      exact hrec y1_4 x7 h6
    refine s_icmp_ge (tgt := 25) dX8_centre_20 (by decide) ?_ ?_
    ·
      exact Hk25_4 l1 h3
    ·
      refine s_iload_n 2 dX8_centre_23 rfl rfl ?_
      refine s_istore_n (ls' := [(1, .int l2), (0, rv g 6 a0), (2, .int l2)]) dX8_centre_24 rfl (by decide) rfl ?_
      refine s_sub [1, 0, 2] rfl ?_
      exact Hk25_4 l2 h3
set_option maxHeartbeats 4000000 in
set_option maxRecDepth 100000 in
theorem cX8_centre_ok (g : GE) (a0 : Nat) (h : Hp) : Con cvi 0 g mX8_centre 4 [rv g 6 a0] h (fX8_centre a0 h) := by
  refine Con.of (by decide +kernel) (Nat.le_of_ble_eq_true rfl) ?_
  show Sim cvi 0 g mX8_centre 4 0 [(0, rv g 6 a0)] [] h _
  unfold fX8_centre
  refine s_iconst (v := 0) dX8_centre_0 rfl ?_
  refine s_istore_n (ls' := [(1, .int 0), (0, rv g 6 a0)]) dX8_centre_1 rfl (by decide) rfl ?_
  refine s_iconst (v := 1) dX8_centre_2 rfl ?_
  refine s_istore_n (ls' := [(2, .int 1), (1, .int 0), (0, rv g 6 a0)]) dX8_centre_3 rfl (by decide) rfl ?_
  refine s_sub (ls' := [(0, rv g 6 a0), (1, .int 0), (2, .int 1)]) [2, 1, 0] rfl ?_
  refine sX8_centre_l4 g a0 _ (fun y8 h9 => ?_) FU 0 1 h
  refine s_iload_n 0 dX8_centre_31 rfl rfl ?_
  exact s_iret rfl dX8_centre_32
def fX8_closeCouples_l16 (a0 : Nat) (l2 : Int32) (K : Int32 → Hp → Option (Int32 × Hp)) (rec : Int32 → Int32 → Hp → Option (Int32 × Hp)) (l1 l3 : Int32) (h : Hp) : Option (Int32 × Hp) :=
  if (rd h 6 a0 2) ≤ l3 then (K l1 h)
  else (ck (ib l2 5) (
  ck (ib l3 5) (
  jn (κ := Int32 → Hp → Option (Int32 × Hp)) (fun y1_1 h3 => lt (l3 + 1) fun x4 =>
  rec y1_1 x4 h3) fun k42_1 =>
  if (ra h 33 a0 l2) = (ra h 33 a0 l3) then (lt (l1 + 1) fun x5 =>
  k42_1 x5 h)
  else (k42_1 l1 h))))
def fX8_closeCouples_l4 (a0 : Nat) (K : Int32 → Hp → Option (Int32 × Hp)) (rec : Int32 → Int32 → Hp → Option (Int32 × Hp)) (l1 l2 : Int32) (h : Hp) : Option (Int32 × Hp) :=
  if (rd h 6 a0 2) ≤ l2 then (K l1 h)
  else (lt (l2 + (1 : Int32)) fun x1 =>
  itr2 (fX8_closeCouples_l16 a0 l2 (fun y6 h7 => lt (l2 + 1) fun x8 =>
  rec y6 x8 h7)) FU l1 x1 h)
def fX8_closeCouples (a0 : Nat) (h : Hp) : Option (Int32 × Hp) :=
  itr2 (fX8_closeCouples_l4 a0 (fun y9 h10 => some (y9, h10))) FU 0 0 h
set_option maxHeartbeats 4000000 in
set_option maxRecDepth 100000 in
theorem sX8_closeCouples_l16 (g : GE) (a0 : Nat) (l2 : Int32) (K : Int32 → Hp → Option (Int32 × Hp)) (hK : ∀ (y1 : Int32) (h : Hp), Sim cvi 0 g mX8_closeCouples 2 48 [(0, rv g 6 a0), (1, .int y1), (2, .int l2)] [] h (K y1 h)) : ∀ (n : Nat) (l1 l3 : Int32) (h : Hp), Sim cvi 0 g mX8_closeCouples 2 16 [(0, rv g 6 a0), (1, .int l1), (2, .int l2), (3, .int l3)] [] h (itr2 (fX8_closeCouples_l16 a0 l2 K) n l1 l3 h) := by
  refine s_itr2 (fun l1 l3 h o => Sim cvi 0 g mX8_closeCouples 2 16 [(0, rv g 6 a0), (1, .int l1), (2, .int l2), (3, .int l3)] [] h o) (fun _ _ _ => s_none) ?_
  intro rec hrec l1 l3 h
  unfold fX8_closeCouples_l16
  refine s_iload_n 3 dX8_closeCouples_16 rfl rfl ?_
  refine s_aload_n 0 dX8_closeCouples_17 rfl rfl ?_
  refine s_geti (s0 := a0) dX8_closeCouples_18 fl_X8_18 ?_
  refine s_icmp_ge (tgt := 48) dX8_closeCouples_21 (by decide) ?_ ?_
  ·
    refine s_sub [0, 1, 2] rfl ?_
    exact hK l1 h
  ·
    refine s_aload_n 0 dX8_closeCouples_24 rfl rfl ?_
    refine s_getr1 (k2 := 33) (s0 := a0) rfl dX8_closeCouples_25 fl_X8_21 ?_
    refine s_iload_n 2 dX8_closeCouples_28 rfl rfl ?_
    refine s_iald (s0 := a0) ka_33 dX8_closeCouples_29 ?_
    refine s_aload_n 0 dX8_closeCouples_30 rfl rfl ?_
    refine s_getr1 (k2 := 33) (s0 := a0) rfl dX8_closeCouples_31 fl_X8_21 ?_
    refine s_iload_n 3 dX8_closeCouples_34 rfl rfl ?_
    refine s_iald (s0 := a0) ka_33 dX8_closeCouples_35 ?_
    refine s_jn (fun (k42_1 : Int32 → Hp → Option (Int32 × Hp)) => ∀ (y1_1 : Int32) (h3 : Hp), Sim cvi 0 g mX8_closeCouples 2 42 [(0, rv g 6 a0), (1, .int y1_1), (2, .int l2), (3, .int l3)] [] h3 (k42_1 y1_1 h3)) (fun y1_1 h3 => ?_) (fun k42_1 Hk42_1 => ?_)
    ·
      refine s_iincl 3 (w := 1) (fun x4 => [(3, .int x4), (0, rv g 6 a0), (1, .int y1_1), (2, .int l2)]) dX8_closeCouples_42 rfl rfl (by decide) (fun _ => rfl) (fun x4 => ?_)
      refine s_goto (tgt := 16) dX8_closeCouples_45 (by decide) ?_
      refine s_sub [1, 2, 3, 0] rfl ?_
      exact hrec y1_1 x4 h3
    refine s_icmp_ne (tgt := 42) dX8_closeCouples_36 (by decide) ?_ ?_
    ·
      refine s_iincl 1 (w := 1) (fun x5 => [(1, .int x5), (0, rv g 6 a0), (2, .int l2), (3, .int l3)]) dX8_closeCouples_39 rfl rfl (by decide) (fun _ => rfl) (fun x5 => ?_)
      refine s_sub [1, 0, 2, 3] rfl ?_
      exact Hk42_1 x5 h
    ·
      exact Hk42_1 l1 h
set_option maxHeartbeats 4000000 in
set_option maxRecDepth 100000 in
theorem sX8_closeCouples_l4 (g : GE) (a0 : Nat) (K : Int32 → Hp → Option (Int32 × Hp)) (hK : ∀ (y1 : Int32) (h : Hp), Sim cvi 0 g mX8_closeCouples 2 54 [(1, .int y1)] [] h (K y1 h)) : ∀ (n : Nat) (l1 l2 : Int32) (h : Hp), Sim cvi 0 g mX8_closeCouples 2 4 [(0, rv g 6 a0), (1, .int l1), (2, .int l2)] [] h (itr2 (fX8_closeCouples_l4 a0 K) n l1 l2 h) := by
  refine s_itr2 (fun l1 l2 h o => Sim cvi 0 g mX8_closeCouples 2 4 [(0, rv g 6 a0), (1, .int l1), (2, .int l2)] [] h o) (fun _ _ _ => s_none) ?_
  intro rec hrec l1 l2 h
  unfold fX8_closeCouples_l4
  refine s_iload_n 2 dX8_closeCouples_4 rfl rfl ?_
  refine s_aload_n 0 dX8_closeCouples_5 rfl rfl ?_
  refine s_geti (s0 := a0) dX8_closeCouples_6 fl_X8_18 ?_
  refine s_icmp_ge (tgt := 54) dX8_closeCouples_9 (by decide) ?_ ?_
  ·
    refine s_sub [1] rfl ?_
    exact hK l1 h
  ·
    refine s_iload_n 2 dX8_closeCouples_12 rfl rfl ?_
    refine s_iconst (v := 1) dX8_closeCouples_13 rfl ?_
    refine s_iadd dX8_closeCouples_14 ?_
    refine s_leti (fun x1 => ?_)
    refine s_istore_n (ls' := [(3, .int x1), (0, rv g 6 a0), (1, .int l1), (2, .int l2)]) dX8_closeCouples_15 rfl (by decide) rfl ?_
    refine s_sub (ls' := [(0, rv g 6 a0), (1, .int l1), (2, .int l2), (3, .int x1)]) [1, 2, 3, 0] rfl ?_
    refine sX8_closeCouples_l16 g a0 l2 _ (fun y6 h7 => ?_) FU l1 x1 h
    refine s_iincl 2 (w := 1) (fun x8 => [(2, .int x8), (0, rv g 6 a0), (1, .int y6)]) dX8_closeCouples_48 rfl rfl (by decide) (fun _ => rfl) (fun x8 => ?_)
    refine s_goto (tgt := 4) dX8_closeCouples_51 (by decide) ?_
    refine s_sub [1, 2, 0] rfl ?_
    exact hrec y6 x8 h7
set_option maxHeartbeats 4000000 in
set_option maxRecDepth 100000 in
theorem cX8_closeCouples_ok (g : GE) (a0 : Nat) (h : Hp) : Con cvi 0 g mX8_closeCouples 2 [rv g 6 a0] h (fX8_closeCouples a0 h) := by
  refine Con.of (by decide +kernel) (Nat.le_of_ble_eq_true rfl) ?_
  show Sim cvi 0 g mX8_closeCouples 2 0 [(0, rv g 6 a0)] [] h _
  unfold fX8_closeCouples
  refine s_iconst (v := 0) dX8_closeCouples_0 rfl ?_
  refine s_istore_n (ls' := [(1, .int 0), (0, rv g 6 a0)]) dX8_closeCouples_1 rfl (by decide) rfl ?_
  refine s_iconst (v := 0) dX8_closeCouples_2 rfl ?_
  refine s_istore_n (ls' := [(2, .int 0), (1, .int 0), (0, rv g 6 a0)]) dX8_closeCouples_3 rfl (by decide) rfl ?_
  refine s_sub (ls' := [(0, rv g 6 a0), (1, .int 0), (2, .int 0)]) [2, 1, 0] rfl ?_
  refine sX8_closeCouples_l4 g a0 _ (fun y9 h10 => ?_) FU 0 0 h
  refine s_iload_n 0 dX8_closeCouples_54 rfl rfl ?_
  exact s_iret rfl dX8_closeCouples_55
def fX8_fallsBefore_l4 (a0 : Nat) (l1 : Int32) (K : Int32 → Hp → Option (Int32 × Hp)) (rec : Int32 → Int32 → Hp → Option (Int32 × Hp)) (l2 l3 : Int32) (h : Hp) : Option (Int32 × Hp) :=
  if (rd h 6 a0 2) ≤ l3 then (K l2 h)
  else (ck (ib l3 5) (
  ck (ib l1 5) (
  jn (κ := Int32 → Hp → Option (Int32 × Hp)) (fun y2_0 h2 => lt (l3 + 1) fun x3 =>
  rec y2_0 x3 h2) fun k50_0 =>
  jn (κ := Hp → Option (Int32 × Hp)) (fun h5 => lt (l2 + 1) fun x6 =>
  k50_0 x6 h5) fun k47_3 =>
  if (ra h 35 a0 l3) < (ra h 35 a0 l1) then (k47_3 h)
  else (ck (ib l3 5) (
  ck (ib l1 5) (
  if (ra h 35 a0 l3) = (ra h 35 a0 l1) then (if l1 ≤ l3 then (k50_0 l2 h)
  else (k47_3 h))
  else (k50_0 l2 h)))))))
def fX8_fallsBefore (a0 : Nat) (l1 : Int32) (h : Hp) : Option (Int32 × Hp) :=
  itr2 (fX8_fallsBefore_l4 a0 l1 (fun y7 h8 => some (y7, h8))) FU 0 0 h
set_option maxHeartbeats 4000000 in
set_option maxRecDepth 100000 in
theorem sX8_fallsBefore_l4 (g : GE) (a0 : Nat) (l1 : Int32) (K : Int32 → Hp → Option (Int32 × Hp)) (hK : ∀ (y2 : Int32) (h : Hp), Sim cvi 0 g mX8_fallsBefore 2 56 [(2, .int y2)] [] h (K y2 h)) : ∀ (n : Nat) (l2 l3 : Int32) (h : Hp), Sim cvi 0 g mX8_fallsBefore 2 4 [(0, rv g 6 a0), (1, .int l1), (2, .int l2), (3, .int l3)] [] h (itr2 (fX8_fallsBefore_l4 a0 l1 K) n l2 l3 h) := by
  refine s_itr2 (fun l2 l3 h o => Sim cvi 0 g mX8_fallsBefore 2 4 [(0, rv g 6 a0), (1, .int l1), (2, .int l2), (3, .int l3)] [] h o) (fun _ _ _ => s_none) ?_
  intro rec hrec l2 l3 h
  unfold fX8_fallsBefore_l4
  refine s_iload_n 3 dX8_fallsBefore_4 rfl rfl ?_
  refine s_aload_n 0 dX8_fallsBefore_5 rfl rfl ?_
  refine s_geti (s0 := a0) dX8_fallsBefore_6 fl_X8_18 ?_
  refine s_icmp_ge (tgt := 56) dX8_fallsBefore_9 (by decide) ?_ ?_
  ·
    refine s_sub [2] rfl ?_
    exact hK l2 h
  ·
    refine s_aload_n 0 dX8_fallsBefore_12 rfl rfl ?_
    refine s_getr1 (k2 := 35) (s0 := a0) rfl dX8_fallsBefore_13 fl_X8_28 ?_
    refine s_iload_n 3 dX8_fallsBefore_16 rfl rfl ?_
    refine s_iald (s0 := a0) ka_35 dX8_fallsBefore_17 ?_
    refine s_aload_n 0 dX8_fallsBefore_18 rfl rfl ?_
    refine s_getr1 (k2 := 35) (s0 := a0) rfl dX8_fallsBefore_19 fl_X8_28 ?_
    refine s_iload_n 1 dX8_fallsBefore_22 rfl rfl ?_
    refine s_iald (s0 := a0) ka_35 dX8_fallsBefore_23 ?_
    refine s_jn (fun (k50_0 : Int32 → Hp → Option (Int32 × Hp)) => ∀ (y2_0 : Int32) (h2 : Hp), Sim cvi 0 g mX8_fallsBefore 2 50 [(0, rv g 6 a0), (1, .int l1), (2, .int y2_0), (3, .int l3)] [] h2 (k50_0 y2_0 h2)) (fun y2_0 h2 => ?_) (fun k50_0 Hk50_0 => ?_)
    ·
      refine s_iincl 3 (w := 1) (fun x3 => [(3, .int x3), (0, rv g 6 a0), (1, .int l1), (2, .int y2_0)]) dX8_fallsBefore_50 rfl rfl (by decide) (fun _ => rfl) (fun x3 => ?_)
      refine s_goto (tgt := 4) dX8_fallsBefore_53 (by decide) ?_
      refine s_sub [1, 2, 3, 0] rfl ?_
      exact hrec y2_0 x3 h2
    refine s_jn (fun (k47_3 : Hp → Option (Int32 × Hp)) => ∀ (h5 : Hp), Sim cvi 0 g mX8_fallsBefore 2 47 [(0, rv g 6 a0), (1, .int l1), (2, .int l2), (3, .int l3)] [] h5 (k47_3 h5)) (fun h5 => ?_) (fun k47_3 Hk47_3 => ?_)
    ·
      refine s_iincl 2 (w := 1) (fun x6 => [(2, .int x6), (0, rv g 6 a0), (1, .int l1), (3, .int l3)]) dX8_fallsBefore_47 rfl rfl (by decide) (fun _ => rfl) (fun x6 => ?_)
      refine s_sub [1, 2, 0, 3] rfl ?_
      exact Hk50_0 x6 h5
    refine s_icmp_lt (tgt := 47) dX8_fallsBefore_24 (by decide) ?_ ?_
    ·
      exact Hk47_3 h
    ·
      refine s_aload_n 0 dX8_fallsBefore_27 rfl rfl ?_
      refine s_getr1 (k2 := 35) (s0 := a0) rfl dX8_fallsBefore_28 fl_X8_28 ?_
      refine s_iload_n 3 dX8_fallsBefore_31 rfl rfl ?_
      refine s_iald (s0 := a0) ka_35 dX8_fallsBefore_32 ?_
      refine s_aload_n 0 dX8_fallsBefore_33 rfl rfl ?_
      refine s_getr1 (k2 := 35) (s0 := a0) rfl dX8_fallsBefore_34 fl_X8_28 ?_
      refine s_iload_n 1 dX8_fallsBefore_37 rfl rfl ?_
      refine s_iald (s0 := a0) ka_35 dX8_fallsBefore_38 ?_
      refine s_icmp_ne (tgt := 50) dX8_fallsBefore_39 (by decide) ?_ ?_
      ·
        refine s_iload_n 3 dX8_fallsBefore_42 rfl rfl ?_
        refine s_iload_n 1 dX8_fallsBefore_43 rfl rfl ?_
        refine s_icmp_ge (tgt := 50) dX8_fallsBefore_44 (by decide) ?_ ?_
        ·
          exact Hk50_0 l2 h
        ·
          exact Hk47_3 h
      ·
        exact Hk50_0 l2 h
set_option maxHeartbeats 4000000 in
set_option maxRecDepth 100000 in
theorem cX8_fallsBefore_ok (g : GE) (a0 : Nat) (l1 : Int32) (h : Hp) : Con cvi 0 g mX8_fallsBefore 2 [rv g 6 a0, .int l1] h (fX8_fallsBefore a0 l1 h) := by
  refine Con.of (by decide +kernel) (Nat.le_of_ble_eq_true rfl) ?_
  show Sim cvi 0 g mX8_fallsBefore 2 0 [(0, rv g 6 a0), (1, .int l1)] [] h _
  unfold fX8_fallsBefore
  refine s_iconst (v := 0) dX8_fallsBefore_0 rfl ?_
  refine s_istore_n (ls' := [(2, .int 0), (0, rv g 6 a0), (1, .int l1)]) dX8_fallsBefore_1 rfl (by decide) rfl ?_
  refine s_iconst (v := 0) dX8_fallsBefore_2 rfl ?_
  refine s_istore_n (ls' := [(3, .int 0), (2, .int 0), (0, rv g 6 a0), (1, .int l1)]) dX8_fallsBefore_3 rfl (by decide) rfl ?_
  refine s_sub (ls' := [(0, rv g 6 a0), (1, .int l1), (2, .int 0), (3, .int 0)]) [2, 3, 1, 0] rfl ?_
  refine sX8_fallsBefore_l4 g a0 l1 _ (fun y7 h8 => ?_) FU 0 0 h
  refine s_iload_n 0 dX8_fallsBefore_56 rfl rfl ?_
  exact s_iret rfl dX8_fallsBefore_57
def fX8_falling_l2 (a0 : Nat) (l1 : Int32) (K : Hp → Option (Int32 × Hp)) (rec : Int32 → Hp → Option (Int32 × Hp)) (l2 : Int32) (h : Hp) : Option (Int32 × Hp) :=
  if (rd h 6 a0 2) ≤ l2 then (K h)
  else (bnd (fX8_fallsBefore a0 l2 h) fun x2 h1 =>
  if x2 = l1 then (some (l2, h1))
  else (lt (l2 + 1) fun x3 =>
  rec x3 h1))
def fX8_falling (a0 : Nat) (l1 : Int32) (h : Hp) : Option (Int32 × Hp) :=
  itr1 (fX8_falling_l2 a0 l1 (fun h4 => some ((-1), h4))) FU 0 h
set_option maxHeartbeats 4000000 in
set_option maxRecDepth 100000 in
theorem sX8_falling_l2 (g : GE) (a0 : Nat) (l1 : Int32) (K : Hp → Option (Int32 × Hp)) (hK : ∀ (h : Hp), Sim cvi 0 g mX8_falling 3 27 [] [] h (K  h)) : ∀ (n : Nat) (l2 : Int32) (h : Hp), Sim cvi 0 g mX8_falling 3 2 [(0, rv g 6 a0), (1, .int l1), (2, .int l2)] [] h (itr1 (fX8_falling_l2 a0 l1 K) n l2 h) := by
  refine s_itr1 (fun l2 h o => Sim cvi 0 g mX8_falling 3 2 [(0, rv g 6 a0), (1, .int l1), (2, .int l2)] [] h o) (fun _ _ => s_none) ?_
  intro rec hrec l2 h
  unfold fX8_falling_l2
  refine s_iload_n 2 dX8_falling_2 rfl rfl ?_
  refine s_aload_n 0 dX8_falling_3 rfl rfl ?_
  refine s_geti (s0 := a0) dX8_falling_4 fl_X8_18 ?_
  refine s_icmp_ge (tgt := 27) dX8_falling_7 (by decide) ?_ ?_
  ·
    refine s_sub [] rfl ?_
    exact hK h
  ·
    refine s_aload_n 0 dX8_falling_10 rfl rfl ?_
    refine s_iload_n 2 dX8_falling_11 rfl rfl ?_
    refine s_callVi (s0 := a0) (As := [.int l2]) (rest := []) (cX8_fallsBefore_ok g a0 l2 h) vl_X8_73 rfl (Nat.le_of_ble_eq_true rfl) (Nat.le_of_ble_eq_true rfl) dX8_falling_12 rfl (fun x2 h1 => ?_)
    refine s_iload_n 1 dX8_falling_15 rfl rfl ?_
    refine s_icmp_ne (tgt := 21) dX8_falling_16 (by decide) ?_ ?_
    ·
      refine s_iload_n 2 dX8_falling_19 rfl rfl ?_
      exact s_iret rfl dX8_falling_20
    ·
      refine s_iincl 2 (w := 1) (fun x3 => [(2, .int x3), (0, rv g 6 a0), (1, .int l1)]) dX8_falling_21 rfl rfl (by decide) (fun _ => rfl) (fun x3 => ?_)
      refine s_goto (tgt := 2) dX8_falling_24 (by decide) ?_
      refine s_sub [1, 2, 0] rfl ?_
      exact hrec x3 h1
set_option maxHeartbeats 4000000 in
set_option maxRecDepth 100000 in
theorem cX8_falling_ok (g : GE) (a0 : Nat) (l1 : Int32) (h : Hp) : Con cvi 0 g mX8_falling 3 [rv g 6 a0, .int l1] h (fX8_falling a0 l1 h) := by
  refine Con.of (by decide +kernel) (Nat.le_of_ble_eq_true rfl) ?_
  show Sim cvi 0 g mX8_falling 3 0 [(0, rv g 6 a0), (1, .int l1)] [] h _
  unfold fX8_falling
  refine s_iconst (v := 0) dX8_falling_0 rfl ?_
  refine s_istore_n (ls' := [(2, .int 0), (0, rv g 6 a0), (1, .int l1)]) dX8_falling_1 rfl (by decide) rfl ?_
  refine s_sub (ls' := [(0, rv g 6 a0), (1, .int l1), (2, .int 0)]) [1, 2, 0] rfl ?_
  refine sX8_falling_l2 g a0 l1 _ (fun h4 => ?_) FU 0 h
  refine s_iconst (v := (-1)) dX8_falling_27 rfl ?_
  exact s_iret rfl dX8_falling_28
def fX8_latePlates_l4 (a0 : Nat) (K : Int32 → Hp → Option (Int32 × Hp)) (rec : Int32 → Int32 → Hp → Option (Int32 × Hp)) (l1 l2 : Int32) (h : Hp) : Option (Int32 × Hp) :=
  if (rd h 6 a0 2) ≤ l2 then (K l1 h)
  else (ck (ib l2 5) (
  ck (ib l2 5) (
  bnd (fX8_way a0 (rd h 6 a0 1) (ra h 33 a0 l2) h) fun x2 h1 =>
  jn (κ := Int32 → Hp → Option (Int32 × Hp)) (fun y1_2 h4 => lt (l2 + 1) fun x5 =>
  rec y1_2 x5 h4) fun k41_2 =>
  if x2 < (ra h 35 a0 l2) then (k41_2 l1 h1)
  else (lt (l1 ||| ((1 : Int32) <<< (l2 &&& 31))) fun x6 =>
  k41_2 x6 h1))))
def fX8_latePlates (a0 : Nat) (h : Hp) : Option (Int32 × Hp) :=
  itr2 (fX8_latePlates_l4 a0 (fun y7 h8 => some (y7, h8))) FU 0 0 h
set_option maxHeartbeats 4000000 in
set_option maxRecDepth 100000 in
theorem sX8_latePlates_l4 (g : GE) (a0 : Nat) (K : Int32 → Hp → Option (Int32 × Hp)) (hK : ∀ (y1 : Int32) (h : Hp), Sim cvi 0 g mX8_latePlates 3 47 [(1, .int y1)] [] h (K y1 h)) : ∀ (n : Nat) (l1 l2 : Int32) (h : Hp), Sim cvi 0 g mX8_latePlates 3 4 [(0, rv g 6 a0), (1, .int l1), (2, .int l2)] [] h (itr2 (fX8_latePlates_l4 a0 K) n l1 l2 h) := by
  refine s_itr2 (fun l1 l2 h o => Sim cvi 0 g mX8_latePlates 3 4 [(0, rv g 6 a0), (1, .int l1), (2, .int l2)] [] h o) (fun _ _ _ => s_none) ?_
  intro rec hrec l1 l2 h
  unfold fX8_latePlates_l4
  refine s_iload_n 2 dX8_latePlates_4 rfl rfl ?_
  refine s_aload_n 0 dX8_latePlates_5 rfl rfl ?_
  refine s_geti (s0 := a0) dX8_latePlates_6 fl_X8_18 ?_
  refine s_icmp_ge (tgt := 47) dX8_latePlates_9 (by decide) ?_ ?_
  ·
    refine s_sub [1] rfl ?_
    exact hK l1 h
  ·
    refine s_aload_n 0 dX8_latePlates_12 rfl rfl ?_
    refine s_getr1 (k2 := 35) (s0 := a0) rfl dX8_latePlates_13 fl_X8_28 ?_
    refine s_iload_n 2 dX8_latePlates_16 rfl rfl ?_
    refine s_iald (s0 := a0) ka_35 dX8_latePlates_17 ?_
    refine s_aload_n 0 dX8_latePlates_18 rfl rfl ?_
    refine s_aload_n 0 dX8_latePlates_19 rfl rfl ?_
    refine s_geti (s0 := a0) dX8_latePlates_20 fl_X8_15 ?_
    refine s_aload_n 0 dX8_latePlates_23 rfl rfl ?_
    refine s_getr1 (k2 := 33) (s0 := a0) rfl dX8_latePlates_24 fl_X8_21 ?_
    refine s_iload_n 2 dX8_latePlates_27 rfl rfl ?_
    refine s_iald (s0 := a0) ka_33 dX8_latePlates_28 ?_
    refine s_callVi (s0 := a0) (As := [.int (rd h 6 a0 1), .int (ra h 33 a0 l2)]) (rest := [.int (ra h 35 a0 l2)]) (cX8_way_ok g a0 (rd h 6 a0 1) (ra h 33 a0 l2) h) vl_X8_67 rfl (Nat.le_of_ble_eq_true rfl) (Nat.le_of_ble_eq_true rfl) dX8_latePlates_29 rfl (fun x2 h1 => ?_)
    refine s_jn (fun (k41_2 : Int32 → Hp → Option (Int32 × Hp)) => ∀ (y1_2 : Int32) (h4 : Hp), Sim cvi 0 g mX8_latePlates 3 41 [(0, rv g 6 a0), (1, .int y1_2), (2, .int l2)] [] h4 (k41_2 y1_2 h4)) (fun y1_2 h4 => ?_) (fun k41_2 Hk41_2 => ?_)
    ·
      refine s_iincl 2 (w := 1) (fun x5 => [(2, .int x5), (0, rv g 6 a0), (1, .int y1_2)]) dX8_latePlates_41 rfl rfl (by decide) (fun _ => rfl) (fun x5 => ?_)
      refine s_goto (tgt := 4) dX8_latePlates_44 (by decide) ?_
      refine s_sub [1, 2, 0] rfl ?_
      exact hrec y1_2 x5 h4
    refine s_icmp_gt (tgt := 41) dX8_latePlates_32 (by decide) ?_ ?_
    ·
      exact Hk41_2 l1 h1
    ·
      refine s_iload_n 1 dX8_latePlates_35 rfl rfl ?_
      refine s_iconst (v := 1) dX8_latePlates_36 rfl ?_
      refine s_iload_n 2 dX8_latePlates_37 rfl rfl ?_
      refine s_ishl dX8_latePlates_38 ?_
      refine s_ior dX8_latePlates_39 ?_
      refine s_leti (fun x6 => ?_)
      refine s_istore_n (ls' := [(1, .int x6), (0, rv g 6 a0), (2, .int l2)]) dX8_latePlates_40 rfl (by decide) rfl ?_
      refine s_sub [1, 0, 2] rfl ?_
      exact Hk41_2 x6 h1
set_option maxHeartbeats 4000000 in
set_option maxRecDepth 100000 in
theorem cX8_latePlates_ok (g : GE) (a0 : Nat) (h : Hp) : Con cvi 0 g mX8_latePlates 3 [rv g 6 a0] h (fX8_latePlates a0 h) := by
  refine Con.of (by decide +kernel) (Nat.le_of_ble_eq_true rfl) ?_
  show Sim cvi 0 g mX8_latePlates 3 0 [(0, rv g 6 a0)] [] h _
  unfold fX8_latePlates
  refine s_iconst (v := 0) dX8_latePlates_0 rfl ?_
  refine s_istore_n (ls' := [(1, .int 0), (0, rv g 6 a0)]) dX8_latePlates_1 rfl (by decide) rfl ?_
  refine s_iconst (v := 0) dX8_latePlates_2 rfl ?_
  refine s_istore_n (ls' := [(2, .int 0), (1, .int 0), (0, rv g 6 a0)]) dX8_latePlates_3 rfl (by decide) rfl ?_
  refine s_sub (ls' := [(0, rv g 6 a0), (1, .int 0), (2, .int 0)]) [2, 1, 0] rfl ?_
  refine sX8_latePlates_l4 g a0 _ (fun y7 h8 => ?_) FU 0 0 h
  refine s_iload_n 0 dX8_latePlates_47 rfl rfl ?_
  exact s_iret rfl dX8_latePlates_48
def fX8_loadPart_l4 (a0 : Nat) (K : Int32 → Hp → Option (Int32 × Hp)) (rec : Int32 → Int32 → Hp → Option (Int32 × Hp)) (l2 l3 : Int32) (h : Hp) : Option (Int32 × Hp) :=
  if (rd h 6 a0 2) ≤ l3 then (K l2 h)
  else (ck (ib l3 5) (
  lt (if 1 < (ra h 34 a0 l3) then (ra h 34 a0 l3) else 1) fun x1 =>
  ck (!decide (x1 = 0)) (
  lt (l2 + (60 / x1)) fun x2 =>
  lt (l3 + 1) fun x3 =>
  rec x2 x3 h)))
def fX8_loadPart (a0 : Nat) (l1 : Int32) (h : Hp) : Option (Int32 × Hp) :=
  itr2 (fX8_loadPart_l4 a0 (fun y4 h5 => bnd (fX11_commonDivisor y4 60 h5) fun x7 h6 =>
  lt (if 1 < x7 then x7 else 1) fun x8 =>
  if l1 = 0 then (ck (!decide (x8 = 0)) (
  some (y4 / x8, h6)))
  else (ck (!decide (x8 = 0)) (
  some (60 / x8, h6))))) FU 0 0 h
set_option maxHeartbeats 4000000 in
set_option maxRecDepth 100000 in
theorem sX8_loadPart_l4 (g : GE) (a0 : Nat) (l1 : Int32) (K : Int32 → Hp → Option (Int32 × Hp)) (hK : ∀ (y2 : Int32) (h : Hp), Sim cvi 0 g mX8_loadPart 3 34 [(1, .int l1), (2, .int y2)] [] h (K y2 h)) : ∀ (n : Nat) (l2 l3 : Int32) (h : Hp), Sim cvi 0 g mX8_loadPart 3 4 [(0, rv g 6 a0), (1, .int l1), (2, .int l2), (3, .int l3)] [] h (itr2 (fX8_loadPart_l4 a0 K) n l2 l3 h) := by
  refine s_itr2 (fun l2 l3 h o => Sim cvi 0 g mX8_loadPart 3 4 [(0, rv g 6 a0), (1, .int l1), (2, .int l2), (3, .int l3)] [] h o) (fun _ _ _ => s_none) ?_
  intro rec hrec l2 l3 h
  unfold fX8_loadPart_l4
  refine s_iload_n 3 dX8_loadPart_4 rfl rfl ?_
  refine s_aload_n 0 dX8_loadPart_5 rfl rfl ?_
  refine s_geti (s0 := a0) dX8_loadPart_6 fl_X8_18 ?_
  refine s_icmp_ge (tgt := 34) dX8_loadPart_9 (by decide) ?_ ?_
  ·
    refine s_sub [1, 2] rfl ?_
    exact hK l2 h
  ·
    refine s_iload_n 2 dX8_loadPart_12 rfl rfl ?_
    refine s_bipush (v := 60) dX8_loadPart_13 rfl ?_
    refine s_iconst (v := 1) dX8_loadPart_15 rfl ?_
    refine s_aload_n 0 dX8_loadPart_16 rfl rfl ?_
    refine s_getr1 (k2 := 34) (s0 := a0) rfl dX8_loadPart_17 fl_X8_25 ?_
    refine s_iload_n 3 dX8_loadPart_20 rfl rfl ?_
    refine s_iald (s0 := a0) ka_34 dX8_loadPart_21 ?_
    refine s_mmax w_3_207 mw_max (Nat.le_of_ble_eq_true rfl) (Nat.le_of_ble_eq_true rfl) dX8_loadPart_22 ?_
    refine s_leti (fun x1 => ?_)
    refine s_idiv dX8_loadPart_25 ?_
    refine s_iadd dX8_loadPart_26 ?_
    refine s_leti (fun x2 => ?_)
    refine s_istore_n (ls' := [(2, .int x2), (0, rv g 6 a0), (1, .int l1), (3, .int l3)]) dX8_loadPart_27 rfl (by decide) rfl ?_
    refine s_iincl 3 (w := 1) (fun x3 => [(3, .int x3), (2, .int x2), (0, rv g 6 a0), (1, .int l1)]) dX8_loadPart_28 rfl rfl (by decide) (fun _ => rfl) (fun x3 => ?_)
    refine s_goto (tgt := 4) dX8_loadPart_31 (by decide) ?_
    refine s_sub [2, 3, 1, 0] rfl ?_
    exact hrec x2 x3 h
set_option maxHeartbeats 4000000 in
set_option maxRecDepth 100000 in
theorem cX8_loadPart_ok (g : GE) (a0 : Nat) (l1 : Int32) (h : Hp) : Con cvi 0 g mX8_loadPart 3 [rv g 6 a0, .int l1] h (fX8_loadPart a0 l1 h) := by
  refine Con.of (by decide +kernel) (Nat.le_of_ble_eq_true rfl) ?_
  show Sim cvi 0 g mX8_loadPart 3 0 [(0, rv g 6 a0), (1, .int l1)] [] h _
  unfold fX8_loadPart
  refine s_iconst (v := 0) dX8_loadPart_0 rfl ?_
  refine s_istore_n (ls' := [(2, .int 0), (0, rv g 6 a0), (1, .int l1)]) dX8_loadPart_1 rfl (by decide) rfl ?_
  refine s_iconst (v := 0) dX8_loadPart_2 rfl ?_
  refine s_istore_n (ls' := [(3, .int 0), (2, .int 0), (0, rv g 6 a0), (1, .int l1)]) dX8_loadPart_3 rfl (by decide) rfl ?_
  refine s_sub (ls' := [(0, rv g 6 a0), (1, .int l1), (2, .int 0), (3, .int 0)]) [2, 3, 1, 0] rfl ?_
  refine sX8_loadPart_l4 g a0 l1 _ (fun y4 h5 => ?_) FU 0 0 h
  refine s_iconst (v := 1) dX8_loadPart_34 rfl ?_
  refine s_iload_n 1 dX8_loadPart_35 rfl rfl ?_
  refine s_bipush (v := 60) dX8_loadPart_36 rfl ?_
  refine s_callNi (As := [.int y4, .int 60]) (rest := [.int 1]) (cX11_commonDivisor_ok g y4 60 h5) nl_X8_61 rfl (Nat.le_of_ble_eq_true rfl) (Nat.le_of_ble_eq_true rfl) dX8_loadPart_38 rfl (fun x7 h6 => ?_)
  refine s_mmax w_3_207 mw_max (Nat.le_of_ble_eq_true rfl) (Nat.le_of_ble_eq_true rfl) dX8_loadPart_41 ?_
  refine s_leti (fun x8 => ?_)
  refine s_istore_n (ls' := [(3, .int x8), (1, .int l1), (2, .int y4)]) dX8_loadPart_44 rfl (by decide) rfl ?_
  refine s_iload_n 1 dX8_loadPart_45 rfl rfl ?_
  refine s_if_eq (tgt := 54) dX8_loadPart_46 (by decide) ?_ ?_
  ·
    refine s_iload_n 2 dX8_loadPart_54 rfl rfl ?_
    refine s_iload_n 0 dX8_loadPart_55 rfl rfl ?_
    refine s_idiv dX8_loadPart_56 ?_
    exact s_iret rfl dX8_loadPart_57
  ·
    refine s_bipush (v := 60) dX8_loadPart_49 rfl ?_
    refine s_goto (tgt := 55) dX8_loadPart_51 (by decide) ?_
    refine s_iload_n 0 dX8_loadPart_55 rfl rfl ?_
    refine s_idiv dX8_loadPart_56 ?_
    exact s_iret rfl dX8_loadPart_57
