def fX12_image (l1 : Int32) (h : Hp) : Option (Int32 × Hp) :=
  lt (wr h 10 0 0 0) fun h1 =>
  bnd (fX12_in l1 0 2 h1) fun x3 h2 =>
  if x3 = 0 then (ck (zk 0) (some (0, h2)))
  else (bnd (fX12_copyAll 0 (l1 + (1 : Int32)) h2) fun _ h4 =>
  ck (ib l1 3) (lt (wa h4 67 0 l1 (vp_nar .boolean 1)) fun h5 =>
  ck (zk 1) (some (1, h5))))
set_option maxHeartbeats 4000000 in
set_option maxRecDepth 100000 in
theorem cX12_image_ok (g : GE) (l1 : Int32) (h : Hp) : Con cvi 1 g mX12_image 4 [rv g 10 0, .int l1] h (fX12_image l1 h) := by
  refine Con.of (by decide +kernel) (Nat.le_of_ble_eq_true rfl) ?_
  show Sim cvi 1 g mX12_image 4 0 [(0, rv g 10 0), (1, .int l1)] [] h _
  unfold fX12_image
  refine s_aload_n 0 dX12_image_0 rfl rfl ?_
  refine s_iconst (v := 0) dX12_image_1 rfl ?_
  refine s_puti (s0 := 0) dX12_image_2 fl_X12_88 (fun h1 => ?_)
  refine s_iload_n 1 dX12_image_5 rfl rfl ?_
  refine s_iconst (v := 0) dX12_image_6 rfl ?_
  refine s_iconst (v := 2) dX12_image_7 rfl ?_
  refine s_callSi (As := [.int l1, .int 0, .int 2]) (rest := []) (cX12_in_ok g l1 0 2 h1) sl_X12_100 rfl (Nat.le_of_ble_eq_true rfl) (Nat.le_of_ble_eq_true rfl) dX12_image_8 rfl (fun x3 h2 => ?_)
  refine s_if_ne (tgt := 16) dX12_image_11 (by decide) ?_ ?_
  ·
    refine s_iconst (v := 0) dX12_image_14 rfl ?_
    exact s_zret rfl dX12_image_15
  ·
    refine s_aload_n 0 dX12_image_16 rfl rfl ?_
    refine s_iconst (v := 0) dX12_image_17 rfl ?_
    refine s_iload_n 1 dX12_image_18 rfl rfl ?_
    refine s_iconst (v := 1) dX12_image_19 rfl ?_
    refine s_iadd dX12_image_20 ?_
    refine s_callVv (s0 := 0) (As := [.int 0, .int (l1 + (1 : Int32))]) (rest := []) (cX12_copyAll_ok g 0 (l1 + (1 : Int32)) h2) vl_X12_542 rfl (Nat.le_of_ble_eq_true rfl) (Nat.le_of_ble_eq_true rfl) dX12_image_21 rfl (fun h4 => ?_)
    refine s_aload_n 0 dX12_image_24 rfl rfl ?_
    refine s_getr (s0 := 0) dX12_image_25 fl_X12_84 ?_
    refine s_iload_n 1 dX12_image_28 rfl rfl ?_
    refine s_iconst (v := 1) dX12_image_29 rfl ?_
    refine s_zast (s0 := 0) ka_67 dX12_image_30 (fun h5 => ?_)
    refine s_iconst (v := 1) dX12_image_31 rfl ?_
    exact s_zret rfl dX12_image_32
def fX12_inRow_l6 (K : Int32 → Hp → Option (Int32 × Hp)) (rec : Int32 → Hp → Option (Int32 × Hp)) (l1 : Int32) (h : Hp) : Option (Int32 × Hp) :=
  if (rd h 10 0 22) ≤ 0 then (K l1 h)
  else (if (99 : Int32) ≤ l1 then (K l1 h)
  else (ck (!decide ((rd h 10 0 22) = 0)) (
  bnd (fX12_isKept (irm l1 (rd h 10 0 22)) h) fun x3 h2 =>
  if x3 = 0 then (K l1 h2)
  else (ck (!decide ((rd h2 10 0 22) = 0)) (
  bnd (fX12_behindRun (irm l1 (rd h2 10 0 22)) h2) fun x5 h4 =>
  lt (l1 + 1) fun x6 =>
  rec x6 h4)))))
def fX12_inRow (h : Hp) : Option (Int32 × Hp) :=
  bnd (fX12_openFirst h) fun _ h1 =>
  itr1 (fX12_inRow_l6 (fun y7 h8 => some (y7, h8))) FU 0 h1
set_option maxHeartbeats 4000000 in
set_option maxRecDepth 100000 in
theorem sX12_inRow_l6 (g : GE) (K : Int32 → Hp → Option (Int32 × Hp)) (hK : ∀ (y1 : Int32) (h : Hp), Sim cvi 1 g mX12_inRow 5 49 [(1, .int y1)] [] h (K y1 h)) : ∀ (n : Nat) (l1 : Int32) (h : Hp), Sim cvi 1 g mX12_inRow 5 6 [(0, rv g 10 0), (1, .int l1)] [] h (itr1 (fX12_inRow_l6 K) n l1 h) := by
  refine s_itr1 (fun l1 h o => Sim cvi 1 g mX12_inRow 5 6 [(0, rv g 10 0), (1, .int l1)] [] h o) (fun _ _ => s_none) ?_
  intro rec hrec l1 h
  unfold fX12_inRow_l6
  refine s_aload_n 0 dX12_inRow_6 rfl rfl ?_
  refine s_geti (s0 := 0) dX12_inRow_7 fl_X12_232 ?_
  refine s_if_le (tgt := 49) dX12_inRow_10 (by decide) ?_ ?_
  ·
    refine s_sub [1] rfl ?_
    exact hK l1 h
  ·
    refine s_iload_n 1 dX12_inRow_13 rfl rfl ?_
    refine s_bipush (v := 99) dX12_inRow_14 rfl ?_
    refine s_icmp_ge (tgt := 49) dX12_inRow_16 (by decide) ?_ ?_
    ·
      refine s_sub [1] rfl ?_
      exact hK l1 h
    ·
      refine s_aload_n 0 dX12_inRow_19 rfl rfl ?_
      refine s_iload_n 1 dX12_inRow_20 rfl rfl ?_
      refine s_aload_n 0 dX12_inRow_21 rfl rfl ?_
      refine s_geti (s0 := 0) dX12_inRow_22 fl_X12_232 ?_
      refine s_irem dX12_inRow_25 ?_
      refine s_callVi (s0 := 0) (As := [.int (irm l1 (rd h 10 0 22))]) (rest := []) (cX12_isKept_ok g (irm l1 (rd h 10 0 22)) h) vl_X12_352 rfl (Nat.le_of_ble_eq_true rfl) (Nat.le_of_ble_eq_true rfl) dX12_inRow_26 rfl (fun x3 h2 => ?_)
      refine s_if_eq (tgt := 49) dX12_inRow_29 (by decide) ?_ ?_
      ·
        refine s_sub [1] rfl ?_
        exact hK l1 h2
      ·
        refine s_aload_n 0 dX12_inRow_32 rfl rfl ?_
        refine s_iload_n 1 dX12_inRow_33 rfl rfl ?_
        refine s_aload_n 0 dX12_inRow_34 rfl rfl ?_
        refine s_geti (s0 := 0) dX12_inRow_35 fl_X12_232 ?_
        refine s_irem dX12_inRow_38 ?_
        refine s_callVi (s0 := 0) (As := [.int (irm l1 (rd h2 10 0 22))]) (rest := []) (cX12_behindRun_ok g (irm l1 (rd h2 10 0 22)) h2) vl_X12_355 rfl (Nat.le_of_ble_eq_true rfl) (Nat.le_of_ble_eq_true rfl) dX12_inRow_39 rfl (fun x5 h4 => ?_)
        refine s_pop dX12_inRow_42 rfl ?_
        refine s_iincl 1 (w := 1) (fun x6 => [(1, .int x6), (0, rv g 10 0)]) dX12_inRow_43 rfl rfl (by decide) (fun _ => rfl) (fun x6 => ?_)
        refine s_goto (tgt := 6) dX12_inRow_46 (by decide) ?_
        refine s_sub [1, 0] rfl ?_
        exact hrec x6 h4
set_option maxHeartbeats 4000000 in
set_option maxRecDepth 100000 in
theorem cX12_inRow_ok (g : GE) (h : Hp) : Con cvi 1 g mX12_inRow 5 [rv g 10 0] h (fX12_inRow h) := by
  refine Con.of (by decide +kernel) (Nat.le_of_ble_eq_true rfl) ?_
  show Sim cvi 1 g mX12_inRow 5 0 [(0, rv g 10 0)] [] h _
  unfold fX12_inRow
  refine s_aload_n 0 dX12_inRow_0 rfl rfl ?_
  refine s_callVv (s0 := 0) (As := []) (rest := []) (cX12_openFirst_ok g h) vl_X12_343 rfl (Nat.le_of_ble_eq_true rfl) (Nat.le_of_ble_eq_true rfl) dX12_inRow_1 rfl (fun h1 => ?_)
  refine s_iconst (v := 0) dX12_inRow_4 rfl ?_
  refine s_istore_n (ls' := [(1, .int 0), (0, rv g 10 0)]) dX12_inRow_5 rfl (by decide) rfl ?_
  refine s_sub (ls' := [(0, rv g 10 0), (1, .int 0)]) [1, 0] rfl ?_
  refine sX12_inRow_l6 g _ (fun y7 h8 => ?_) FU 0 h1
  refine s_iload_n 0 dX12_inRow_49 rfl rfl ?_
  exact s_iret rfl dX12_inRow_50
def fX12_nextRun_l37 (l1 : Int32) (K : Int32 → Hp → Option (Int32 × Hp)) (rec : Int32 → Hp → Option (Int32 × Hp)) (l2 : Int32) (h : Hp) : Option (Int32 × Hp) :=
  if (5 : Int32) ≤ l2 then (some ((-1), h))
  else (ck (ib l1 46656) (
  bnd (fX12_open (ra h 58 0 l1) h) fun _ h4 =>
  bnd (fX12_isKept l2 h4) fun x6 h5 =>
  jn (κ := Hp → Option (Int32 × Hp)) (fun h8 => lt (l2 + 1) fun x9 =>
  rec x9 h8) fun k119_6 =>
  if x6 = 0 then (k119_6 h5)
  else (bnd (fX12_beatsTo l2 h5) fun x11 h10 =>
  bnd (fX12_behindRun l2 h10) fun x13 h12 =>
  ck (ib x13 46656) (
  ck (ib ((ra h12 59 0 x13) - (1 : Int32)) 46656) (
  lt (ra h12 60 0 ((ra h12 59 0 x13) - (1 : Int32))) fun x14 =>
  ck (ib l1 46656) (
  if (ra h12 60 0 l1) = (-1) then (if x14 = (-1) then (K l2 h12)
  else (k119_6 h12))
  else (ck (ib l1 46656) (
  if (x11 + x14) = (ra h12 60 0 l1) then (some (l2, h12))
  else (k119_6 h12)))))))))
def fX12_nextRun (l1 : Int32) (h : Hp) : Option (Int32 × Hp) :=
  ck (ib l1 46656) (
  bnd (fX12_open (ra h 58 0 l1) h) fun _ h1 =>
  ck (ib l1 46656) (
  jn (κ := Hp → Option (Int32 × Hp)) (fun h3 => itr1 (fX12_nextRun_l37 l1 (fun y15 h16 => some (y15, h16))) FU 0 h3) fun k35_1 =>
  if (ra h1 60 0 l1) = (-1) then (k35_1 h1)
  else (bnd (fX12_leastLeft h1) fun x18 h17 =>
  ck (ib l1 46656) (
  if x18 = (ra h17 60 0 l1) then (some ((-1), h17))
  else (k35_1 h17)))))
set_option maxHeartbeats 4000000 in
set_option maxRecDepth 100000 in
theorem sX12_nextRun_l37 (g : GE) (l1 : Int32) (K : Int32 → Hp → Option (Int32 × Hp)) (hK : ∀ (y2 : Int32) (h : Hp), Sim cvi 1 g mX12_nextRun 5 101 [(2, .int y2)] [] h (K y2 h)) : ∀ (n : Nat) (l2 : Int32) (h : Hp), Sim cvi 1 g mX12_nextRun 5 37 [(0, rv g 10 0), (1, .int l1), (2, .int l2)] [] h (itr1 (fX12_nextRun_l37 l1 K) n l2 h) := by
  refine s_itr1 (fun l2 h o => Sim cvi 1 g mX12_nextRun 5 37 [(0, rv g 10 0), (1, .int l1), (2, .int l2)] [] h o) (fun _ _ => s_none) ?_
  intro rec hrec l2 h
  unfold fX12_nextRun_l37
  refine s_iload_n 2 dX12_nextRun_37 rfl rfl ?_
  refine s_iconst (v := 5) dX12_nextRun_38 rfl ?_
  refine s_icmp_ge (tgt := 125) dX12_nextRun_39 (by decide) ?_ ?_
  ·
    refine s_iconst (v := (-1)) dX12_nextRun_125 rfl ?_
    exact s_iret rfl dX12_nextRun_126
  ·
    refine s_aload_n 0 dX12_nextRun_42 rfl rfl ?_
    refine s_aload_n 0 dX12_nextRun_43 rfl rfl ?_
    refine s_getr (s0 := 0) dX12_nextRun_44 fl_X12_57 ?_
    refine s_iload_n 1 dX12_nextRun_47 rfl rfl ?_
    refine s_iald (s0 := 0) ka_58 dX12_nextRun_48 ?_
    refine s_callVv (s0 := 0) (As := [.int (ra h 58 0 l1)]) (rest := []) (cX12_open_ok g (ra h 58 0 l1) h) vl_X12_349 rfl (Nat.le_of_ble_eq_true rfl) (Nat.le_of_ble_eq_true rfl) dX12_nextRun_49 rfl (fun h4 => ?_)
    refine s_aload_n 0 dX12_nextRun_52 rfl rfl ?_
    refine s_iload_n 2 dX12_nextRun_53 rfl rfl ?_
    refine s_callVi (s0 := 0) (As := [.int l2]) (rest := []) (cX12_isKept_ok g l2 h4) vl_X12_352 rfl (Nat.le_of_ble_eq_true rfl) (Nat.le_of_ble_eq_true rfl) dX12_nextRun_54 rfl (fun x6 h5 => ?_)
    refine s_jn (fun (k119_6 : Hp → Option (Int32 × Hp)) => ∀ (h8 : Hp), Sim cvi 1 g mX12_nextRun 5 119 [(0, rv g 10 0), (1, .int l1), (2, .int l2)] [] h8 (k119_6 h8)) (fun h8 => ?_) (fun k119_6 Hk119_6 => ?_)
    ·
      refine s_iincl 2 (w := 1) (fun x9 => [(2, .int x9), (0, rv g 10 0), (1, .int l1)]) dX12_nextRun_119 rfl rfl (by decide) (fun _ => rfl) (fun x9 => ?_)
      refine s_goto (tgt := 37) dX12_nextRun_122 (by decide) ?_
      refine s_sub [1, 2, 0] rfl ?_
      exact hrec x9 h8
    refine s_if_eq (tgt := 119) dX12_nextRun_57 (by decide) ?_ ?_
    ·
      exact Hk119_6 h5
    ·
      refine s_aload_n 0 dX12_nextRun_60 rfl rfl ?_
      refine s_iload_n 2 dX12_nextRun_61 rfl rfl ?_
      refine s_callVi (s0 := 0) (As := [.int l2]) (rest := []) (cX12_beatsTo_ok g l2 h5) vl_X12_334 rfl (Nat.le_of_ble_eq_true rfl) (Nat.le_of_ble_eq_true rfl) dX12_nextRun_62 rfl (fun x11 h10 => ?_)
      refine s_istore_n (ls' := [(3, .int x11), (0, rv g 10 0), (1, .int l1), (2, .int l2)]) dX12_nextRun_65 rfl (by decide) rfl ?_
      refine s_aload_n 1 dX12_nextRun_66 rfl rfl ?_
      refine s_getr (s0 := 0) dX12_nextRun_67 fl_X12_63 ?_
      refine s_aload_n 1 dX12_nextRun_70 rfl rfl ?_
      refine s_getr (s0 := 0) dX12_nextRun_71 fl_X12_60 ?_
      refine s_aload_n 1 dX12_nextRun_74 rfl rfl ?_
      refine s_iload_n 3 dX12_nextRun_75 rfl rfl ?_
      refine s_callVi (s0 := 0) (As := [.int l2]) (rest := [rv g 59 0, rv g 60 0]) (cX12_behindRun_ok g l2 h10) vl_X12_355 rfl (Nat.le_of_ble_eq_true rfl) (Nat.le_of_ble_eq_true rfl) dX12_nextRun_76 rfl (fun x13 h12 => ?_)
      refine s_iald (s0 := 0) ka_59 dX12_nextRun_79 ?_
      refine s_iconst (v := 1) dX12_nextRun_80 rfl ?_
      refine s_isub dX12_nextRun_81 ?_
      refine s_iald (s0 := 0) ka_60 dX12_nextRun_82 ?_
      refine s_leti (fun x14 => ?_)
      refine s_istore (ls' := [(4, .int x14), (3, .int x11), (0, rv g 10 0), (1, .int l1), (2, .int l2)]) dX12_nextRun_83 (by decide) rfl ?_
      refine s_aload_n 2 dX12_nextRun_85 rfl rfl ?_
      refine s_getr (s0 := 0) dX12_nextRun_86 fl_X12_63 ?_
      refine s_iload_n 3 dX12_nextRun_89 rfl rfl ?_
      refine s_iald (s0 := 0) ka_60 dX12_nextRun_90 ?_
      refine s_iconst (v := (-1)) dX12_nextRun_91 rfl ?_
      refine s_icmp_ne (tgt := 104) dX12_nextRun_92 (by decide) ?_ ?_
      ·
        refine s_iload 0 dX12_nextRun_95 rfl ?_
        refine s_iconst (v := (-1)) dX12_nextRun_97 rfl ?_
        refine s_icmp_ne (tgt := 119) dX12_nextRun_98 (by decide) ?_ ?_
        ·
          refine s_sub [4] rfl ?_
          exact hK l2 h12
        ·
          refine s_sub [2, 3, 4] rfl ?_
          exact Hk119_6 h12
      ·
        refine s_iload_n 1 dX12_nextRun_104 rfl rfl ?_
        refine s_iload 0 dX12_nextRun_105 rfl ?_
        refine s_iadd dX12_nextRun_107 ?_
        refine s_aload_n 2 dX12_nextRun_108 rfl rfl ?_
        refine s_getr (s0 := 0) dX12_nextRun_109 fl_X12_63 ?_
        refine s_iload_n 3 dX12_nextRun_112 rfl rfl ?_
        refine s_iald (s0 := 0) ka_60 dX12_nextRun_113 ?_
        refine s_icmp_ne (tgt := 119) dX12_nextRun_114 (by decide) ?_ ?_
        ·
          refine s_iload_n 4 dX12_nextRun_117 rfl rfl ?_
          exact s_iret rfl dX12_nextRun_118
        ·
          refine s_sub [2, 3, 4] rfl ?_
          exact Hk119_6 h12
set_option maxHeartbeats 4000000 in
set_option maxRecDepth 100000 in
theorem cX12_nextRun_ok (g : GE) (l1 : Int32) (h : Hp) : Con cvi 1 g mX12_nextRun 5 [rv g 10 0, .int l1] h (fX12_nextRun l1 h) := by
  refine Con.of (by decide +kernel) (Nat.le_of_ble_eq_true rfl) ?_
  show Sim cvi 1 g mX12_nextRun 5 0 [(0, rv g 10 0), (1, .int l1)] [] h _
  unfold fX12_nextRun
  refine s_aload_n 0 dX12_nextRun_0 rfl rfl ?_
  refine s_aload_n 0 dX12_nextRun_1 rfl rfl ?_
  refine s_getr (s0 := 0) dX12_nextRun_2 fl_X12_57 ?_
  refine s_iload_n 1 dX12_nextRun_5 rfl rfl ?_
  refine s_iald (s0 := 0) ka_58 dX12_nextRun_6 ?_
  refine s_callVv (s0 := 0) (As := [.int (ra h 58 0 l1)]) (rest := []) (cX12_open_ok g (ra h 58 0 l1) h) vl_X12_349 rfl (Nat.le_of_ble_eq_true rfl) (Nat.le_of_ble_eq_true rfl) dX12_nextRun_7 rfl (fun h1 => ?_)
  refine s_aload_n 0 dX12_nextRun_10 rfl rfl ?_
  refine s_getr (s0 := 0) dX12_nextRun_11 fl_X12_63 ?_
  refine s_iload_n 1 dX12_nextRun_14 rfl rfl ?_
  refine s_iald (s0 := 0) ka_60 dX12_nextRun_15 ?_
  refine s_iconst (v := (-1)) dX12_nextRun_16 rfl ?_
  refine s_jn (fun (k35_1 : Hp → Option (Int32 × Hp)) => ∀ (h3 : Hp), Sim cvi 1 g mX12_nextRun 5 35 [(0, rv g 10 0), (1, .int l1)] [] h3 (k35_1 h3)) (fun h3 => ?_) (fun k35_1 Hk35_1 => ?_)
  ·
    refine s_iconst (v := 0) dX12_nextRun_35 rfl ?_
    refine s_istore_n (ls' := [(2, .int 0), (0, rv g 10 0), (1, .int l1)]) dX12_nextRun_36 rfl (by decide) rfl ?_
    refine s_sub (ls' := [(0, rv g 10 0), (1, .int l1), (2, .int 0)]) [1, 2, 0] rfl ?_
    refine sX12_nextRun_l37 g l1 _ (fun y15 h16 => ?_) FU 0 h3
    refine s_goto (tgt := 117) dX12_nextRun_101 (by decide) ?_
    refine s_iload_n 0 dX12_nextRun_117 rfl rfl ?_
    exact s_iret rfl dX12_nextRun_118
  refine s_icmp_eq (tgt := 35) dX12_nextRun_17 (by decide) ?_ ?_
  ·
    exact Hk35_1 h1
  ·
    refine s_aload_n 0 dX12_nextRun_20 rfl rfl ?_
    refine s_callVi (s0 := 0) (As := []) (rest := []) (cX12_leastLeft_ok g h1) vl_X12_359 rfl (Nat.le_of_ble_eq_true rfl) (Nat.le_of_ble_eq_true rfl) dX12_nextRun_21 rfl (fun x18 h17 => ?_)
    refine s_aload_n 0 dX12_nextRun_24 rfl rfl ?_
    refine s_getr (s0 := 0) dX12_nextRun_25 fl_X12_63 ?_
    refine s_iload_n 1 dX12_nextRun_28 rfl rfl ?_
    refine s_iald (s0 := 0) ka_60 dX12_nextRun_29 ?_
    refine s_icmp_ne (tgt := 35) dX12_nextRun_30 (by decide) ?_ ?_
    ·
      refine s_iconst (v := (-1)) dX12_nextRun_33 rfl ?_
      exact s_iret rfl dX12_nextRun_34
    ·
      exact Hk35_1 h17
def fX12_standBehind (l1 : Int32) (l2 : Int32) (h : Hp) : Option (Int32 × Hp) :=
  ck (ib l1 46656) (
  bnd (fX12_open (ra h 58 0 l1) h) fun _ h1 =>
  bnd (fX12_beatsTo l2 h1) fun x3 h2 =>
  lt (wr h2 10 0 49 ((rd h1 10 0 49) + x3)) fun h4 =>
  bnd (fX12_behindRun l2 h4) fun x6 h5 =>
  ck (ib x6 46656) (
  some ((ra h5 59 0 x6) - (1 : Int32), h5)))
set_option maxHeartbeats 4000000 in
set_option maxRecDepth 100000 in
theorem cX12_standBehind_ok (g : GE) (l1 : Int32) (l2 : Int32) (h : Hp) : Con cvi 1 g mX12_standBehind 5 [rv g 10 0, .int l1, .int l2] h (fX12_standBehind l1 l2 h) := by
  refine Con.of (by decide +kernel) (Nat.le_of_ble_eq_true rfl) ?_
  show Sim cvi 1 g mX12_standBehind 5 0 [(0, rv g 10 0), (1, .int l1), (2, .int l2)] [] h _
  unfold fX12_standBehind
  refine s_aload_n 0 dX12_standBehind_0 rfl rfl ?_
  refine s_aload_n 0 dX12_standBehind_1 rfl rfl ?_
  refine s_getr (s0 := 0) dX12_standBehind_2 fl_X12_57 ?_
  refine s_iload_n 1 dX12_standBehind_5 rfl rfl ?_
  refine s_iald (s0 := 0) ka_58 dX12_standBehind_6 ?_
  refine s_callVv (s0 := 0) (As := [.int (ra h 58 0 l1)]) (rest := []) (cX12_open_ok g (ra h 58 0 l1) h) vl_X12_349 rfl (Nat.le_of_ble_eq_true rfl) (Nat.le_of_ble_eq_true rfl) dX12_standBehind_7 rfl (fun h1 => ?_)
  refine s_aload_n 0 dX12_standBehind_10 rfl rfl ?_
  refine s_dup dX12_standBehind_11 rfl ?_
  refine s_geti (s0 := 0) dX12_standBehind_12 fl_X12_368 ?_
  refine s_aload_n 0 dX12_standBehind_15 rfl rfl ?_
  refine s_iload_n 2 dX12_standBehind_16 rfl rfl ?_
  refine s_callVi (s0 := 0) (As := [.int l2]) (rest := [.int (rd h1 10 0 49), rv g 10 0]) (cX12_beatsTo_ok g l2 h1) vl_X12_334 rfl (Nat.le_of_ble_eq_true rfl) (Nat.le_of_ble_eq_true rfl) dX12_standBehind_17 rfl (fun x3 h2 => ?_)
  refine s_iadd dX12_standBehind_20 ?_
  refine s_puti (s0 := 0) dX12_standBehind_21 fl_X12_368 (fun h4 => ?_)
  refine s_aload_n 0 dX12_standBehind_24 rfl rfl ?_
  refine s_getr (s0 := 0) dX12_standBehind_25 fl_X12_60 ?_
  refine s_aload_n 0 dX12_standBehind_28 rfl rfl ?_
  refine s_iload_n 2 dX12_standBehind_29 rfl rfl ?_
  refine s_callVi (s0 := 0) (As := [.int l2]) (rest := [rv g 59 0]) (cX12_behindRun_ok g l2 h4) vl_X12_355 rfl (Nat.le_of_ble_eq_true rfl) (Nat.le_of_ble_eq_true rfl) dX12_standBehind_30 rfl (fun x6 h5 => ?_)
  refine s_iald (s0 := 0) ka_59 dX12_standBehind_33 ?_
  refine s_iconst (v := 1) dX12_standBehind_34 rfl ?_
  refine s_isub dX12_standBehind_35 ?_
  exact s_iret rfl dX12_standBehind_36
def fX12_manyRuns_l10 (K : Int32 → Hp → Option (Int32 × Hp)) (rec : Int32 → Int32 → Int32 → Hp → Option (Int32 × Hp)) (l1 l2 l3 : Int32) (h : Hp) : Option (Int32 × Hp) :=
  if l3 = (-1) then (K l1 h)
  else (bnd (fX12_standBehind l2 l3 h) fun x4 h3 =>
  lt (l1 + 1) fun x5 =>
  bnd (fX12_nextRun x4 h3) fun x7 h6 =>
  rec x5 x4 x7 h6)
def fX12_manyRuns (h : Hp) : Option (Int32 × Hp) :=
  bnd (fX12_nextRun 0 h) fun x2 h1 =>
  itr3 (fX12_manyRuns_l10 (fun y8 h9 => some (y8, h9))) FU 0 0 x2 h1
set_option maxHeartbeats 4000000 in
set_option maxRecDepth 100000 in
theorem sX12_manyRuns_l10 (g : GE) (K : Int32 → Hp → Option (Int32 × Hp)) (hK : ∀ (y1 : Int32) (h : Hp), Sim cvi 1 g mX12_manyRuns 6 34 [(1, .int y1)] [] h (K y1 h)) : ∀ (n : Nat) (l1 l2 l3 : Int32) (h : Hp), Sim cvi 1 g mX12_manyRuns 6 10 [(0, rv g 10 0), (1, .int l1), (2, .int l2), (3, .int l3)] [] h (itr3 (fX12_manyRuns_l10 K) n l1 l2 l3 h) := by
  refine s_itr3 (fun l1 l2 l3 h o => Sim cvi 1 g mX12_manyRuns 6 10 [(0, rv g 10 0), (1, .int l1), (2, .int l2), (3, .int l3)] [] h o) (fun _ _ _ _ => s_none) ?_
  intro rec hrec l1 l2 l3 h
  unfold fX12_manyRuns_l10
  refine s_iload_n 3 dX12_manyRuns_10 rfl rfl ?_
  refine s_iconst (v := (-1)) dX12_manyRuns_11 rfl ?_
  refine s_icmp_eq (tgt := 34) dX12_manyRuns_12 (by decide) ?_ ?_
  ·
    refine s_sub [1] rfl ?_
    exact hK l1 h
  ·
    refine s_aload_n 0 dX12_manyRuns_15 rfl rfl ?_
    refine s_iload_n 2 dX12_manyRuns_16 rfl rfl ?_
    refine s_iload_n 3 dX12_manyRuns_17 rfl rfl ?_
    refine s_callVi (s0 := 0) (As := [.int l2, .int l3]) (rest := []) (cX12_standBehind_ok g l2 l3 h) vl_X12_374 rfl (Nat.le_of_ble_eq_true rfl) (Nat.le_of_ble_eq_true rfl) dX12_manyRuns_18 rfl (fun x4 h3 => ?_)
    refine s_istore_n (ls' := [(2, .int x4), (0, rv g 10 0), (1, .int l1), (3, .int l3)]) dX12_manyRuns_21 rfl (by decide) rfl ?_
    refine s_iincl 2 (w := 1) (fun x5 => [(1, .int x5), (2, .int x4), (0, rv g 10 0), (3, .int l3)]) dX12_manyRuns_22 rfl rfl (by decide) (fun _ => rfl) (fun x5 => ?_)
    refine s_aload_n 2 dX12_manyRuns_25 rfl rfl ?_
    refine s_iload_n 1 dX12_manyRuns_26 rfl rfl ?_
    refine s_callVi (s0 := 0) (As := [.int x4]) (rest := []) (cX12_nextRun_ok g x4 h3) vl_X12_371 rfl (Nat.le_of_ble_eq_true rfl) (Nat.le_of_ble_eq_true rfl) dX12_manyRuns_27 rfl (fun x7 h6 => ?_)
    refine s_istore_n (ls' := [(3, .int x7), (1, .int x5), (2, .int x4), (0, rv g 10 0)]) dX12_manyRuns_30 rfl (by decide) rfl ?_
    refine s_goto (tgt := 10) dX12_manyRuns_31 (by decide) ?_
    refine s_sub [3, 1, 2, 0] rfl ?_
    exact hrec x5 x4 x7 h6
set_option maxHeartbeats 4000000 in
set_option maxRecDepth 100000 in
theorem cX12_manyRuns_ok (g : GE) (h : Hp) : Con cvi 1 g mX12_manyRuns 6 [rv g 10 0] h (fX12_manyRuns h) := by
  refine Con.of (by decide +kernel) (Nat.le_of_ble_eq_true rfl) ?_
  show Sim cvi 1 g mX12_manyRuns 6 0 [(0, rv g 10 0)] [] h _
  unfold fX12_manyRuns
  refine s_iconst (v := 0) dX12_manyRuns_0 rfl ?_
  refine s_istore_n (ls' := [(1, .int 0), (0, rv g 10 0)]) dX12_manyRuns_1 rfl (by decide) rfl ?_
  refine s_iconst (v := 0) dX12_manyRuns_2 rfl ?_
  refine s_istore_n (ls' := [(2, .int 0), (1, .int 0), (0, rv g 10 0)]) dX12_manyRuns_3 rfl (by decide) rfl ?_
  refine s_aload_n 2 dX12_manyRuns_4 rfl rfl ?_
  refine s_iconst (v := 0) dX12_manyRuns_5 rfl ?_
  refine s_callVi (s0 := 0) (As := [.int 0]) (rest := []) (cX12_nextRun_ok g 0 h) vl_X12_371 rfl (Nat.le_of_ble_eq_true rfl) (Nat.le_of_ble_eq_true rfl) dX12_manyRuns_6 rfl (fun x2 h1 => ?_)
  refine s_istore_n (ls' := [(3, .int x2), (2, .int 0), (1, .int 0), (0, rv g 10 0)]) dX12_manyRuns_9 rfl (by decide) rfl ?_
  refine s_sub (ls' := [(0, rv g 10 0), (1, .int 0), (2, .int 0), (3, .int x2)]) [3, 2, 1, 0] rfl ?_
  refine sX12_manyRuns_l10 g _ (fun y8 h9 => ?_) FU 0 0 x2 h1
  refine s_iload_n 0 dX12_manyRuns_34 rfl rfl ?_
  exact s_iret rfl dX12_manyRuns_35
def fX12_roundBy_l2 (K : Hp → Option (Int32 × Hp)) (rec : Int32 → Hp → Option (Int32 × Hp)) (l2 : Int32) (h : Hp) : Option (Int32 × Hp) :=
  if (rd h 10 0 46) ≤ l2 then (K h)
  else (ck (ib l2 46656) (lt (wa h 61 0 l2 (-1)) fun h1 =>
  lt (l2 + 1) fun x2 =>
  rec x2 h1))
def fX12_roundBy_l32 (K : Int32 → Int32 → Hp → Option (Int32 × Hp)) (rec : Int32 → Int32 → Hp → Option (Int32 × Hp)) (l2 l3 : Int32) (h : Hp) : Option (Int32 × Hp) :=
  ck (ib l3 46656) (
  if (ra h 61 0 l3) = (-1) then (ck (ib l3 46656) (lt (wa h 61 0 l3 l2) fun h5 =>
  ck (ib l3 46656) (lt (wa h5 62 0 l3 (rd h5 10 0 49)) fun h6 =>
  bnd (fX12_nextRun l3 h6) fun x8 h7 =>
  bnd (fX12_standBehind l3 x8 h7) fun x10 h9 =>
  lt (l2 + 1) fun x11 =>
  rec x11 x10 h9)))
  else (K l2 l3 h))
def fX12_roundBy (l1 : Int32) (h : Hp) : Option (Int32 × Hp) :=
  itr1 (fX12_roundBy_l2 (fun h3 => lt (wr h3 10 0 49 0) fun h4 =>
  itr2 (fX12_roundBy_l32 (fun y12 y13 h14 => if l1 = 2 then (ck (ib y13 46656) (
  some (ra h14 61 0 y13, h14)))
  else (if l1 = 3 then (ck (ib y13 46656) (
  some (y12 - (ra h14 61 0 y13), h14)))
  else (ck (ib y13 46656) (
  some ((rd h14 10 0 49) - (ra h14 62 0 y13), h14)))))) FU 0 0 h4)) FU 0 h
set_option maxHeartbeats 4000000 in
set_option maxRecDepth 100000 in
theorem sX12_roundBy_l2 (g : GE) (l1 : Int32) (K : Hp → Option (Int32 × Hp)) (hK : ∀ (h : Hp), Sim cvi 1 g mX12_roundBy 6 23 [(0, rv g 10 0), (1, .int l1)] [] h (K  h)) : ∀ (n : Nat) (l2 : Int32) (h : Hp), Sim cvi 1 g mX12_roundBy 6 2 [(0, rv g 10 0), (1, .int l1), (2, .int l2)] [] h (itr1 (fX12_roundBy_l2 K) n l2 h) := by
  refine s_itr1 (fun l2 h o => Sim cvi 1 g mX12_roundBy 6 2 [(0, rv g 10 0), (1, .int l1), (2, .int l2)] [] h o) (fun _ _ => s_none) ?_
  intro rec hrec l2 h
  unfold fX12_roundBy_l2
  refine s_iload_n 2 dX12_roundBy_2 rfl rfl ?_
  refine s_aload_n 0 dX12_roundBy_3 rfl rfl ?_
  refine s_geti (s0 := 0) dX12_roundBy_4 fl_X12_340 ?_
  refine s_icmp_ge (tgt := 23) dX12_roundBy_7 (by decide) ?_ ?_
  ·
    refine s_sub [0, 1] rfl ?_
    exact hK h
  ·
    refine s_aload_n 0 dX12_roundBy_10 rfl rfl ?_
    refine s_getr (s0 := 0) dX12_roundBy_11 fl_X12_66 ?_
    refine s_iload_n 2 dX12_roundBy_14 rfl rfl ?_
    refine s_iconst (v := (-1)) dX12_roundBy_15 rfl ?_
    refine s_iast (s0 := 0) ka_61 dX12_roundBy_16 (fun h1 => ?_)
    refine s_iincl 2 (w := 1) (fun x2 => [(2, .int x2), (0, rv g 10 0), (1, .int l1)]) dX12_roundBy_17 rfl rfl (by decide) (fun _ => rfl) (fun x2 => ?_)
    refine s_goto (tgt := 2) dX12_roundBy_20 (by decide) ?_
    refine s_sub [1, 2, 0] rfl ?_
    exact hrec x2 h1
set_option maxHeartbeats 4000000 in
set_option maxRecDepth 100000 in
theorem sX12_roundBy_l32 (g : GE) (l1 : Int32) (K : Int32 → Int32 → Hp → Option (Int32 × Hp)) (hK : ∀ (y2 y3 : Int32) (h : Hp), Sim cvi 1 g mX12_roundBy 6 76 [(0, rv g 10 0), (1, .int l1), (2, .int y2), (3, .int y3)] [] h (K y2 y3 h)) : ∀ (n : Nat) (l2 l3 : Int32) (h : Hp), Sim cvi 1 g mX12_roundBy 6 32 [(0, rv g 10 0), (1, .int l1), (2, .int l2), (3, .int l3)] [] h (itr2 (fX12_roundBy_l32 K) n l2 l3 h) := by
  refine s_itr2 (fun l2 l3 h o => Sim cvi 1 g mX12_roundBy 6 32 [(0, rv g 10 0), (1, .int l1), (2, .int l2), (3, .int l3)] [] h o) (fun _ _ _ => s_none) ?_
  intro rec hrec l2 l3 h
  unfold fX12_roundBy_l32
  refine s_aload_n 0 dX12_roundBy_32 rfl rfl ?_
  refine s_getr (s0 := 0) dX12_roundBy_33 fl_X12_66 ?_
  refine s_iload_n 3 dX12_roundBy_36 rfl rfl ?_
  refine s_iald (s0 := 0) ka_61 dX12_roundBy_37 ?_
  refine s_iconst (v := (-1)) dX12_roundBy_38 rfl ?_
  refine s_icmp_ne (tgt := 76) dX12_roundBy_39 (by decide) ?_ ?_
  ·
    refine s_aload_n 0 dX12_roundBy_42 rfl rfl ?_
    refine s_getr (s0 := 0) dX12_roundBy_43 fl_X12_66 ?_
    refine s_iload_n 3 dX12_roundBy_46 rfl rfl ?_
    refine s_iload_n 2 dX12_roundBy_47 rfl rfl ?_
    refine s_iast (s0 := 0) ka_61 dX12_roundBy_48 (fun h5 => ?_)
    refine s_aload_n 0 dX12_roundBy_49 rfl rfl ?_
    refine s_getr (s0 := 0) dX12_roundBy_50 fl_X12_69 ?_
    refine s_iload_n 3 dX12_roundBy_53 rfl rfl ?_
    refine s_aload_n 0 dX12_roundBy_54 rfl rfl ?_
    refine s_geti (s0 := 0) dX12_roundBy_55 fl_X12_368 ?_
    refine s_iast (s0 := 0) ka_62 dX12_roundBy_58 (fun h6 => ?_)
    refine s_aload_n 0 dX12_roundBy_59 rfl rfl ?_
    refine s_iload_n 3 dX12_roundBy_60 rfl rfl ?_
    refine s_aload_n 0 dX12_roundBy_61 rfl rfl ?_
    refine s_iload_n 3 dX12_roundBy_62 rfl rfl ?_
    refine s_callVi (s0 := 0) (As := [.int l3]) (rest := [.int l3, rv g 10 0]) (cX12_nextRun_ok g l3 h6) vl_X12_371 rfl (Nat.le_of_ble_eq_true rfl) (Nat.le_of_ble_eq_true rfl) dX12_roundBy_63 rfl (fun x8 h7 => ?_)
    refine s_callVi (s0 := 0) (As := [.int l3, .int x8]) (rest := []) (cX12_standBehind_ok g l3 x8 h7) vl_X12_374 rfl (Nat.le_of_ble_eq_true rfl) (Nat.le_of_ble_eq_true rfl) dX12_roundBy_66 rfl (fun x10 h9 => ?_)
    refine s_istore_n (ls' := [(3, .int x10), (0, rv g 10 0), (1, .int l1), (2, .int l2)]) dX12_roundBy_69 rfl (by decide) rfl ?_
    refine s_iincl 3 (w := 1) (fun x11 => [(2, .int x11), (3, .int x10), (0, rv g 10 0), (1, .int l1)]) dX12_roundBy_70 rfl rfl (by decide) (fun _ => rfl) (fun x11 => ?_)
    refine s_goto (tgt := 32) dX12_roundBy_73 (by decide) ?_
    refine s_sub [2, 3, 0, 1] rfl ?_
    exact hrec x11 x10 h9
  ·
    exact hK l2 l3 h
set_option maxHeartbeats 4000000 in
set_option maxRecDepth 100000 in
theorem cX12_roundBy_ok (g : GE) (l1 : Int32) (h : Hp) : Con cvi 1 g mX12_roundBy 6 [rv g 10 0, .int l1] h (fX12_roundBy l1 h) := by
  refine Con.of (by decide +kernel) (Nat.le_of_ble_eq_true rfl) ?_
  show Sim cvi 1 g mX12_roundBy 6 0 [(0, rv g 10 0), (1, .int l1)] [] h _
  unfold fX12_roundBy
  refine s_iconst (v := 0) dX12_roundBy_0 rfl ?_
  refine s_istore_n (ls' := [(2, .int 0), (0, rv g 10 0), (1, .int l1)]) dX12_roundBy_1 rfl (by decide) rfl ?_
  refine s_sub (ls' := [(0, rv g 10 0), (1, .int l1), (2, .int 0)]) [1, 2, 0] rfl ?_
  refine sX12_roundBy_l2 g l1 _ (fun h3 => ?_) FU 0 h
  refine s_aload_n 0 dX12_roundBy_23 rfl rfl ?_
  refine s_iconst (v := 0) dX12_roundBy_24 rfl ?_
  refine s_puti (s0 := 0) dX12_roundBy_25 fl_X12_368 (fun h4 => ?_)
  refine s_iconst (v := 0) dX12_roundBy_28 rfl ?_
  refine s_istore_n (ls' := [(2, .int 0), (0, rv g 10 0), (1, .int l1)]) dX12_roundBy_29 rfl (by decide) rfl ?_
  refine s_iconst (v := 0) dX12_roundBy_30 rfl ?_
  refine s_istore_n (ls' := [(3, .int 0), (2, .int 0), (0, rv g 10 0), (1, .int l1)]) dX12_roundBy_31 rfl (by decide) rfl ?_
  refine s_sub (ls' := [(0, rv g 10 0), (1, .int l1), (2, .int 0), (3, .int 0)]) [2, 3, 1, 0] rfl ?_
  refine sX12_roundBy_l32 g l1 _ (fun y12 y13 h14 => ?_) FU 0 0 h4
  refine s_iload_n 1 dX12_roundBy_76 rfl rfl ?_
  refine s_iconst (v := 2) dX12_roundBy_77 rfl ?_
  refine s_icmp_ne (tgt := 90) dX12_roundBy_78 (by decide) ?_ ?_
  ·
    refine s_aload_n 0 dX12_roundBy_81 rfl rfl ?_
    refine s_getr (s0 := 0) dX12_roundBy_82 fl_X12_66 ?_
    refine s_iload_n 3 dX12_roundBy_85 rfl rfl ?_
    refine s_iald (s0 := 0) ka_61 dX12_roundBy_86 ?_
    refine s_goto (tgt := 117) dX12_roundBy_87 (by decide) ?_
    exact s_iret rfl dX12_roundBy_117
  ·
    refine s_iload_n 1 dX12_roundBy_90 rfl rfl ?_
    refine s_iconst (v := 3) dX12_roundBy_91 rfl ?_
    refine s_icmp_ne (tgt := 106) dX12_roundBy_92 (by decide) ?_ ?_
    ·
      refine s_iload_n 2 dX12_roundBy_95 rfl rfl ?_
      refine s_aload_n 0 dX12_roundBy_96 rfl rfl ?_
      refine s_getr (s0 := 0) dX12_roundBy_97 fl_X12_66 ?_
      refine s_iload_n 3 dX12_roundBy_100 rfl rfl ?_
      refine s_iald (s0 := 0) ka_61 dX12_roundBy_101 ?_
      refine s_isub dX12_roundBy_102 ?_
      refine s_goto (tgt := 117) dX12_roundBy_103 (by decide) ?_
      exact s_iret rfl dX12_roundBy_117
    ·
      refine s_aload_n 0 dX12_roundBy_106 rfl rfl ?_
      refine s_geti (s0 := 0) dX12_roundBy_107 fl_X12_368 ?_
      refine s_aload_n 0 dX12_roundBy_110 rfl rfl ?_
      refine s_getr (s0 := 0) dX12_roundBy_111 fl_X12_69 ?_
      refine s_iload_n 3 dX12_roundBy_114 rfl rfl ?_
      refine s_iald (s0 := 0) ka_62 dX12_roundBy_115 ?_
      refine s_isub dX12_roundBy_116 ?_
      exact s_iret rfl dX12_roundBy_117
def fX12_runAt_l4 (l1 : Int32) (K : Int32 → Hp → Option (Int32 × Hp)) (rec : Int32 → Int32 → Hp → Option (Int32 × Hp)) (l2 l3 : Int32) (h : Hp) : Option (Int32 × Hp) :=
  if l1 ≤ l3 then (K l2 h)
  else (bnd (fX12_nextRun l2 h) fun x2 h1 =>
  if x2 = (-1) then (some ((-1), h1))
  else (bnd (fX12_standBehind l2 x2 h1) fun x4 h3 =>
  lt (l3 + 1) fun x5 =>
  rec x4 x5 h3))
def fX12_runAt (l1 : Int32) (h : Hp) : Option (Int32 × Hp) :=
  itr2 (fX12_runAt_l4 l1 (fun y6 h7 => bnd (fX12_nextRun y6 h7) fun x9 h8 =>
  some (x9, h8))) FU 0 0 h
set_option maxHeartbeats 4000000 in
set_option maxRecDepth 100000 in
theorem sX12_runAt_l4 (g : GE) (l1 : Int32) (K : Int32 → Hp → Option (Int32 × Hp)) (hK : ∀ (y2 : Int32) (h : Hp), Sim cvi 1 g mX12_runAt 6 38 [(0, rv g 10 0), (2, .int y2)] [] h (K y2 h)) : ∀ (n : Nat) (l2 l3 : Int32) (h : Hp), Sim cvi 1 g mX12_runAt 6 4 [(0, rv g 10 0), (1, .int l1), (2, .int l2), (3, .int l3)] [] h (itr2 (fX12_runAt_l4 l1 K) n l2 l3 h) := by
  refine s_itr2 (fun l2 l3 h o => Sim cvi 1 g mX12_runAt 6 4 [(0, rv g 10 0), (1, .int l1), (2, .int l2), (3, .int l3)] [] h o) (fun _ _ _ => s_none) ?_
  intro rec hrec l2 l3 h
  unfold fX12_runAt_l4
  refine s_iload_n 3 dX12_runAt_4 rfl rfl ?_
  refine s_iload_n 1 dX12_runAt_5 rfl rfl ?_
  refine s_icmp_ge (tgt := 38) dX12_runAt_6 (by decide) ?_ ?_
  ·
    refine s_sub [0, 2] rfl ?_
    exact hK l2 h
  ·
    refine s_aload_n 0 dX12_runAt_9 rfl rfl ?_
    refine s_iload_n 2 dX12_runAt_10 rfl rfl ?_
    refine s_callVi (s0 := 0) (As := [.int l2]) (rest := []) (cX12_nextRun_ok g l2 h) vl_X12_371 rfl (Nat.le_of_ble_eq_true rfl) (Nat.le_of_ble_eq_true rfl) dX12_runAt_11 rfl (fun x2 h1 => ?_)
    refine s_istore (ls' := [(4, .int x2), (0, rv g 10 0), (1, .int l1), (2, .int l2), (3, .int l3)]) dX12_runAt_14 (by decide) rfl ?_
    refine s_iload 0 dX12_runAt_16 rfl ?_
    refine s_iconst (v := (-1)) dX12_runAt_18 rfl ?_
    refine s_icmp_ne (tgt := 24) dX12_runAt_19 (by decide) ?_ ?_
    ·
      refine s_iconst (v := (-1)) dX12_runAt_22 rfl ?_
      exact s_iret rfl dX12_runAt_23
    ·
      refine s_aload_n 1 dX12_runAt_24 rfl rfl ?_
      refine s_iload_n 3 dX12_runAt_25 rfl rfl ?_
      refine s_iload 0 dX12_runAt_26 rfl ?_
      refine s_callVi (s0 := 0) (As := [.int l2, .int x2]) (rest := []) (cX12_standBehind_ok g l2 x2 h1) vl_X12_374 rfl (Nat.le_of_ble_eq_true rfl) (Nat.le_of_ble_eq_true rfl) dX12_runAt_28 rfl (fun x4 h3 => ?_)
      refine s_istore_n (ls' := [(2, .int x4), (4, .int x2), (0, rv g 10 0), (1, .int l1), (3, .int l3)]) dX12_runAt_31 rfl (by decide) rfl ?_
      refine s_iincl 4 (w := 1) (fun x5 => [(3, .int x5), (2, .int x4), (4, .int x2), (0, rv g 10 0), (1, .int l1)]) dX12_runAt_32 rfl rfl (by decide) (fun _ => rfl) (fun x5 => ?_)
      refine s_goto (tgt := 4) dX12_runAt_35 (by decide) ?_
      refine s_sub [3, 4, 1, 0] rfl ?_
      exact hrec x4 x5 h3
set_option maxHeartbeats 4000000 in
set_option maxRecDepth 100000 in
theorem cX12_runAt_ok (g : GE) (l1 : Int32) (h : Hp) : Con cvi 1 g mX12_runAt 6 [rv g 10 0, .int l1] h (fX12_runAt l1 h) := by
  refine Con.of (by decide +kernel) (Nat.le_of_ble_eq_true rfl) ?_
  show Sim cvi 1 g mX12_runAt 6 0 [(0, rv g 10 0), (1, .int l1)] [] h _
  unfold fX12_runAt
  refine s_iconst (v := 0) dX12_runAt_0 rfl ?_
  refine s_istore_n (ls' := [(2, .int 0), (0, rv g 10 0), (1, .int l1)]) dX12_runAt_1 rfl (by decide) rfl ?_
  refine s_iconst (v := 0) dX12_runAt_2 rfl ?_
  refine s_istore_n (ls' := [(3, .int 0), (2, .int 0), (0, rv g 10 0), (1, .int l1)]) dX12_runAt_3 rfl (by decide) rfl ?_
  refine s_sub (ls' := [(0, rv g 10 0), (1, .int l1), (2, .int 0), (3, .int 0)]) [2, 3, 1, 0] rfl ?_
  refine sX12_runAt_l4 g l1 _ (fun y6 h7 => ?_) FU 0 0 h
  refine s_aload_n 0 dX12_runAt_38 rfl rfl ?_
  refine s_iload_n 1 dX12_runAt_39 rfl rfl ?_
  refine s_callVi (s0 := 0) (As := [.int y6]) (rest := []) (cX12_nextRun_ok g y6 h7) vl_X12_371 rfl (Nat.le_of_ble_eq_true rfl) (Nat.le_of_ble_eq_true rfl) dX12_runAt_40 rfl (fun x9 h8 => ?_)
  exact s_iret rfl dX12_runAt_43
def fX12_keep (l1 : Int32) (l2 : Int32) (h : Hp) : Option (Int32 × Hp) :=
  lt (wr h 10 0 0 0) fun h1 =>
  bnd (fX12_hand l1 h1) fun x3 h2 =>
  if x3 = 0 then (some ((-2), h2))
  else (bnd (fX12_isForever h2) fun x5 h4 =>
  if l2 < 10 then (if l2 = 0 then (if x5 = 0 then (some (0, h4))
  else (some (1, h4)))
  else if l2 = 1 then (if x5 = 0 then (ck (ib 0 46656) (
  some (ra h4 60 0 0, h4)))
  else (some ((-1), h4)))
  else if l2 = 2 then (jn (κ := Hp → Option (Int32 × Hp)) (fun h10 => some ((-1), h10)) fun k140_8 =>
  if x5 = 0 then (k140_8 h4)
  else (if (rd h4 10 0 22) ≤ 0 then (k140_8 h4)
  else (bnd (fX12_roundBy l2 h4) fun x12 h11 =>
  some (x12, h11))))
  else if l2 = 3 then (jn (κ := Hp → Option (Int32 × Hp)) (fun h15 => some ((-1), h15)) fun k140_13 =>
  if x5 = 0 then (k140_13 h4)
  else (if (rd h4 10 0 22) ≤ 0 then (k140_13 h4)
  else (bnd (fX12_roundBy l2 h4) fun x17 h16 =>
  some (x17, h16))))
  else if l2 = 4 then (jn (κ := Hp → Option (Int32 × Hp)) (fun h20 => some ((-1), h20)) fun k140_18 =>
  if x5 = 0 then (k140_18 h4)
  else (if (rd h4 10 0 22) ≤ 0 then (k140_18 h4)
  else (bnd (fX12_roundBy l2 h4) fun x22 h21 =>
  some (x22, h21))))
  else if l2 = 5 then (if x5 = 0 then (bnd (fX12_manyRuns h4) fun x25 h24 =>
  some (x25, h24))
  else (some ((-1), h4)))
  else (some ((-2), h4)))
  else (if l2 ≤ 109 then (if (rd h4 10 0 22) = 0 then (some ((-1), h4))
  else (bnd (fX12_runAt (l2 - (10 : Int32)) h4) fun x27 h26 =>
  some (x27, h26)))
  else (some ((-2), h4))))
set_option maxHeartbeats 4000000 in
set_option maxRecDepth 100000 in
theorem cX12_keep_ok (g : GE) (l1 : Int32) (l2 : Int32) (h : Hp) : Con cvi 1 g mX12_keep 7 [rv g 10 0, .int l1, .int l2] h (fX12_keep l1 l2 h) := by
  refine Con.of (by decide +kernel) (Nat.le_of_ble_eq_true rfl) ?_
  show Sim cvi 1 g mX12_keep 7 0 [(0, rv g 10 0), (1, .int l1), (2, .int l2)] [] h _
  unfold fX12_keep
  refine s_aload_n 0 dX12_keep_0 rfl rfl ?_
  refine s_iconst (v := 0) dX12_keep_1 rfl ?_
  refine s_puti (s0 := 0) dX12_keep_2 fl_X12_88 (fun h1 => ?_)
  refine s_aload_n 0 dX12_keep_5 rfl rfl ?_
  refine s_iload_n 1 dX12_keep_6 rfl rfl ?_
  refine s_callVi (s0 := 0) (As := [.int l1]) (rest := []) (cX12_hand_ok g l1 h1) vl_X12_241 rfl (Nat.le_of_ble_eq_true rfl) (Nat.le_of_ble_eq_true rfl) dX12_keep_7 rfl (fun x3 h2 => ?_)
  refine s_if_ne (tgt := 16) dX12_keep_10 (by decide) ?_ ?_
  ·
    refine s_bipush (v := (-2)) dX12_keep_13 rfl ?_
    exact s_iret rfl dX12_keep_15
  ·
    refine s_aload_n 0 dX12_keep_16 rfl rfl ?_
    refine s_callVi (s0 := 0) (As := []) (rest := []) (cX12_isForever_ok g h2) vl_X12_377 rfl (Nat.le_of_ble_eq_true rfl) (Nat.le_of_ble_eq_true rfl) dX12_keep_17 rfl (fun x5 h4 => ?_)
    refine s_istore_n (ls' := [(3, .int x5), (0, rv g 10 0), (1, .int l1), (2, .int l2)]) dX12_keep_20 rfl (by decide) rfl ?_
    refine s_iload_n 3 dX12_keep_21 rfl rfl ?_
    refine s_bipush (v := 10) dX12_keep_22 rfl ?_
    refine s_icmp_lt (tgt := 58) dX12_keep_24 (by decide) ?_ ?_
    ·
      refine s_iload_n 3 dX12_keep_58 rfl rfl ?_
      refine s_tab 0 (tgt := 96) dX12_keep_59 (by decide) (by decide) rfl (by decide) ?_ (fun e6 => ?_)
      ·
        refine s_iload_n 0 dX12_keep_96 rfl rfl ?_
        refine s_if_eq (tgt := 104) dX12_keep_97 (by decide) ?_ ?_
        ·
          refine s_iconst (v := 0) dX12_keep_104 rfl ?_
          exact s_iret rfl dX12_keep_105
        ·
          refine s_iconst (v := 1) dX12_keep_100 rfl ?_
          refine s_goto (tgt := 105) dX12_keep_101 (by decide) ?_
          exact s_iret rfl dX12_keep_105
      refine s_tab 1 (tgt := 106) dX12_keep_59 (by decide) (by decide) rfl (by decide) ?_ (fun e7 => ?_)
      ·
        refine s_iload_n 0 dX12_keep_106 rfl rfl ?_
        refine s_if_eq (tgt := 114) dX12_keep_107 (by decide) ?_ ?_
        ·
          refine s_aload_n 1 dX12_keep_114 rfl rfl ?_
          refine s_getr (s0 := 0) dX12_keep_115 fl_X12_63 ?_
          refine s_iconst (v := 0) dX12_keep_118 rfl ?_
          refine s_iald (s0 := 0) ka_60 dX12_keep_119 ?_
          exact s_iret rfl dX12_keep_120
        ·
          refine s_iconst (v := (-1)) dX12_keep_110 rfl ?_
          refine s_goto (tgt := 120) dX12_keep_111 (by decide) ?_
          exact s_iret rfl dX12_keep_120
      refine s_tab 2 (tgt := 121) dX12_keep_59 (by decide) (by decide) rfl (by decide) ?_ (fun e8 => ?_)
      ·
        refine s_iload_n 0 dX12_keep_121 rfl rfl ?_
        refine s_jn (fun (k140_8 : Hp → Option (Int32 × Hp)) => ∀ (h10 : Hp), Sim cvi 1 g mX12_keep 7 140 [] [] h10 (k140_8 h10)) (fun h10 => ?_) (fun k140_8 Hk140_8 => ?_)
        ·
          refine s_iconst (v := (-1)) dX12_keep_140 rfl ?_
          exact s_iret rfl dX12_keep_141
        refine s_if_eq (tgt := 140) dX12_keep_122 (by decide) ?_ ?_
        ·
          refine s_sub [] rfl ?_
          exact Hk140_8 h4
        ·
          refine s_aload_n 1 dX12_keep_125 rfl rfl ?_
          refine s_geti (s0 := 0) dX12_keep_126 fl_X12_232 ?_
          refine s_if_le (tgt := 140) dX12_keep_129 (by decide) ?_ ?_
          ·
            refine s_sub [] rfl ?_
            exact Hk140_8 h4
          ·
            refine s_aload_n 1 dX12_keep_132 rfl rfl ?_
            refine s_iload_n 3 dX12_keep_133 rfl rfl ?_
            refine s_callVi (s0 := 0) (As := [.int l2]) (rest := []) (cX12_roundBy_ok g l2 h4) vl_X12_383 rfl (Nat.le_of_ble_eq_true rfl) (Nat.le_of_ble_eq_true rfl) dX12_keep_134 rfl (fun x12 h11 => ?_)
            refine s_goto (tgt := 141) dX12_keep_137 (by decide) ?_
            exact s_iret rfl dX12_keep_141
      refine s_tab 3 (tgt := 121) dX12_keep_59 (by decide) (by decide) rfl (by decide) ?_ (fun e13 => ?_)
      ·
        refine s_iload_n 0 dX12_keep_121 rfl rfl ?_
        refine s_jn (fun (k140_13 : Hp → Option (Int32 × Hp)) => ∀ (h15 : Hp), Sim cvi 1 g mX12_keep 7 140 [] [] h15 (k140_13 h15)) (fun h15 => ?_) (fun k140_13 Hk140_13 => ?_)
        ·
          refine s_iconst (v := (-1)) dX12_keep_140 rfl ?_
          exact s_iret rfl dX12_keep_141
        refine s_if_eq (tgt := 140) dX12_keep_122 (by decide) ?_ ?_
        ·
          refine s_sub [] rfl ?_
          exact Hk140_13 h4
        ·
          refine s_aload_n 1 dX12_keep_125 rfl rfl ?_
          refine s_geti (s0 := 0) dX12_keep_126 fl_X12_232 ?_
          refine s_if_le (tgt := 140) dX12_keep_129 (by decide) ?_ ?_
          ·
            refine s_sub [] rfl ?_
            exact Hk140_13 h4
          ·
            refine s_aload_n 1 dX12_keep_132 rfl rfl ?_
            refine s_iload_n 3 dX12_keep_133 rfl rfl ?_
            refine s_callVi (s0 := 0) (As := [.int l2]) (rest := []) (cX12_roundBy_ok g l2 h4) vl_X12_383 rfl (Nat.le_of_ble_eq_true rfl) (Nat.le_of_ble_eq_true rfl) dX12_keep_134 rfl (fun x17 h16 => ?_)
            refine s_goto (tgt := 141) dX12_keep_137 (by decide) ?_
            exact s_iret rfl dX12_keep_141
      refine s_tab 4 (tgt := 121) dX12_keep_59 (by decide) (by decide) rfl (by decide) ?_ (fun e18 => ?_)
      ·
        refine s_iload_n 0 dX12_keep_121 rfl rfl ?_
        refine s_jn (fun (k140_18 : Hp → Option (Int32 × Hp)) => ∀ (h20 : Hp), Sim cvi 1 g mX12_keep 7 140 [] [] h20 (k140_18 h20)) (fun h20 => ?_) (fun k140_18 Hk140_18 => ?_)
        ·
          refine s_iconst (v := (-1)) dX12_keep_140 rfl ?_
          exact s_iret rfl dX12_keep_141
        refine s_if_eq (tgt := 140) dX12_keep_122 (by decide) ?_ ?_
        ·
          refine s_sub [] rfl ?_
          exact Hk140_18 h4
        ·
          refine s_aload_n 1 dX12_keep_125 rfl rfl ?_
          refine s_geti (s0 := 0) dX12_keep_126 fl_X12_232 ?_
          refine s_if_le (tgt := 140) dX12_keep_129 (by decide) ?_ ?_
          ·
            refine s_sub [] rfl ?_
            exact Hk140_18 h4
          ·
            refine s_aload_n 1 dX12_keep_132 rfl rfl ?_
            refine s_iload_n 3 dX12_keep_133 rfl rfl ?_
            refine s_callVi (s0 := 0) (As := [.int l2]) (rest := []) (cX12_roundBy_ok g l2 h4) vl_X12_383 rfl (Nat.le_of_ble_eq_true rfl) (Nat.le_of_ble_eq_true rfl) dX12_keep_134 rfl (fun x22 h21 => ?_)
            refine s_goto (tgt := 141) dX12_keep_137 (by decide) ?_
            exact s_iret rfl dX12_keep_141
      refine s_tab 5 (tgt := 142) dX12_keep_59 (by decide) (by decide) rfl (by decide) ?_ (fun e23 => ?_)
      ·
        refine s_iload_n 0 dX12_keep_142 rfl rfl ?_
        refine s_if_eq (tgt := 150) dX12_keep_143 (by decide) ?_ ?_
        ·
          refine s_aload_n 1 dX12_keep_150 rfl rfl ?_
          refine s_callVi (s0 := 0) (As := []) (rest := []) (cX12_manyRuns_ok g h4) vl_X12_386 rfl (Nat.le_of_ble_eq_true rfl) (Nat.le_of_ble_eq_true rfl) dX12_keep_151 rfl (fun x25 h24 => ?_)
          exact s_iret rfl dX12_keep_154
        ·
          refine s_iconst (v := (-1)) dX12_keep_146 rfl ?_
          refine s_goto (tgt := 154) dX12_keep_147 (by decide) ?_
          exact s_iret rfl dX12_keep_154
      have e6 := lv_neT e6 (show (0 : Int32).toInt = 0 from rfl)
      have e7 := lv_neT e7 (show (1 : Int32).toInt = 1 from rfl)
      have e8 := lv_neT e8 (show (2 : Int32).toInt = 2 from rfl)
      have e13 := lv_neT e13 (show (3 : Int32).toInt = 3 from rfl)
      have e18 := lv_neT e18 (show (4 : Int32).toInt = 4 from rfl)
      have e23 := lv_neT e23 (show (5 : Int32).toInt = 5 from rfl)
      refine s_tabd (tgt := 155) dX12_keep_59 (by omega) (by decide) ?_
      refine s_bipush (v := (-2)) dX12_keep_155 rfl ?_
      exact s_iret rfl dX12_keep_157
    ·
      refine s_iload_n 3 dX12_keep_27 rfl rfl ?_
      refine s_bipush (v := 109) dX12_keep_28 rfl ?_
      refine s_icmp_le (tgt := 38) dX12_keep_30 (by decide) ?_ ?_
      ·
        refine s_aload_n 1 dX12_keep_38 rfl rfl ?_
        refine s_geti (s0 := 0) dX12_keep_39 fl_X12_232 ?_
        refine s_if_ne (tgt := 49) dX12_keep_42 (by decide) ?_ ?_
        ·
          refine s_iconst (v := (-1)) dX12_keep_45 rfl ?_
          refine s_goto (tgt := 57) dX12_keep_46 (by decide) ?_
          exact s_iret rfl dX12_keep_57
        ·
          refine s_aload_n 1 dX12_keep_49 rfl rfl ?_
          refine s_iload_n 3 dX12_keep_50 rfl rfl ?_
          refine s_bipush (v := 10) dX12_keep_51 rfl ?_
          refine s_isub dX12_keep_53 ?_
          refine s_callVi (s0 := 0) (As := [.int (l2 - (10 : Int32))]) (rest := []) (cX12_runAt_ok g (l2 - (10 : Int32)) h4) vl_X12_380 rfl (Nat.le_of_ble_eq_true rfl) (Nat.le_of_ble_eq_true rfl) dX12_keep_54 rfl (fun x27 h26 => ?_)
          exact s_iret rfl dX12_keep_57
      ·
        refine s_bipush (v := (-2)) dX12_keep_33 rfl ?_
        refine s_goto (tgt := 57) dX12_keep_35 (by decide) ?_
        exact s_iret rfl dX12_keep_57
def fX12_late_l4 (K : Int32 → Hp → Option (Int32 × Hp)) (rec : Int32 → Int32 → Hp → Option (Int32 × Hp)) (l1 l2 : Int32) (h : Hp) : Option (Int32 × Hp) :=
  if (rd h 10 0 22) ≤ l2 then (K l1 h)
  else (ck (ib l2 5) (
  ck (ib l2 5) (
  bnd (fX12_way (rd h 10 0 24) (ra h 53 0 l2) h) fun x2 h1 =>
  jn (κ := Int32 → Hp → Option (Int32 × Hp)) (fun z0_2 h4 => lt (l1 ||| z0_2) fun x5 =>
  lt (l2 + 1) fun x6 =>
  rec x5 x6 h4) fun k45_2 =>
  if (x2 + (1 : Int32)) ≤ (ra h 55 0 l2) then (k45_2 0 h1)
  else (k45_2 ((1 : Int32) <<< (l2 &&& 31)) h1))))
def fX12_late (h : Hp) : Option (Int32 × Hp) :=
  itr2 (fX12_late_l4 (fun y7 h8 => some (y7, h8))) FU 0 0 h
set_option maxHeartbeats 4000000 in
set_option maxRecDepth 100000 in
theorem sX12_late_l4 (g : GE) (K : Int32 → Hp → Option (Int32 × Hp)) (hK : ∀ (y1 : Int32) (h : Hp), Sim cvi 1 g mX12_late 3 53 [(1, .int y1)] [] h (K y1 h)) : ∀ (n : Nat) (l1 l2 : Int32) (h : Hp), Sim cvi 1 g mX12_late 3 4 [(0, rv g 10 0), (1, .int l1), (2, .int l2)] [] h (itr2 (fX12_late_l4 K) n l1 l2 h) := by
  refine s_itr2 (fun l1 l2 h o => Sim cvi 1 g mX12_late 3 4 [(0, rv g 10 0), (1, .int l1), (2, .int l2)] [] h o) (fun _ _ _ => s_none) ?_
  intro rec hrec l1 l2 h
  unfold fX12_late_l4
  refine s_iload_n 2 dX12_late_4 rfl rfl ?_
  refine s_aload_n 0 dX12_late_5 rfl rfl ?_
  refine s_geti (s0 := 0) dX12_late_6 fl_X12_232 ?_
  refine s_icmp_ge (tgt := 53) dX12_late_9 (by decide) ?_ ?_
  ·
    refine s_sub [1] rfl ?_
    exact hK l1 h
  ·
    refine s_iload_n 1 dX12_late_12 rfl rfl ?_
    refine s_aload_n 0 dX12_late_13 rfl rfl ?_
    refine s_getr (s0 := 0) dX12_late_14 fl_X12_47 ?_
    refine s_iload_n 2 dX12_late_17 rfl rfl ?_
    refine s_iald (s0 := 0) ka_55 dX12_late_18 ?_
    refine s_aload_n 0 dX12_late_19 rfl rfl ?_
    refine s_aload_n 0 dX12_late_20 rfl rfl ?_
    refine s_geti (s0 := 0) dX12_late_21 fl_X12_229 ?_
    refine s_aload_n 0 dX12_late_24 rfl rfl ?_
    refine s_getr (s0 := 0) dX12_late_25 fl_X12_41 ?_
    refine s_iload_n 2 dX12_late_28 rfl rfl ?_
    refine s_iald (s0 := 0) ka_53 dX12_late_29 ?_
    refine s_callVi (s0 := 0) (As := [.int (rd h 10 0 24), .int (ra h 53 0 l2)]) (rest := [.int (ra h 55 0 l2), .int l1]) (cX12_way_ok g (rd h 10 0 24) (ra h 53 0 l2) h) vl_X12_283 rfl (Nat.le_of_ble_eq_true rfl) (Nat.le_of_ble_eq_true rfl) dX12_late_30 rfl (fun x2 h1 => ?_)
    refine s_iconst (v := 1) dX12_late_33 rfl ?_
    refine s_iadd dX12_late_34 ?_
    refine s_jn (fun (k45_2 : Int32 → Hp → Option (Int32 × Hp)) => ∀ (z0_2 : Int32) (h4 : Hp), Sim cvi 1 g mX12_late 3 45 [(0, rv g 10 0), (2, .int l2)] [.int z0_2, .int l1] h4 (k45_2 z0_2 h4)) (fun z0_2 h4 => ?_) (fun k45_2 Hk45_2 => ?_)
    ·
      refine s_ior dX12_late_45 ?_
      refine s_leti (fun x5 => ?_)
      refine s_istore_n (ls' := [(1, .int x5), (0, rv g 10 0), (2, .int l2)]) dX12_late_46 rfl (by decide) rfl ?_
      refine s_iincl 2 (w := 1) (fun x6 => [(2, .int x6), (1, .int x5), (0, rv g 10 0)]) dX12_late_47 rfl rfl (by decide) (fun _ => rfl) (fun x6 => ?_)
      refine s_goto (tgt := 4) dX12_late_50 (by decide) ?_
      refine s_sub [2, 1, 0] rfl ?_
      exact hrec x5 x6 h4
    refine s_icmp_ge (tgt := 44) dX12_late_35 (by decide) ?_ ?_
    ·
      refine s_iconst (v := 0) dX12_late_44 rfl ?_
      refine s_sub [0, 2] rfl ?_
      exact Hk45_2 0 h1
    ·
      refine s_iconst (v := 1) dX12_late_38 rfl ?_
      refine s_iload_n 2 dX12_late_39 rfl rfl ?_
      refine s_ishl dX12_late_40 ?_
      refine s_goto (tgt := 45) dX12_late_41 (by decide) ?_
      refine s_sub [0, 2] rfl ?_
      exact Hk45_2 ((1 : Int32) <<< (l2 &&& 31)) h1
set_option maxHeartbeats 4000000 in
set_option maxRecDepth 100000 in
theorem cX12_late_ok (g : GE) (h : Hp) : Con cvi 1 g mX12_late 3 [rv g 10 0] h (fX12_late h) := by
  refine Con.of (by decide +kernel) (Nat.le_of_ble_eq_true rfl) ?_
  show Sim cvi 1 g mX12_late 3 0 [(0, rv g 10 0)] [] h _
  unfold fX12_late
  refine s_iconst (v := 0) dX12_late_0 rfl ?_
  refine s_istore_n (ls' := [(1, .int 0), (0, rv g 10 0)]) dX12_late_1 rfl (by decide) rfl ?_
  refine s_iconst (v := 0) dX12_late_2 rfl ?_
  refine s_istore_n (ls' := [(2, .int 0), (1, .int 0), (0, rv g 10 0)]) dX12_late_3 rfl (by decide) rfl ?_
  refine s_sub (ls' := [(0, rv g 10 0), (1, .int 0), (2, .int 0)]) [2, 1, 0] rfl ?_
  refine sX12_late_l4 g _ (fun y7 h8 => ?_) FU 0 0 h
  refine s_iload_n 0 dX12_late_53 rfl rfl ?_
  exact s_iret rfl dX12_late_54
def fX12_least (l1 : Int32) (l2 : Int32) (l3 : Int32) (h : Hp) : Option (Int32 × Hp) :=
  lt (wr h 10 0 0 0) fun h1 =>
  bnd (fX12_hasLog l2 h1) fun x3 h2 =>
  if x3 = 0 then (some ((-1), h2))
  else (bnd (fX12_hand l1 h2) fun x5 h4 =>
  if x5 = 0 then (some ((-1), h4))
  else (bnd (fX12_in l3 0 2 h4) fun x7 h6 =>
  if x7 = 0 then (some ((-1), h6))
  else (bnd (fX12_findRows (-1) h6) fun _ h8 =>
  if (rd h8 10 0 53) = 0 then (some ((-1), h8))
  else (if l3 = 0 then (some (rd h8 10 0 55, h8))
  else (if l3 = 1 then (some (rd h8 10 0 56, h8))
  else (some (rd h8 10 0 57, h8)))))))
set_option maxHeartbeats 4000000 in
set_option maxRecDepth 100000 in
theorem cX12_least_ok (g : GE) (l1 : Int32) (l2 : Int32) (l3 : Int32) (h : Hp) : Con cvi 1 g mX12_least 7 [rv g 10 0, .int l1, .int l2, .int l3] h (fX12_least l1 l2 l3 h) := by
  refine Con.of (by decide +kernel) (Nat.le_of_ble_eq_true rfl) ?_
  show Sim cvi 1 g mX12_least 7 0 [(0, rv g 10 0), (1, .int l1), (2, .int l2), (3, .int l3)] [] h _
  unfold fX12_least
  refine s_aload_n 0 dX12_least_0 rfl rfl ?_
  refine s_iconst (v := 0) dX12_least_1 rfl ?_
  refine s_puti (s0 := 0) dX12_least_2 fl_X12_88 (fun h1 => ?_)
  refine s_aload_n 0 dX12_least_5 rfl rfl ?_
  refine s_iload_n 2 dX12_least_6 rfl rfl ?_
  refine s_callVi (s0 := 0) (As := [.int l2]) (rest := []) (cX12_hasLog_ok g l2 h1) vl_X12_447 rfl (Nat.le_of_ble_eq_true rfl) (Nat.le_of_ble_eq_true rfl) dX12_least_7 rfl (fun x3 h2 => ?_)
  refine s_if_eq (tgt := 30) dX12_least_10 (by decide) ?_ ?_
  ·
    refine s_iconst (v := (-1)) dX12_least_30 rfl ?_
    exact s_iret rfl dX12_least_31
  ·
    refine s_aload_n 0 dX12_least_13 rfl rfl ?_
    refine s_iload_n 1 dX12_least_14 rfl rfl ?_
    refine s_callVi (s0 := 0) (As := [.int l1]) (rest := []) (cX12_hand_ok g l1 h2) vl_X12_241 rfl (Nat.le_of_ble_eq_true rfl) (Nat.le_of_ble_eq_true rfl) dX12_least_15 rfl (fun x5 h4 => ?_)
    refine s_if_eq (tgt := 30) dX12_least_18 (by decide) ?_ ?_
    ·
      refine s_iconst (v := (-1)) dX12_least_30 rfl ?_
      exact s_iret rfl dX12_least_31
    ·
      refine s_iload_n 3 dX12_least_21 rfl rfl ?_
      refine s_iconst (v := 0) dX12_least_22 rfl ?_
      refine s_iconst (v := 2) dX12_least_23 rfl ?_
      refine s_callSi (As := [.int l3, .int 0, .int 2]) (rest := []) (cX12_in_ok g l3 0 2 h4) sl_X12_100 rfl (Nat.le_of_ble_eq_true rfl) (Nat.le_of_ble_eq_true rfl) dX12_least_24 rfl (fun x7 h6 => ?_)
      refine s_if_ne (tgt := 32) dX12_least_27 (by decide) ?_ ?_
      ·
        refine s_iconst (v := (-1)) dX12_least_30 rfl ?_
        exact s_iret rfl dX12_least_31
      ·
        refine s_aload_n 0 dX12_least_32 rfl rfl ?_
        refine s_iconst (v := (-1)) dX12_least_33 rfl ?_
        refine s_callVv (s0 := 0) (As := [.int (-1)]) (rest := []) (cX12_findRows_ok g (-1) h6) vl_X12_490 rfl (Nat.le_of_ble_eq_true rfl) (Nat.le_of_ble_eq_true rfl) dX12_least_34 rfl (fun h8 => ?_)
        refine s_aload_n 0 dX12_least_37 rfl rfl ?_
        refine s_geti (s0 := 0) dX12_least_38 fl_X12_462 ?_
        refine s_if_ne (tgt := 48) dX12_least_41 (by decide) ?_ ?_
        ·
          refine s_iconst (v := (-1)) dX12_least_44 rfl ?_
          refine s_goto (tgt := 75) dX12_least_45 (by decide) ?_
          exact s_iret rfl dX12_least_75
        ·
          refine s_iload_n 3 dX12_least_48 rfl rfl ?_
          refine s_if_ne (tgt := 59) dX12_least_49 (by decide) ?_ ?_
          ·
            refine s_aload_n 0 dX12_least_52 rfl rfl ?_
            refine s_geti (s0 := 0) dX12_least_53 fl_X12_471 ?_
            refine s_goto (tgt := 75) dX12_least_56 (by decide) ?_
            exact s_iret rfl dX12_least_75
          ·
            refine s_iload_n 3 dX12_least_59 rfl rfl ?_
            refine s_iconst (v := 1) dX12_least_60 rfl ?_
            refine s_icmp_ne (tgt := 71) dX12_least_61 (by decide) ?_ ?_
            ·
              refine s_aload_n 0 dX12_least_64 rfl rfl ?_
              refine s_geti (s0 := 0) dX12_least_65 fl_X12_474 ?_
              refine s_goto (tgt := 75) dX12_least_68 (by decide) ?_
              exact s_iret rfl dX12_least_75
            ·
              refine s_aload_n 0 dX12_least_71 rfl rfl ?_
              refine s_geti (s0 := 0) dX12_least_72 fl_X12_477 ?_
              exact s_iret rfl dX12_least_75
def fX12_leave_l4 (K : Int32 → Hp → Option (Int32 × Hp)) (rec : Int32 → Int32 → Hp → Option (Int32 × Hp)) (l1 l2 : Int32) (h : Hp) : Option (Int32 × Hp) :=
  if ((1 : Int32) <<< ((rd h 10 0 22) &&& 31)) ≤ l2 then (K l1 h)
  else (lt (wr h 10 0 25 l2) fun h1 =>
  bnd (fX12_ones l2 h1) fun x3 h2 =>
  bnd (fX12_ones l1 h2) fun x5 h4 =>
  jn (κ := Int32 → Hp → Option (Int32 × Hp)) (fun z0_5 h7 => lt (l2 + 1) fun x8 =>
  rec z0_5 x8 h7) fun k42_5 =>
  jn (κ := Hp → Option (Int32 × Hp)) (fun h10 => k42_5 l1 h10) fun k41_8 =>
  if x3 ≤ x5 then (k41_8 h4)
  else (bnd (fX12_isForever h4) fun x12 h11 =>
  if x12 = 0 then (k41_8 h11)
  else (k42_5 l2 h11)))
def fX12_leave (h : Hp) : Option (Int32 × Hp) :=
  itr2 (fX12_leave_l4 (fun y13 h14 => some (y13, h14))) FU 0 1 h
set_option maxHeartbeats 4000000 in
set_option maxRecDepth 100000 in
theorem sX12_leave_l4 (g : GE) (K : Int32 → Hp → Option (Int32 × Hp)) (hK : ∀ (y1 : Int32) (h : Hp), Sim cvi 1 g mX12_leave 7 49 [(1, .int y1)] [] h (K y1 h)) : ∀ (n : Nat) (l1 l2 : Int32) (h : Hp), Sim cvi 1 g mX12_leave 7 4 [(0, rv g 10 0), (1, .int l1), (2, .int l2)] [] h (itr2 (fX12_leave_l4 K) n l1 l2 h) := by
  refine s_itr2 (fun l1 l2 h o => Sim cvi 1 g mX12_leave 7 4 [(0, rv g 10 0), (1, .int l1), (2, .int l2)] [] h o) (fun _ _ _ => s_none) ?_
  intro rec hrec l1 l2 h
  unfold fX12_leave_l4
  refine s_iload_n 2 dX12_leave_4 rfl rfl ?_
  refine s_iconst (v := 1) dX12_leave_5 rfl ?_
  refine s_aload_n 0 dX12_leave_6 rfl rfl ?_
  refine s_geti (s0 := 0) dX12_leave_7 fl_X12_232 ?_
  refine s_ishl dX12_leave_10 ?_
  refine s_icmp_ge (tgt := 49) dX12_leave_11 (by decide) ?_ ?_
  ·
    refine s_sub [1] rfl ?_
    exact hK l1 h
  ·
    refine s_aload_n 0 dX12_leave_14 rfl rfl ?_
    refine s_iload_n 2 dX12_leave_15 rfl rfl ?_
    refine s_puti (s0 := 0) dX12_leave_16 fl_X12_235 (fun h1 => ?_)
    refine s_iload_n 2 dX12_leave_19 rfl rfl ?_
    refine s_callSi (As := [.int l2]) (rest := []) (cX12_ones_ok g l2 h1) sl_X12_389 rfl (Nat.le_of_ble_eq_true rfl) (Nat.le_of_ble_eq_true rfl) dX12_leave_20 rfl (fun x3 h2 => ?_)
    refine s_iload_n 1 dX12_leave_23 rfl rfl ?_
    refine s_callSi (As := [.int l1]) (rest := [.int x3]) (cX12_ones_ok g l1 h2) sl_X12_389 rfl (Nat.le_of_ble_eq_true rfl) (Nat.le_of_ble_eq_true rfl) dX12_leave_24 rfl (fun x5 h4 => ?_)
    refine s_jn (fun (k42_5 : Int32 → Hp → Option (Int32 × Hp)) => ∀ (z0_5 : Int32) (h7 : Hp), Sim cvi 1 g mX12_leave 7 42 [(0, rv g 10 0), (2, .int l2)] [.int z0_5] h7 (k42_5 z0_5 h7)) (fun z0_5 h7 => ?_) (fun k42_5 Hk42_5 => ?_)
    ·
      refine s_istore_n (ls' := [(1, .int z0_5), (0, rv g 10 0), (2, .int l2)]) dX12_leave_42 rfl (by decide) rfl ?_
      refine s_iincl 2 (w := 1) (fun x8 => [(2, .int x8), (1, .int z0_5), (0, rv g 10 0)]) dX12_leave_43 rfl rfl (by decide) (fun _ => rfl) (fun x8 => ?_)
      refine s_goto (tgt := 4) dX12_leave_46 (by decide) ?_
      refine s_sub [2, 1, 0] rfl ?_
      exact hrec z0_5 x8 h7
    refine s_jn (fun (k41_8 : Hp → Option (Int32 × Hp)) => ∀ (h10 : Hp), Sim cvi 1 g mX12_leave 7 41 [(0, rv g 10 0), (1, .int l1), (2, .int l2)] [] h10 (k41_8 h10)) (fun h10 => ?_) (fun k41_8 Hk41_8 => ?_)
    ·
      refine s_iload_n 1 dX12_leave_41 rfl rfl ?_
      refine s_sub [0, 2] rfl ?_
      exact Hk42_5 l1 h10
    refine s_icmp_le (tgt := 41) dX12_leave_27 (by decide) ?_ ?_
    ·
      exact Hk41_8 h4
    ·
      refine s_aload_n 0 dX12_leave_30 rfl rfl ?_
      refine s_callVi (s0 := 0) (As := []) (rest := []) (cX12_isForever_ok g h4) vl_X12_377 rfl (Nat.le_of_ble_eq_true rfl) (Nat.le_of_ble_eq_true rfl) dX12_leave_31 rfl (fun x12 h11 => ?_)
      refine s_if_eq (tgt := 41) dX12_leave_34 (by decide) ?_ ?_
      ·
        exact Hk41_8 h11
      ·
        refine s_iload_n 2 dX12_leave_37 rfl rfl ?_
        refine s_goto (tgt := 42) dX12_leave_38 (by decide) ?_
        refine s_sub [0, 2] rfl ?_
        exact Hk42_5 l2 h11
set_option maxHeartbeats 4000000 in
set_option maxRecDepth 100000 in
theorem cX12_leave_ok (g : GE) (h : Hp) : Con cvi 1 g mX12_leave 7 [rv g 10 0] h (fX12_leave h) := by
  refine Con.of (by decide +kernel) (Nat.le_of_ble_eq_true rfl) ?_
  show Sim cvi 1 g mX12_leave 7 0 [(0, rv g 10 0)] [] h _
  unfold fX12_leave
  refine s_iconst (v := 0) dX12_leave_0 rfl ?_
  refine s_istore_n (ls' := [(1, .int 0), (0, rv g 10 0)]) dX12_leave_1 rfl (by decide) rfl ?_
  refine s_iconst (v := 1) dX12_leave_2 rfl ?_
  refine s_istore_n (ls' := [(2, .int 1), (1, .int 0), (0, rv g 10 0)]) dX12_leave_3 rfl (by decide) rfl ?_
  refine s_sub (ls' := [(0, rv g 10 0), (1, .int 0), (2, .int 1)]) [2, 1, 0] rfl ?_
  refine sX12_leave_l4 g _ (fun y13 h14 => ?_) FU 0 1 h
  refine s_iload_n 0 dX12_leave_49 rfl rfl ?_
  exact s_iret rfl dX12_leave_50
def fX12_loadOf_l4 (K : Int32 → Hp → Option (Int32 × Hp)) (rec : Int32 → Int32 → Hp → Option (Int32 × Hp)) (l1 l2 : Int32) (h : Hp) : Option (Int32 × Hp) :=
  if (rd h 10 0 22) ≤ l2 then (K l1 h)
  else (ck (ib l2 5) (
  ck (!decide ((ra h 54 0 l2) = 0)) (
  lt (l1 + (60 / (ra h 54 0 l2))) fun x1 =>
  lt (l2 + 1) fun x2 =>
  rec x1 x2 h)))
def fX12_loadOf (h : Hp) : Option (Int32 × Hp) :=
  itr2 (fX12_loadOf_l4 (fun y3 h4 => some (y3, h4))) FU 0 0 h
set_option maxHeartbeats 4000000 in
set_option maxRecDepth 100000 in
theorem sX12_loadOf_l4 (g : GE) (K : Int32 → Hp → Option (Int32 × Hp)) (hK : ∀ (y1 : Int32) (h : Hp), Sim cvi 1 g mX12_loadOf 2 30 [(1, .int y1)] [] h (K y1 h)) : ∀ (n : Nat) (l1 l2 : Int32) (h : Hp), Sim cvi 1 g mX12_loadOf 2 4 [(0, rv g 10 0), (1, .int l1), (2, .int l2)] [] h (itr2 (fX12_loadOf_l4 K) n l1 l2 h) := by
  refine s_itr2 (fun l1 l2 h o => Sim cvi 1 g mX12_loadOf 2 4 [(0, rv g 10 0), (1, .int l1), (2, .int l2)] [] h o) (fun _ _ _ => s_none) ?_
  intro rec hrec l1 l2 h
  unfold fX12_loadOf_l4
  refine s_iload_n 2 dX12_loadOf_4 rfl rfl ?_
  refine s_aload_n 0 dX12_loadOf_5 rfl rfl ?_
  refine s_geti (s0 := 0) dX12_loadOf_6 fl_X12_232 ?_
  refine s_icmp_ge (tgt := 30) dX12_loadOf_9 (by decide) ?_ ?_
  ·
    refine s_sub [1] rfl ?_
    exact hK l1 h
  ·
    refine s_iload_n 1 dX12_loadOf_12 rfl rfl ?_
    refine s_bipush (v := 60) dX12_loadOf_13 rfl ?_
    refine s_aload_n 0 dX12_loadOf_15 rfl rfl ?_
    refine s_getr (s0 := 0) dX12_loadOf_16 fl_X12_44 ?_
    refine s_iload_n 2 dX12_loadOf_19 rfl rfl ?_
    refine s_iald (s0 := 0) ka_54 dX12_loadOf_20 ?_
    refine s_idiv dX12_loadOf_21 ?_
    refine s_iadd dX12_loadOf_22 ?_
    refine s_leti (fun x1 => ?_)
    refine s_istore_n (ls' := [(1, .int x1), (0, rv g 10 0), (2, .int l2)]) dX12_loadOf_23 rfl (by decide) rfl ?_
    refine s_iincl 2 (w := 1) (fun x2 => [(2, .int x2), (1, .int x1), (0, rv g 10 0)]) dX12_loadOf_24 rfl rfl (by decide) (fun _ => rfl) (fun x2 => ?_)
    refine s_goto (tgt := 4) dX12_loadOf_27 (by decide) ?_
    refine s_sub [2, 1, 0] rfl ?_
    exact hrec x1 x2 h
set_option maxHeartbeats 4000000 in
set_option maxRecDepth 100000 in
theorem cX12_loadOf_ok (g : GE) (h : Hp) : Con cvi 1 g mX12_loadOf 2 [rv g 10 0] h (fX12_loadOf h) := by
  refine Con.of (by decide +kernel) (Nat.le_of_ble_eq_true rfl) ?_
  show Sim cvi 1 g mX12_loadOf 2 0 [(0, rv g 10 0)] [] h _
  unfold fX12_loadOf
  refine s_iconst (v := 0) dX12_loadOf_0 rfl ?_
  refine s_istore_n (ls' := [(1, .int 0), (0, rv g 10 0)]) dX12_loadOf_1 rfl (by decide) rfl ?_
  refine s_iconst (v := 0) dX12_loadOf_2 rfl ?_
  refine s_istore_n (ls' := [(2, .int 0), (1, .int 0), (0, rv g 10 0)]) dX12_loadOf_3 rfl (by decide) rfl ?_
  refine s_sub (ls' := [(0, rv g 10 0), (1, .int 0), (2, .int 0)]) [2, 1, 0] rfl ?_
  refine sX12_loadOf_l4 g _ (fun y3 h4 => ?_) FU 0 0 h
  refine s_iload_n 0 dX12_loadOf_30 rfl rfl ?_
  exact s_iret rfl dX12_loadOf_31
def fX12_span_l8 (K : Int32 → Int32 → Hp → Option (Int32 × Hp)) (rec : Int32 → Int32 → Int32 → Hp → Option (Int32 × Hp)) (l1 l2 l3 : Int32) (h : Hp) : Option (Int32 × Hp) :=
  if (rd h 10 0 22) ≤ l3 then (K l1 l2 h)
  else (ck (ib l3 5) (
  bnd (fX12_lesser l1 (ra h 53 0 l3) h) fun x2 h1 =>
  ck (ib l3 5) (
  bnd (fX12_greater l2 (ra h1 53 0 l3) h1) fun x4 h3 =>
  lt (l3 + 1) fun x5 =>
  rec x2 x4 x5 h3)))
def fX12_span (h : Hp) : Option (Int32 × Hp) :=
  itr3 (fX12_span_l8 (fun y6 y7 h8 => if (rd h8 10 0 22) = 0 then (some (0, h8))
  else (some (y7 - y6, h8)))) FU 1000000 0 0 h
set_option maxHeartbeats 4000000 in
set_option maxRecDepth 100000 in
theorem sX12_span_l8 (g : GE) (K : Int32 → Int32 → Hp → Option (Int32 × Hp)) (hK : ∀ (y1 y2 : Int32) (h : Hp), Sim cvi 1 g mX12_span 3 44 [(0, rv g 10 0), (1, .int y1), (2, .int y2)] [] h (K y1 y2 h)) : ∀ (n : Nat) (l1 l2 l3 : Int32) (h : Hp), Sim cvi 1 g mX12_span 3 8 [(0, rv g 10 0), (1, .int l1), (2, .int l2), (3, .int l3)] [] h (itr3 (fX12_span_l8 K) n l1 l2 l3 h) := by
  refine s_itr3 (fun l1 l2 l3 h o => Sim cvi 1 g mX12_span 3 8 [(0, rv g 10 0), (1, .int l1), (2, .int l2), (3, .int l3)] [] h o) (fun _ _ _ _ => s_none) ?_
  intro rec hrec l1 l2 l3 h
  unfold fX12_span_l8
  refine s_iload_n 3 dX12_span_8 rfl rfl ?_
  refine s_aload_n 0 dX12_span_9 rfl rfl ?_
  refine s_geti (s0 := 0) dX12_span_10 fl_X12_232 ?_
  refine s_icmp_ge (tgt := 44) dX12_span_13 (by decide) ?_ ?_
  ·
    refine s_sub [0, 1, 2] rfl ?_
    exact hK l1 l2 h
  ·
    refine s_iload_n 1 dX12_span_16 rfl rfl ?_
    refine s_aload_n 0 dX12_span_17 rfl rfl ?_
    refine s_getr (s0 := 0) dX12_span_18 fl_X12_41 ?_
    refine s_iload_n 3 dX12_span_21 rfl rfl ?_
    refine s_iald (s0 := 0) ka_53 dX12_span_22 ?_
    refine s_callSi (As := [.int l1, .int (ra h 53 0 l3)]) (rest := []) (cX12_lesser_ok g l1 (ra h 53 0 l3) h) sl_X12_162 rfl (Nat.le_of_ble_eq_true rfl) (Nat.le_of_ble_eq_true rfl) dX12_span_23 rfl (fun x2 h1 => ?_)
    refine s_istore_n (ls' := [(1, .int x2), (0, rv g 10 0), (2, .int l2), (3, .int l3)]) dX12_span_26 rfl (by decide) rfl ?_
    refine s_iload_n 2 dX12_span_27 rfl rfl ?_
    refine s_aload_n 1 dX12_span_28 rfl rfl ?_
    refine s_getr (s0 := 0) dX12_span_29 fl_X12_41 ?_
    refine s_iload_n 3 dX12_span_32 rfl rfl ?_
    refine s_iald (s0 := 0) ka_53 dX12_span_33 ?_
    refine s_callSi (As := [.int l2, .int (ra h1 53 0 l3)]) (rest := []) (cX12_greater_ok g l2 (ra h1 53 0 l3) h1) sl_X12_280 rfl (Nat.le_of_ble_eq_true rfl) (Nat.le_of_ble_eq_true rfl) dX12_span_34 rfl (fun x4 h3 => ?_)
    refine s_istore_n (ls' := [(2, .int x4), (1, .int x2), (0, rv g 10 0), (3, .int l3)]) dX12_span_37 rfl (by decide) rfl ?_
    refine s_iincl 3 (w := 1) (fun x5 => [(3, .int x5), (2, .int x4), (1, .int x2), (0, rv g 10 0)]) dX12_span_38 rfl rfl (by decide) (fun _ => rfl) (fun x5 => ?_)
    refine s_goto (tgt := 8) dX12_span_41 (by decide) ?_
    refine s_sub [3, 2, 1, 0] rfl ?_
    exact hrec x2 x4 x5 h3
set_option maxHeartbeats 4000000 in
set_option maxRecDepth 100000 in
theorem cX12_span_ok (g : GE) (h : Hp) : Con cvi 1 g mX12_span 3 [rv g 10 0] h (fX12_span h) := by
  refine Con.of (by decide +kernel) (Nat.le_of_ble_eq_true rfl) ?_
  show Sim cvi 1 g mX12_span 3 0 [(0, rv g 10 0)] [] h _
  unfold fX12_span
  refine s_ldcw dX12_span_0 w_7_137 ?_
  refine s_istore_n (ls' := [(1, .int 1000000), (0, rv g 10 0)]) dX12_span_3 rfl (by decide) rfl ?_
  refine s_iconst (v := 0) dX12_span_4 rfl ?_
  refine s_istore_n (ls' := [(2, .int 0), (1, .int 1000000), (0, rv g 10 0)]) dX12_span_5 rfl (by decide) rfl ?_
  refine s_iconst (v := 0) dX12_span_6 rfl ?_
  refine s_istore_n (ls' := [(3, .int 0), (2, .int 0), (1, .int 1000000), (0, rv g 10 0)]) dX12_span_7 rfl (by decide) rfl ?_
  refine s_sub (ls' := [(0, rv g 10 0), (1, .int 1000000), (2, .int 0), (3, .int 0)]) [3, 2, 1, 0] rfl ?_
  refine sX12_span_l8 g _ (fun y6 y7 h8 => ?_) FU 1000000 0 0 h
  refine s_aload_n 0 dX12_span_44 rfl rfl ?_
  refine s_geti (s0 := 0) dX12_span_45 fl_X12_232 ?_
  refine s_if_ne (tgt := 55) dX12_span_48 (by decide) ?_ ?_
  ·
    refine s_iconst (v := 0) dX12_span_51 rfl ?_
    refine s_goto (tgt := 58) dX12_span_52 (by decide) ?_
    exact s_iret rfl dX12_span_58
  ·
    refine s_iload_n 2 dX12_span_55 rfl rfl ?_
    refine s_iload_n 1 dX12_span_56 rfl rfl ?_
    refine s_isub dX12_span_57 ?_
    exact s_iret rfl dX12_span_58
