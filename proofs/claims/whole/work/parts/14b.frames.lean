def wX12_addStand : List FE := [(58, some 0, none), (10, some 0, some 46), (59, some 0, none)]
set_option maxHeartbeats 4000000 in
theorem frX12_addStand (l1 : Int32) (h : Hp) : FrO wX12_addStand h (fX12_addStand l1 h) := by
  have c_h : Fr wX12_addStand h h := Fr.rf
  unfold fX12_addStand
  refine fro_ck ?_
  refine fro_if ?_ ?_
  ·
    refine fro_ck ?_
    refine fro_h (fr_wa 0 rfl) c_h (fun h1 c_h1 => ?_)
    refine fro_h (fr_wr 1 rfl) c_h1 (fun h2 c_h2 => ?_)
    refine fro_ck ?_
    refine fro_h (fr_wa 2 rfl) c_h2 (fun h3 c_h3 => ?_)
    exact fro_some c_h3
  ·
    exact fro_some c_h
def wX12_addsFault : List FE := [(10, some 0, some 16), (10, some 0, some 17)]
set_option maxHeartbeats 4000000 in
theorem frX12_addsFault (l1 : Int32) (l2 : Int32) (h : Hp) : FrO wX12_addsFault h (fX12_addsFault l1 l2 h) := by
  have c_h : Fr wX12_addsFault h h := Fr.rf
  unfold fX12_addsFault
  refine fro_jn (fun (k31_0 : Hp → Option (Unit × Hp)) => ∀ (h2 : Hp), Fr wX12_addsFault h h2 → FrO wX12_addsFault h (k31_0 h2)) (fun h2 c_h2 => ?_) (fun k31_0 Hk31_0 => ?_)
  ·
    refine fro_h (fr_wr 0 rfl) c_h2 (fun h3 c_h3 => ?_)
    refine fro_h (fr_wr 1 rfl) c_h3 (fun h4 c_h4 => ?_)
    exact fro_some c_h4
  refine fro_if ?_ ?_
  ·
    exact Hk31_0 h c_h
  ·
    refine fro_if ?_ ?_
    ·
      exact Hk31_0 h c_h
    ·
      refine fro_if ?_ ?_
      ·
        refine fro_if ?_ ?_
        ·
          exact fro_some c_h
        ·
          exact Hk31_0 h c_h
      ·
        exact fro_some c_h
def wX12_deeds : List FE := []
set_option maxHeartbeats 4000000 in
theorem frX12_deeds (h : Hp) : FrO wX12_deeds h (fX12_deeds h) := by
  have c_h : Fr wX12_deeds h h := Fr.rf
  unfold fX12_deeds
  refine fro_ck ?_
  exact fro_some c_h
def wX12_deedOf : List FE := []
set_option maxHeartbeats 4000000 in
theorem frX12_deedOf (l1 : Int32) (l2 : Int32) (h : Hp) : FrO wX12_deedOf h (fX12_deedOf l1 l2 h) := by
  have c_h : Fr wX12_deedOf h h := Fr.rf
  unfold fX12_deedOf
  refine fro_ck ?_
  exact fro_some c_h
def wX12_greater : List FE := []
set_option maxHeartbeats 4000000 in
theorem frX12_greater (l0 : Int32) (l1 : Int32) (h : Hp) : FrO wX12_greater h (fX12_greater l0 l1 h) := by
  have c_h : Fr wX12_greater h h := Fr.rf
  unfold fX12_greater
  refine fro_if ?_ ?_
  ·
    exact fro_some c_h
  ·
    exact fro_some c_h
def wX12_lose : List FE := [(63, some 0, none), (10, some 0, some 31)]
set_option maxHeartbeats 4000000 in
theorem frX12_lose (l1 : Int32) (h : Hp) : FrO wX12_lose h (fX12_lose l1 h) := by
  have c_h : Fr wX12_lose h h := Fr.rf
  unfold fX12_lose
  refine fro_ck ?_
  refine fro_ck ?_
  refine fro_h (fr_wa 0 rfl) c_h (fun h1 c_h1 => ?_)
  refine fro_ck ?_
  refine fro_if ?_ ?_
  ·
    refine fro_h (fr_wr 1 rfl) c_h1 (fun h2 c_h2 => ?_)
    exact fro_some c_h2
  ·
    refine fro_h (fr_wr 1 rfl) c_h1 (fun h3 c_h3 => ?_)
    exact fro_some c_h3
def wX12_standNow : List FE := []
set_option maxHeartbeats 4000000 in
theorem frX12_standNow_l4 (K : Int32 → Hp → Option (Int32 × Hp)) (h0 : Hp) (hK : ∀ (y1 : Int32) (h : Hp), Fr wX12_standNow h0 h → FrO wX12_standNow h0 (K y1 h)) : ∀ (n : Nat) (l1 l2 : Int32) (h : Hp), Fr wX12_standNow h0 h → FrO wX12_standNow h0 (itr2 (fX12_standNow_l4 K) n l1 l2 h) := by
  refine fro_itr2 ?_
  intro rec hrec l1 l2 h c_h
  unfold fX12_standNow_l4
  refine fro_if ?_ ?_
  ·
    exact hK l1 h c_h
  ·
    refine fro_ck ?_
    refine fro_jn (fun (k29_0 : Int32 → Hp → Option (Int32 × Hp)) => ∀ (z0_0 : Int32) (h2 : Hp), Fr wX12_standNow h0 h2 → FrO wX12_standNow h0 (k29_0 z0_0 h2)) (fun z0_0 h2 c_h2 => ?_) (fun k29_0 Hk29_0 => ?_)
    ·
      refine fro_let (fun x3 => ?_)
      refine fro_let (fun x4 => ?_)
      exact hrec x3 x4 h2 c_h2
    refine fro_if ?_ ?_
    ·
      exact Hk29_0 0 h c_h
    ·
      exact Hk29_0 ((1 : Int32) <<< (l2 &&& 31)) h c_h
set_option maxHeartbeats 4000000 in
theorem frX12_standNow (h : Hp) : FrO wX12_standNow h (fX12_standNow h) := by
  have c_h : Fr wX12_standNow h h := Fr.rf
  unfold fX12_standNow
  refine frX12_standNow_l4 _ _ (fun y5 h6 c_h6 => ?_) FU 0 0 h c_h
  exact fro_some c_h6
def wX12_beat : List FE := [(63, some 0, none), (10, some 0, some 31), (10, some 0, some 30), (10, some 0, some 35), (10, some 0, some 36), (10, some 0, some 37), (57, some 0, none)]
set_option maxHeartbeats 4000000 in
theorem frX12_beat_l7 (l1 : Int32) (K : Hp → Option (Unit × Hp)) (h0 : Hp) (hK : ∀ (h : Hp), Fr wX12_beat h0 h → FrO wX12_beat h0 (K  h)) : ∀ (n : Nat) (l3 : Int32) (h : Hp), Fr wX12_beat h0 h → FrO wX12_beat h0 (itr1 (fX12_beat_l7 l1 K) n l3 h) := by
  refine fro_itr1 ?_
  intro rec hrec l3 h c_h
  unfold fX12_beat_l7
  refine fro_if ?_ ?_
  ·
    exact hK h c_h
  ·
    refine fro_jn (fun (k34_1 : Hp → Option (Unit × Hp)) => ∀ (h3 : Hp), Fr wX12_beat h0 h3 → FrO wX12_beat h0 (k34_1 h3)) (fun h3 c_h3 => ?_) (fun k34_1 Hk34_1 => ?_)
    ·
      refine fro_let (fun x4 => ?_)
      exact hrec x4 h3 c_h3
    refine fro_if ?_ ?_
    ·
      exact Hk34_1 h c_h
    ·
      refine fro_ck ?_
      refine fro_if ?_ ?_
      ·
        exact Hk34_1 h c_h
      ·
        refine fro_bnd (frX12_lose l3 h) (fun _ a => a.pick [0, 1] rfl) c_h (fun _ h5 c_h5 => ?_)
        exact Hk34_1 h5 c_h5
set_option maxHeartbeats 4000000 in
theorem frX12_beat (l1 : Int32) (h : Hp) : FrO wX12_beat h (fX12_beat l1 h) := by
  have c_h : Fr wX12_beat h h := Fr.rf
  unfold fX12_beat
  refine fro_let (fun x1 => ?_)
  refine frX12_beat_l7 l1 _ _ (fun h6 c_h6 => ?_) FU 0 h c_h
  refine fro_h (fr_wr 2 rfl) c_h6 (fun h7 c_h7 => ?_)
  refine fro_jn (fun (k69_7 : Int32 → Hp → Option (Unit × Hp)) => ∀ (z0_7 : Int32) (h9 : Hp), Fr wX12_beat h h9 → FrO wX12_beat h (k69_7 z0_7 h9)) (fun z0_7 h9 c_h9 => ?_) (fun k69_7 Hk69_7 => ?_)
  ·
    refine fro_h (fr_wr 3 rfl) c_h9 (fun h10 c_h10 => ?_)
    refine fro_bnd (frX12_greater (rd h10 10 0 36) (rd h10 10 0 35) h10) (fun _ a => a.pick [] rfl) c_h10 (fun x12 h11 c_h11 => ?_)
    refine fro_h (fr_wr 4 rfl) c_h11 (fun h13 c_h13 => ?_)
    refine fro_bnd (frX12_greater (rd h13 10 0 37) ((rd h13 10 0 31) - x1) h13) (fun _ a => a.pick [] rfl) c_h13 (fun x15 h14 c_h14 => ?_)
    refine fro_h (fr_wr 5 rfl) c_h14 (fun h16 c_h16 => ?_)
    refine fro_if ?_ ?_
    ·
      exact fro_some c_h16
    ·
      refine fro_bnd (frX12_standNow h16) (fun _ a => a.pick [] rfl) c_h16 (fun x18 h17 c_h17 => ?_)
      refine fro_ck ?_
      refine fro_h (fr_wa 6 rfl) c_h17 (fun h19 c_h19 => ?_)
      exact fro_some c_h19
  refine fro_if ?_ ?_
  ·
    exact Hk69_7 ((rd h7 10 0 35) + (1 : Int32)) h7 c_h7
  ·
    exact Hk69_7 0 h7 c_h7
def wX12_isLate : List FE := []
set_option maxHeartbeats 4000000 in
theorem frX12_isLate (l1 : Int32) (h : Hp) : FrO wX12_isLate h (fX12_isLate l1 h) := by
  have c_h : Fr wX12_isLate h h := Fr.rf
  unfold fX12_isLate
  refine fro_if ?_ ?_
  ·
    refine fro_ck ?_
    exact fro_some c_h
  ·
    refine fro_ck ?_
    exact fro_some c_h
def wX12_in : List FE := []
set_option maxHeartbeats 4000000 in
theorem frX12_in (l0 : Int32) (l1 : Int32) (l2 : Int32) (h : Hp) : FrO wX12_in h (fX12_in l0 l1 l2 h) := by
  have c_h : Fr wX12_in h h := Fr.rf
  unfold fX12_in
  refine fro_jn (fun (k14_0 : Hp → Option (Int32 × Hp)) => ∀ (h2 : Hp), Fr wX12_in h h2 → FrO wX12_in h (k14_0 h2)) (fun h2 c_h2 => ?_) (fun k14_0 Hk14_0 => ?_)
  ·
    refine fro_ck ?_
    exact fro_some c_h2
  refine fro_if ?_ ?_
  ·
    exact Hk14_0 h c_h
  ·
    refine fro_if ?_ ?_
    ·
      exact Hk14_0 h c_h
    ·
      refine fro_ck ?_
      exact fro_some c_h
def wX12_isPlate : List FE := []
set_option maxHeartbeats 4000000 in
theorem frX12_isPlate (l1 : Int32) (h : Hp) : FrO wX12_isPlate h (fX12_isPlate l1 h) := by
  have c_h : Fr wX12_isPlate h h := Fr.rf
  unfold fX12_isPlate
  refine fro_bnd (frX12_in l1 0 ((rd h 10 0 22) - (1 : Int32)) h) (fun _ a => a.pick [] rfl) c_h (fun x2 h1 c_h1 => ?_)
  refine fro_ck ?_
  exact fro_some c_h1
def wX12_way : List FE := []
set_option maxHeartbeats 4000000 in
theorem frX12_way (l1 : Int32) (l2 : Int32) (h : Hp) : FrO wX12_way h (fX12_way l1 l2 h) := by
  have c_h : Fr wX12_way h h := Fr.rf
  unfold fX12_way
  refine fro_jn (fun (k14_0 : Int32 → Hp → Option (Int32 × Hp)) => ∀ (z0_0 : Int32) (h2 : Hp), Fr wX12_way h h2 → FrO wX12_way h (k14_0 z0_0 h2)) (fun z0_0 h2 c_h2 => ?_) (fun k14_0 Hk14_0 => ?_)
  ·
    refine fro_ck ?_
    exact fro_some c_h2
  refine fro_if ?_ ?_
  ·
    exact Hk14_0 (l1 - l2) h c_h
  ·
    exact Hk14_0 (l2 - l1) h c_h
def wX12_run : List FE := [(63, some 0, none), (10, some 0, some 31), (10, some 0, some 30), (10, some 0, some 35), (10, some 0, some 36), (10, some 0, some 37), (57, some 0, none), (10, some 0, some 32), (56, some 0, none), (10, some 0, some 33), (10, some 0, some 34), (10, some 0, some 29)]
set_option maxHeartbeats 4000000 in
theorem frX12_run_l38 (l2 : Int32) (K : Hp → Option (Int32 × Hp)) (h0 : Hp) (hK : ∀ (h : Hp), Fr wX12_run h0 h → FrO wX12_run h0 (K  h)) : ∀ (n : Nat) (l3 : Int32) (h : Hp), Fr wX12_run h0 h → FrO wX12_run h0 (itr1 (fX12_run_l38 l2 K) n l3 h) := by
  refine fro_itr1 ?_
  intro rec hrec l3 h c_h
  unfold fX12_run_l38
  refine fro_if ?_ ?_
  ·
    exact hK h c_h
  ·
    refine fro_bnd (frX12_beat (-1) h) (fun _ a => a.pick [0, 1, 2, 3, 4, 5, 6] rfl) c_h (fun _ h6 c_h6 => ?_)
    refine fro_let (fun x7 => ?_)
    exact hrec x7 h6 c_h6
set_option maxHeartbeats 4000000 in
theorem frX12_run (l1 : Int32) (h : Hp) : FrO wX12_run h (fX12_run l1 h) := by
  have c_h : Fr wX12_run h h := Fr.rf
  unfold fX12_run
  refine fro_ck ?_
  refine fro_bnd (frX12_way (rd h 10 0 29) (ra h 53 0 l1) h) (fun _ a => a.pick [] rfl) c_h (fun x2 h1 c_h1 => ?_)
  refine fro_let (fun x3 => ?_)
  refine fro_ck ?_
  refine fro_if ?_ ?_
  ·
    refine fro_ck ?_
    exact fro_some c_h1
  ·
    refine fro_bnd (frX12_isLate x3 h1) (fun _ a => a.pick [] rfl) c_h1 (fun x5 h4 c_h4 => ?_)
    refine fro_if ?_ ?_
    ·
      refine frX12_run_l38 x3 _ _ (fun h8 c_h8 => ?_) FU 1 h4 c_h4
      refine fro_ck ?_
      refine fro_jn (fun (k68_8 : Int32 → Hp → Option (Int32 × Hp)) => ∀ (z0_8 : Int32) (h10 : Hp), Fr wX12_run h h10 → FrO wX12_run h (k68_8 z0_8 h10)) (fun z0_8 h10 c_h10 => ?_) (fun k68_8 Hk68_8 => ?_)
      ·
        refine fro_jn (fun (k79_10 : Int32 → Hp → Option (Int32 × Hp)) => ∀ (z0_10 : Int32) (h12 : Hp), Fr wX12_run h h12 → FrO wX12_run h (k79_10 z0_10 h12)) (fun z0_10 h12 c_h12 => ?_) (fun k79_10 Hk79_10 => ?_)
        ·
          refine fro_bnd (frX12_beat z0_10 h12) (fun _ a => a.pick [0, 1, 2, 3, 4, 5, 6] rfl) c_h12 (fun _ h13 c_h13 => ?_)
          refine fro_jn (fun (k101_13 : Int32 → Hp → Option (Int32 × Hp)) => ∀ (z0_13 : Int32) (h15 : Hp), Fr wX12_run h h15 → FrO wX12_run h (k101_13 z0_13 h15)) (fun z0_13 h15 c_h15 => ?_) (fun k101_13 Hk101_13 => ?_)
          ·
            refine fro_ck ?_
            refine fro_h (fr_wa 0 rfl) c_h15 (fun h16 c_h16 => ?_)
            refine fro_jn (fun (k116_16 : Int32 → Hp → Option (Int32 × Hp)) => ∀ (z0_16 : Int32) (h18 : Hp), Fr wX12_run h h18 → FrO wX12_run h (k116_16 z0_16 h18)) (fun z0_16 h18 c_h18 => ?_) (fun k116_16 Hk116_16 => ?_)
            ·
              refine fro_h (fr_wr 7 rfl) c_h18 (fun h19 c_h19 => ?_)
              refine fro_ck ?_
              refine fro_jn (fun (k136_19 : Int32 → Hp → Option (Int32 × Hp)) => ∀ (z0_19 : Int32) (h21 : Hp), Fr wX12_run h h21 → FrO wX12_run h (k136_19 z0_19 h21)) (fun z0_19 h21 c_h21 => ?_) (fun k136_19 Hk136_19 => ?_)
              ·
                refine fro_ck ?_
                refine fro_h (fr_wa 8 rfl) c_h21 (fun h22 c_h22 => ?_)
                refine fro_jn (fun (k152_22 : Int32 → Hp → Option (Int32 × Hp)) => ∀ (z0_22 : Int32) (h24 : Hp), Fr wX12_run h h24 → FrO wX12_run h (k152_22 z0_22 h24)) (fun z0_22 h24 c_h24 => ?_) (fun k152_22 Hk152_22 => ?_)
                ·
                  refine fro_h (fr_wr 9 rfl) c_h24 (fun h25 c_h25 => ?_)
                  refine fro_h (fr_wr 10 rfl) c_h25 (fun h26 c_h26 => ?_)
                  refine fro_ck ?_
                  refine fro_h (fr_wr 11 rfl) c_h26 (fun h27 c_h27 => ?_)
                  refine fro_ck ?_
                  exact fro_some c_h27
                refine fro_if ?_ ?_
                ·
                  exact Hk152_22 1 h22 c_h22
                ·
                  exact Hk152_22 0 h22 c_h22
              refine fro_if ?_ ?_
              ·
                exact Hk136_19 0 h19 c_h19
              ·
                exact Hk136_19 1 h19 c_h19
            refine fro_if ?_ ?_
            ·
              exact Hk116_16 0 h16 c_h16
            ·
              exact Hk116_16 1 h16 c_h16
          refine fro_if ?_ ?_
          ·
            exact Hk101_13 0 h13 c_h13
          ·
            refine fro_ck ?_
            exact Hk101_13 (ra h13 54 0 l1) h13 c_h13
        refine fro_if ?_ ?_
        ·
          exact Hk79_10 (-1) h10 c_h10
        ·
          exact Hk79_10 l1 h10 c_h10
      refine fro_if ?_ ?_
      ·
        exact Hk68_8 0 h8 c_h8
      ·
        exact Hk68_8 1 h8 c_h8
    ·
      refine fro_ck ?_
      exact fro_some c_h4
def wX12_sets : List FE := [(63, some 0, none), (10, some 0, some 31), (10, some 0, some 30), (10, some 0, some 35), (10, some 0, some 36), (10, some 0, some 37), (57, some 0, none), (10, some 0, some 34), (10, some 0, some 29)]
set_option maxHeartbeats 4000000 in
theorem frX12_sets_l38 (l2 : Int32) (K : Hp → Option (Int32 × Hp)) (h0 : Hp) (hK : ∀ (h : Hp), Fr wX12_sets h0 h → FrO wX12_sets h0 (K  h)) : ∀ (n : Nat) (l3 : Int32) (h : Hp), Fr wX12_sets h0 h → FrO wX12_sets h0 (itr1 (fX12_sets_l38 l2 K) n l3 h) := by
  refine fro_itr1 ?_
  intro rec hrec l3 h c_h
  unfold fX12_sets_l38
  refine fro_if ?_ ?_
  ·
    exact hK h c_h
  ·
    refine fro_bnd (frX12_beat (-1) h) (fun _ a => a.pick [0, 1, 2, 3, 4, 5, 6] rfl) c_h (fun _ h6 c_h6 => ?_)
    refine fro_let (fun x7 => ?_)
    exact hrec x7 h6 c_h6
set_option maxHeartbeats 4000000 in
theorem frX12_sets (l1 : Int32) (h : Hp) : FrO wX12_sets h (fX12_sets l1 h) := by
  have c_h : Fr wX12_sets h h := Fr.rf
  unfold fX12_sets
  refine fro_ck ?_
  refine fro_bnd (frX12_way (rd h 10 0 29) (ra h 53 0 l1) h) (fun _ a => a.pick [] rfl) c_h (fun x2 h1 c_h1 => ?_)
  refine fro_let (fun x3 => ?_)
  refine fro_ck ?_
  refine fro_if ?_ ?_
  ·
    refine fro_ck ?_
    exact fro_some c_h1
  ·
    refine fro_bnd (frX12_isLate x3 h1) (fun _ a => a.pick [] rfl) c_h1 (fun x5 h4 c_h4 => ?_)
    refine fro_if ?_ ?_
    ·
      refine frX12_sets_l38 x3 _ _ (fun h8 c_h8 => ?_) FU 0 h4 c_h4
      refine fro_ck ?_
      refine fro_ck ?_
      refine fro_h (fr_wa 0 rfl) c_h8 (fun h9 c_h9 => ?_)
      refine fro_h (fr_wr 7 rfl) c_h9 (fun h10 c_h10 => ?_)
      refine fro_ck ?_
      refine fro_h (fr_wr 8 rfl) c_h10 (fun h11 c_h11 => ?_)
      refine fro_ck ?_
      exact fro_some c_h11
    ·
      refine fro_ck ?_
      exact fro_some c_h4
def wX12_does : List FE := [(63, some 0, none), (10, some 0, some 31), (10, some 0, some 30), (10, some 0, some 35), (10, some 0, some 36), (10, some 0, some 37), (57, some 0, none), (10, some 0, some 32), (56, some 0, none), (10, some 0, some 33), (10, some 0, some 34), (10, some 0, some 29), (54, some 0, none)]
set_option maxHeartbeats 4000000 in
theorem frX12_does (l1 : Int32) (l2 : Int32) (h : Hp) : FrO wX12_does h (fX12_does l1 l2 h) := by
  have c_h : Fr wX12_does h h := Fr.rf
  unfold fX12_does
  refine fro_if ?_ ?_
  ·
    refine fro_bnd (frX12_isLate 1 h) (fun _ a => a.pick [] rfl) c_h (fun x2 h1 c_h1 => ?_)
    refine fro_if ?_ ?_
    ·
      refine fro_bnd (frX12_beat (-1) h1) (fun _ a => a.pick [0, 1, 2, 3, 4, 5, 6] rfl) c_h1 (fun _ h3 c_h3 => ?_)
      refine fro_ck ?_
      exact fro_some c_h3
    ·
      refine fro_ck ?_
      exact fro_some c_h1
  ·
    refine fro_bnd (frX12_isPlate l2 h) (fun _ a => a.pick [] rfl) c_h (fun x5 h4 c_h4 => ?_)
    refine fro_if ?_ ?_
    ·
      refine fro_ck ?_
      exact fro_some c_h4
    ·
      refine fro_if ?_ ?_
      ·
        refine fro_bnd (frX12_run l2 h4) (fun _ a => a.pick [0, 1, 2, 3, 4, 5, 6, 7, 8, 9, 10, 11] rfl) c_h4 (fun x8 h7 c_h7 => ?_)
        refine fro_ck ?_
        exact fro_some c_h7
      refine fro_if ?_ ?_
      ·
        refine fro_bnd (frX12_sets l2 h4) (fun _ a => a.pick [0, 1, 2, 3, 4, 5, 6, 10, 11] rfl) c_h4 (fun x11 h10 c_h10 => ?_)
        refine fro_ck ?_
        exact fro_some c_h10
      refine fro_if ?_ ?_
      ·
        refine fro_ck ?_
        refine fro_if ?_ ?_
        ·
          refine fro_ck ?_
          exact fro_some c_h4
        ·
          refine fro_bnd (frX12_lose l2 h4) (fun _ a => a.pick [0, 1] rfl) c_h4 (fun _ h13 c_h13 => ?_)
          refine fro_ck ?_
          exact fro_some c_h13
      refine fro_ck ?_
      refine fro_if ?_ ?_
      ·
        refine fro_ck ?_
        exact fro_some c_h4
      ·
        refine fro_ck ?_
        refine fro_ck ?_
        refine fro_h (fr_wa 12 rfl) c_h4 (fun h14 c_h14 => ?_)
        refine fro_ck ?_
        exact fro_some c_h14
def wX12_doesDeed : List FE := [(63, some 0, none), (10, some 0, some 31), (10, some 0, some 30), (10, some 0, some 35), (10, some 0, some 36), (10, some 0, some 37), (57, some 0, none), (10, some 0, some 32), (56, some 0, none), (10, some 0, some 33), (10, some 0, some 34), (10, some 0, some 29), (54, some 0, none)]
set_option maxHeartbeats 4000000 in
theorem frX12_doesDeed (l1 : Int32) (h : Hp) : FrO wX12_doesDeed h (fX12_doesDeed l1 h) := by
  have c_h : Fr wX12_doesDeed h h := Fr.rf
  unfold fX12_doesDeed
  refine fro_bnd (frX12_deedOf l1 0 h) (fun _ a => a.pick [] rfl) c_h (fun x2 h1 c_h1 => ?_)
  refine fro_bnd (frX12_deedOf l1 1 h1) (fun _ a => a.pick [] rfl) c_h1 (fun x4 h3 c_h3 => ?_)
  refine fro_bnd (frX12_does x2 x4 h3) (fun _ a => a.pick [0, 1, 2, 3, 4, 5, 6, 7, 8, 9, 10, 11, 12] rfl) c_h3 (fun x6 h5 c_h5 => ?_)
  refine fro_ck ?_
  exact fro_some c_h5
def wX12_of : List FE := []
set_option maxHeartbeats 4000000 in
theorem frX12_of (l1 : Int32) (h : Hp) : FrO wX12_of h (fX12_of l1 h) := by
  have c_h : Fr wX12_of h h := Fr.rf
  unfold fX12_of
  refine fro_ck ?_
  exact fro_some c_h
def wX12_asTold : List FE := [(10, some 0, some 23), (10, some 0, some 24), (10, some 0, some 22), (10, some 0, some 25), (53, some 0, none), (54, some 0, none), (55, some 0, none)]
set_option maxHeartbeats 4000000 in
theorem frX12_asTold_l41 (K : Hp → Option (Unit × Hp)) (h0 : Hp) (hK : ∀ (h : Hp), Fr wX12_asTold h0 h → FrO wX12_asTold h0 (K  h)) : ∀ (n : Nat) (l1 : Int32) (h : Hp), Fr wX12_asTold h0 h → FrO wX12_asTold h0 (itr1 (fX12_asTold_l41 K) n l1 h) := by
  refine fro_itr1 ?_
  intro rec hrec l1 h c_h
  unfold fX12_asTold_l41
  refine fro_if ?_ ?_
  ·
    exact hK h c_h
  ·
    refine fro_bnd (frX12_of ((3 : Int32) + l1) h) (fun _ a => a.pick [] rfl) c_h (fun x12 h11 c_h11 => ?_)
    refine fro_ck ?_
    refine fro_h (fr_wa 4 rfl) c_h11 (fun h13 c_h13 => ?_)
    refine fro_bnd (frX12_of ((8 : Int32) + l1) h13) (fun _ a => a.pick [] rfl) c_h13 (fun x15 h14 c_h14 => ?_)
    refine fro_ck ?_
    refine fro_h (fr_wa 5 rfl) c_h14 (fun h16 c_h16 => ?_)
    refine fro_bnd (frX12_of ((13 : Int32) + l1) h16) (fun _ a => a.pick [] rfl) c_h16 (fun x18 h17 c_h17 => ?_)
    refine fro_ck ?_
    refine fro_h (fr_wa 6 rfl) c_h17 (fun h19 c_h19 => ?_)
    refine fro_let (fun x20 => ?_)
    exact hrec x20 h19 c_h19
set_option maxHeartbeats 4000000 in
theorem frX12_asTold (h : Hp) : FrO wX12_asTold h (fX12_asTold h) := by
  have c_h : Fr wX12_asTold h h := Fr.rf
  unfold fX12_asTold
  refine fro_bnd (frX12_of 0 h) (fun _ a => a.pick [] rfl) c_h (fun x2 h1 c_h1 => ?_)
  refine fro_h (fr_wr 0 rfl) c_h1 (fun h3 c_h3 => ?_)
  refine fro_bnd (frX12_of 1 h3) (fun _ a => a.pick [] rfl) c_h3 (fun x5 h4 c_h4 => ?_)
  refine fro_h (fr_wr 1 rfl) c_h4 (fun h6 c_h6 => ?_)
  refine fro_bnd (frX12_of 2 h6) (fun _ a => a.pick [] rfl) c_h6 (fun x8 h7 c_h7 => ?_)
  refine fro_h (fr_wr 2 rfl) c_h7 (fun h9 c_h9 => ?_)
  refine fro_h (fr_wr 3 rfl) c_h9 (fun h10 c_h10 => ?_)
  refine frX12_asTold_l41 _ _ (fun h21 c_h21 => ?_) FU 0 h10 c_h10
  exact fro_some c_h21
def wX12_beginShow : List FE := [(10, some 0, some 23), (10, some 0, some 24), (10, some 0, some 22), (10, some 0, some 25), (53, some 0, none), (54, some 0, none), (55, some 0, none), (10, some 0, some 29), (10, some 0, some 30), (10, some 0, some 31), (10, some 0, some 32), (10, some 0, some 33), (10, some 0, some 34), (10, some 0, some 35), (10, some 0, some 36), (10, some 0, some 37), (63, some 0, none), (56, some 0, none), (57, some 0, none)]
set_option maxHeartbeats 4000000 in
theorem frX12_beginShow_l54 (K : Hp → Option (Unit × Hp)) (h0 : Hp) (hK : ∀ (h : Hp), Fr wX12_beginShow h0 h → FrO wX12_beginShow h0 (K  h)) : ∀ (n : Nat) (l1 : Int32) (h : Hp), Fr wX12_beginShow h0 h → FrO wX12_beginShow h0 (itr1 (fX12_beginShow_l54 K) n l1 h) := by
  refine fro_itr1 ?_
  intro rec hrec l1 h c_h
  unfold fX12_beginShow_l54
  refine fro_if ?_ ?_
  ·
    exact hK h c_h
  ·
    refine fro_ck ?_
    refine fro_ck ?_
    refine fro_h (fr_wa 16 rfl) c_h (fun h11 c_h11 => ?_)
    refine fro_ck ?_
    refine fro_h (fr_wa 17 rfl) c_h11 (fun h12 c_h12 => ?_)
    refine fro_let (fun x13 => ?_)
    exact hrec x13 h12 c_h12
set_option maxHeartbeats 4000000 in
theorem frX12_beginShow (h : Hp) : FrO wX12_beginShow h (fX12_beginShow h) := by
  have c_h : Fr wX12_beginShow h h := Fr.rf
  unfold fX12_beginShow
  refine fro_bnd (frX12_asTold h) (fun _ a => a.pick [0, 1, 2, 3, 4, 5, 6] rfl) c_h (fun _ h1 c_h1 => ?_)
  refine fro_h (fr_wr 7 rfl) c_h1 (fun h2 c_h2 => ?_)
  refine fro_h (fr_wr 8 rfl) c_h2 (fun h3 c_h3 => ?_)
  refine fro_h (fr_wr 9 rfl) c_h3 (fun h4 c_h4 => ?_)
  refine fro_h (fr_wr 10 rfl) c_h4 (fun h5 c_h5 => ?_)
  refine fro_h (fr_wr 11 rfl) c_h5 (fun h6 c_h6 => ?_)
  refine fro_h (fr_wr 12 rfl) c_h6 (fun h7 c_h7 => ?_)
  refine fro_h (fr_wr 13 rfl) c_h7 (fun h8 c_h8 => ?_)
  refine fro_h (fr_wr 14 rfl) c_h8 (fun h9 c_h9 => ?_)
  refine fro_h (fr_wr 15 rfl) c_h9 (fun h10 c_h10 => ?_)
  refine frX12_beginShow_l54 _ _ (fun h14 c_h14 => ?_) FU 0 h10 c_h10
  refine fro_bnd (frX12_standNow h14) (fun _ a => a.pick [] rfl) c_h14 (fun x16 h15 c_h15 => ?_)
  refine fro_ck ?_
  refine fro_h (fr_wa 18 rfl) c_h15 (fun h17 c_h17 => ?_)
  exact fro_some c_h17
def wX12_is : List FE := []
set_option maxHeartbeats 4000000 in
theorem frX12_is (l1 : Int32) (l2 : Int32) (h : Hp) : FrO wX12_is h (fX12_is l1 l2 h) := by
  have c_h : Fr wX12_is h h := Fr.rf
  unfold fX12_is
  refine fro_ck ?_
  refine fro_bnd (frX12_in l2 0 ((ra h 47 0 l1) - (1 : Int32)) h) (fun _ a => a.pick [] rfl) c_h (fun x2 h1 c_h1 => ?_)
  refine fro_ck ?_
  exact fro_some c_h1
def wX12_hand : List FE := [(10, some 0, some 21), (10, some 0, some 23), (10, some 0, some 24), (10, some 0, some 22), (10, some 0, some 25), (53, some 0, none), (54, some 0, none), (55, some 0, none)]
set_option maxHeartbeats 4000000 in
theorem frX12_hand (l1 : Int32) (h : Hp) : FrO wX12_hand h (fX12_hand l1 h) := by
  have c_h : Fr wX12_hand h h := Fr.rf
  unfold fX12_hand
  refine fro_bnd (frX12_is 0 l1 h) (fun _ a => a.pick [] rfl) c_h (fun x2 h1 c_h1 => ?_)
  refine fro_if ?_ ?_
  ·
    refine fro_ck ?_
    exact fro_some c_h1
  ·
    refine fro_h (fr_wr 0 rfl) c_h1 (fun h3 c_h3 => ?_)
    refine fro_bnd (frX12_asTold h3) (fun _ a => a.pick [1, 2, 3, 4, 5, 6, 7] rfl) c_h3 (fun _ h4 c_h4 => ?_)
    refine fro_ck ?_
    exact fro_some c_h4
def wX12_hasShow : List FE := [(10, some 0, some 40)]
set_option maxHeartbeats 4000000 in
theorem frX12_hasShow (l1 : Int32) (h : Hp) : FrO wX12_hasShow h (fX12_hasShow l1 h) := by
  have c_h : Fr wX12_hasShow h h := Fr.rf
  unfold fX12_hasShow
  refine fro_h (fr_wr 0 rfl) c_h (fun h1 c_h1 => ?_)
  refine fro_bnd (frX12_is 1 l1 h1) (fun _ a => a.pick [] rfl) c_h1 (fun x3 h2 c_h2 => ?_)
  refine fro_ck ?_
  exact fro_some c_h2
def wX12_layAll : List FE := [(10, some 0, some 40), (10, some 0, some 21), (10, some 0, some 23), (10, some 0, some 24), (10, some 0, some 22), (10, some 0, some 25), (53, some 0, none), (54, some 0, none), (55, some 0, none), (10, some 0, some 29), (10, some 0, some 30), (10, some 0, some 31), (10, some 0, some 32), (10, some 0, some 33), (10, some 0, some 34), (10, some 0, some 35), (10, some 0, some 36), (10, some 0, some 37), (63, some 0, none), (56, some 0, none), (57, some 0, none)]
set_option maxHeartbeats 4000000 in
theorem frX12_layAll (l1 : Int32) (l2 : Int32) (h : Hp) : FrO wX12_layAll h (fX12_layAll l1 l2 h) := by
  have c_h : Fr wX12_layAll h h := Fr.rf
  unfold fX12_layAll
  refine fro_bnd (frX12_hasShow l2 h) (fun _ a => a.pick [0] rfl) c_h (fun x2 h1 c_h1 => ?_)
  refine fro_if ?_ ?_
  ·
    refine fro_ck ?_
    exact fro_some c_h1
  ·
    refine fro_bnd (frX12_hand l1 h1) (fun _ a => a.pick [1, 2, 3, 4, 5, 6, 7, 8] rfl) c_h1 (fun x4 h3 c_h3 => ?_)
    refine fro_if ?_ ?_
    ·
      refine fro_ck ?_
      exact fro_some c_h3
    ·
      refine fro_bnd (frX12_beginShow h3) (fun _ a => a.pick [2, 3, 4, 5, 6, 7, 8, 9, 10, 11, 12, 13, 14, 15, 16, 17, 18, 19, 20] rfl) c_h3 (fun _ h5 c_h5 => ?_)
      refine fro_ck ?_
      exact fro_some c_h5
def wX12_after : List FE := [(10, some 0, some 0), (10, some 0, some 40), (10, some 0, some 21), (10, some 0, some 23), (10, some 0, some 24), (10, some 0, some 22), (10, some 0, some 25), (53, some 0, none), (54, some 0, none), (55, some 0, none), (10, some 0, some 29), (10, some 0, some 30), (10, some 0, some 31), (10, some 0, some 32), (10, some 0, some 33), (10, some 0, some 34), (10, some 0, some 35), (10, some 0, some 36), (10, some 0, some 37), (63, some 0, none), (56, some 0, none), (57, some 0, none)]
set_option maxHeartbeats 4000000 in
theorem frX12_after_l35 (K : Int32 → Hp → Option (Int32 × Hp)) (h0 : Hp) (hK : ∀ (y4 : Int32) (h : Hp), Fr wX12_after h0 h → FrO wX12_after h0 (K y4 h)) : ∀ (n : Nat) (l4 l5 l6 : Int32) (h : Hp), Fr wX12_after h0 h → FrO wX12_after h0 (itr3 (fX12_after_l35 K) n l4 l5 l6 h) := by
  refine fro_itr3 ?_
  intro rec hrec l4 l5 l6 h c_h
  unfold fX12_after_l35
  refine fro_if ?_ ?_
  ·
    exact hK l4 h c_h
  ·
    refine fro_bnd (frX12_deeds h) (fun _ a => a.pick [] rfl) c_h (fun x7 h6 c_h6 => ?_)
    refine fro_if ?_ ?_
    ·
      exact hK l4 h6 c_h6
    ·
      refine fro_bnd (frX12_doesDeed l6 h6) (fun _ a => a.pick [19, 12, 11, 16, 17, 18, 21, 13, 20, 14, 15, 10, 8] rfl) c_h6 (fun x9 h8 c_h8 => ?_)
      refine fro_jn (fun (k77_9 : Int32 → Hp → Option (Int32 × Hp)) => ∀ (z0_9 : Int32) (h11 : Hp), Fr wX12_after h0 h11 → FrO wX12_after h0 (k77_9 z0_9 h11)) (fun z0_9 h11 c_h11 => ?_) (fun k77_9 Hk77_9 => ?_)
      ·
        refine fro_let (fun x12 => ?_)
        exact hrec z0_9 x9 x12 h11 c_h11
      refine fro_jn (fun (k75_12 : Hp → Option (Int32 × Hp)) => ∀ (h14 : Hp), Fr wX12_after h0 h14 → FrO wX12_after h0 (k75_12 h14)) (fun h14 c_h14 => ?_) (fun k75_12 Hk75_12 => ?_)
      ·
        exact Hk77_9 l4 h14 c_h14
      refine fro_if ?_ ?_
      ·
        refine fro_if ?_ ?_
        ·
          exact Hk75_12 h8 c_h8
        ·
          exact Hk77_9 l6 h8 c_h8
      ·
        exact Hk75_12 h8 c_h8
set_option maxHeartbeats 4000000 in
theorem frX12_after_l91 (K : Int32 → Hp → Option (Int32 × Hp)) (h0 : Hp) (hK : ∀ (y6 : Int32) (h : Hp), Fr wX12_after h0 h → FrO wX12_after h0 (K y6 h)) : ∀ (n : Nat) (l6 l7 : Int32) (h : Hp), Fr wX12_after h0 h → FrO wX12_after h0 (itr2 (fX12_after_l91 K) n l6 l7 h) := by
  refine fro_itr2 ?_
  intro rec hrec l6 l7 h c_h
  unfold fX12_after_l91
  refine fro_if ?_ ?_
  ·
    exact hK l6 h c_h
  ·
    refine fro_ck ?_
    refine fro_jn (fun (k124_16 : Int32 → Hp → Option (Int32 × Hp)) => ∀ (z0_16 : Int32) (h18 : Hp), Fr wX12_after h0 h18 → FrO wX12_after h0 (k124_16 z0_16 h18)) (fun z0_16 h18 c_h18 => ?_) (fun k124_16 Hk124_16 => ?_)
    ·
      refine fro_jn (fun (k134_18 : Int32 → Hp → Option (Int32 × Hp)) => ∀ (z0_18 : Int32) (h20 : Hp), Fr wX12_after h0 h20 → FrO wX12_after h0 (k134_18 z0_18 h20)) (fun z0_18 h20 c_h20 => ?_) (fun k134_18 Hk134_18 => ?_)
      ·
        refine fro_let (fun x21 => ?_)
        exact hrec z0_18 x21 h20 c_h20
      refine fro_if ?_ ?_
      ·
        exact Hk134_18 l6 h18 c_h18
      ·
        exact Hk134_18 l7 h18 c_h18
    refine fro_if ?_ ?_
    ·
      exact Hk124_16 0 h c_h
    ·
      refine fro_ck ?_
      exact Hk124_16 (ra h 56 0 l6) h c_h
set_option maxHeartbeats 4000000 in
theorem frX12_after (l1 : Int32) (l2 : Int32) (l3 : Int32) (h : Hp) : FrO wX12_after h (fX12_after l1 l2 l3 h) := by
  have c_h : Fr wX12_after h h := Fr.rf
  unfold fX12_after
  refine fro_h (fr_wr 0 rfl) c_h (fun h1 c_h1 => ?_)
  refine fro_bnd (frX12_layAll l1 l2 h1) (fun _ a => a.pick [1, 2, 3, 4, 5, 6, 7, 8, 9, 10, 11, 12, 13, 14, 15, 16, 17, 18, 19, 20, 21] rfl) c_h1 (fun x3 h2 c_h2 => ?_)
  refine fro_if ?_ ?_
  ·
    exact fro_some c_h2
  ·
    refine fro_bnd (frX12_in l3 0 5 h2) (fun _ a => a.pick [] rfl) c_h2 (fun x5 h4 c_h4 => ?_)
    refine fro_if ?_ ?_
    ·
      exact fro_some c_h4
    ·
      refine frX12_after_l35 _ _ (fun y15 h16 c_h16 => ?_) FU (-1) 1 0 h4 c_h4
      refine frX12_after_l91 _ _ (fun y22 h23 c_h23 => ?_) FU (-1) 0 h16 c_h16
      refine fro_if ?_ ?_
      ·
        exact fro_some c_h23
      refine fro_if ?_ ?_
      ·
        exact fro_some c_h23
      refine fro_if ?_ ?_
      ·
        exact fro_some c_h23
      refine fro_if ?_ ?_
      ·
        exact fro_some c_h23
      refine fro_if ?_ ?_
      ·
        exact fro_some c_h23
      exact fro_some c_h23
def wX12_copyRow_44 : List FE := [(44, some 0, none)]
set_option maxHeartbeats 4000000 in
theorem frX12_copyRow_44_l3 (l1 : Int32) (l2 : Int32) (l3 : Int32) (K : Hp → Option (Unit × Hp)) (h0 : Hp) (hK : ∀ (h : Hp), Fr wX12_copyRow_44 h0 h → FrO wX12_copyRow_44 h0 (K  h)) : ∀ (n : Nat) (l4 : Int32) (h : Hp), Fr wX12_copyRow_44 h0 h → FrO wX12_copyRow_44 h0 (itr1 (fX12_copyRow_44_l3 l1 l2 l3 K) n l4 h) := by
  refine fro_itr1 ?_
  intro rec hrec l4 h c_h
  unfold fX12_copyRow_44_l3
  refine fro_if ?_ ?_
  ·
    exact hK h c_h
  ·
    refine fro_ck ?_
    refine fro_ck ?_
    refine fro_h (fr_wa 0 rfl) c_h (fun h1 c_h1 => ?_)
    refine fro_let (fun x2 => ?_)
    exact hrec x2 h1 c_h1
set_option maxHeartbeats 4000000 in
theorem frX12_copyRow_44 (l1 : Int32) (l2 : Int32) (l3 : Int32) (h : Hp) : FrO wX12_copyRow_44 h (fX12_copyRow_44 l1 l2 l3 h) := by
  have c_h : Fr wX12_copyRow_44 h h := Fr.rf
  unfold fX12_copyRow_44
  refine frX12_copyRow_44_l3 l1 l2 l3 _ _ (fun h3 c_h3 => ?_) FU 0 h c_h
  exact fro_some c_h3
def wX12_copyRow_45 : List FE := [(45, some 0, none)]
set_option maxHeartbeats 4000000 in
theorem frX12_copyRow_45_l3 (l1 : Int32) (l2 : Int32) (l3 : Int32) (K : Hp → Option (Unit × Hp)) (h0 : Hp) (hK : ∀ (h : Hp), Fr wX12_copyRow_45 h0 h → FrO wX12_copyRow_45 h0 (K  h)) : ∀ (n : Nat) (l4 : Int32) (h : Hp), Fr wX12_copyRow_45 h0 h → FrO wX12_copyRow_45 h0 (itr1 (fX12_copyRow_45_l3 l1 l2 l3 K) n l4 h) := by
  refine fro_itr1 ?_
  intro rec hrec l4 h c_h
  unfold fX12_copyRow_45_l3
  refine fro_if ?_ ?_
  ·
    exact hK h c_h
  ·
    refine fro_ck ?_
    refine fro_ck ?_
    refine fro_h (fr_wa 0 rfl) c_h (fun h1 c_h1 => ?_)
    refine fro_let (fun x2 => ?_)
    exact hrec x2 h1 c_h1
set_option maxHeartbeats 4000000 in
theorem frX12_copyRow_45 (l1 : Int32) (l2 : Int32) (l3 : Int32) (h : Hp) : FrO wX12_copyRow_45 h (fX12_copyRow_45 l1 l2 l3 h) := by
  have c_h : Fr wX12_copyRow_45 h h := Fr.rf
  unfold fX12_copyRow_45
  refine frX12_copyRow_45_l3 l1 l2 l3 _ _ (fun h3 c_h3 => ?_) FU 0 h c_h
  exact fro_some c_h3
def wX12_copyRow_46 : List FE := [(46, some 0, none)]
set_option maxHeartbeats 4000000 in
theorem frX12_copyRow_46_l3 (l1 : Int32) (l2 : Int32) (l3 : Int32) (K : Hp → Option (Unit × Hp)) (h0 : Hp) (hK : ∀ (h : Hp), Fr wX12_copyRow_46 h0 h → FrO wX12_copyRow_46 h0 (K  h)) : ∀ (n : Nat) (l4 : Int32) (h : Hp), Fr wX12_copyRow_46 h0 h → FrO wX12_copyRow_46 h0 (itr1 (fX12_copyRow_46_l3 l1 l2 l3 K) n l4 h) := by
  refine fro_itr1 ?_
  intro rec hrec l4 h c_h
  unfold fX12_copyRow_46_l3
  refine fro_if ?_ ?_
  ·
    exact hK h c_h
  ·
    refine fro_ck ?_
    refine fro_ck ?_
    refine fro_h (fr_wa 0 rfl) c_h (fun h1 c_h1 => ?_)
    refine fro_let (fun x2 => ?_)
    exact hrec x2 h1 c_h1
set_option maxHeartbeats 4000000 in
theorem frX12_copyRow_46 (l1 : Int32) (l2 : Int32) (l3 : Int32) (h : Hp) : FrO wX12_copyRow_46 h (fX12_copyRow_46 l1 l2 l3 h) := by
  have c_h : Fr wX12_copyRow_46 h h := Fr.rf
  unfold fX12_copyRow_46
  refine frX12_copyRow_46_l3 l1 l2 l3 _ _ (fun h3 c_h3 => ?_) FU 0 h c_h
  exact fro_some c_h3
def wX12_copyRow_47 : List FE := [(47, some 0, none)]
set_option maxHeartbeats 4000000 in
theorem frX12_copyRow_47_l3 (l1 : Int32) (l2 : Int32) (l3 : Int32) (K : Hp → Option (Unit × Hp)) (h0 : Hp) (hK : ∀ (h : Hp), Fr wX12_copyRow_47 h0 h → FrO wX12_copyRow_47 h0 (K  h)) : ∀ (n : Nat) (l4 : Int32) (h : Hp), Fr wX12_copyRow_47 h0 h → FrO wX12_copyRow_47 h0 (itr1 (fX12_copyRow_47_l3 l1 l2 l3 K) n l4 h) := by
  refine fro_itr1 ?_
  intro rec hrec l4 h c_h
  unfold fX12_copyRow_47_l3
  refine fro_if ?_ ?_
  ·
    exact hK h c_h
  ·
    refine fro_ck ?_
    refine fro_ck ?_
    refine fro_h (fr_wa 0 rfl) c_h (fun h1 c_h1 => ?_)
    refine fro_let (fun x2 => ?_)
    exact hrec x2 h1 c_h1
set_option maxHeartbeats 4000000 in
theorem frX12_copyRow_47 (l1 : Int32) (l2 : Int32) (l3 : Int32) (h : Hp) : FrO wX12_copyRow_47 h (fX12_copyRow_47 l1 l2 l3 h) := by
  have c_h : Fr wX12_copyRow_47 h h := Fr.rf
  unfold fX12_copyRow_47
  refine frX12_copyRow_47_l3 l1 l2 l3 _ _ (fun h3 c_h3 => ?_) FU 0 h c_h
  exact fro_some c_h3
def wX12_copyRow_48 : List FE := [(48, some 0, none)]
set_option maxHeartbeats 4000000 in
theorem frX12_copyRow_48_l3 (l1 : Int32) (l2 : Int32) (l3 : Int32) (K : Hp → Option (Unit × Hp)) (h0 : Hp) (hK : ∀ (h : Hp), Fr wX12_copyRow_48 h0 h → FrO wX12_copyRow_48 h0 (K  h)) : ∀ (n : Nat) (l4 : Int32) (h : Hp), Fr wX12_copyRow_48 h0 h → FrO wX12_copyRow_48 h0 (itr1 (fX12_copyRow_48_l3 l1 l2 l3 K) n l4 h) := by
  refine fro_itr1 ?_
  intro rec hrec l4 h c_h
  unfold fX12_copyRow_48_l3
  refine fro_if ?_ ?_
  ·
    exact hK h c_h
  ·
    refine fro_ck ?_
    refine fro_ck ?_
    refine fro_h (fr_wa 0 rfl) c_h (fun h1 c_h1 => ?_)
    refine fro_let (fun x2 => ?_)
    exact hrec x2 h1 c_h1
set_option maxHeartbeats 4000000 in
theorem frX12_copyRow_48 (l1 : Int32) (l2 : Int32) (l3 : Int32) (h : Hp) : FrO wX12_copyRow_48 h (fX12_copyRow_48 l1 l2 l3 h) := by
  have c_h : Fr wX12_copyRow_48 h h := Fr.rf
  unfold fX12_copyRow_48
  refine frX12_copyRow_48_l3 l1 l2 l3 _ _ (fun h3 c_h3 => ?_) FU 0 h c_h
  exact fro_some c_h3
def wX12_copyRow_49 : List FE := [(49, some 0, none)]
set_option maxHeartbeats 4000000 in
theorem frX12_copyRow_49_l3 (l1 : Int32) (l2 : Int32) (l3 : Int32) (K : Hp → Option (Unit × Hp)) (h0 : Hp) (hK : ∀ (h : Hp), Fr wX12_copyRow_49 h0 h → FrO wX12_copyRow_49 h0 (K  h)) : ∀ (n : Nat) (l4 : Int32) (h : Hp), Fr wX12_copyRow_49 h0 h → FrO wX12_copyRow_49 h0 (itr1 (fX12_copyRow_49_l3 l1 l2 l3 K) n l4 h) := by
  refine fro_itr1 ?_
  intro rec hrec l4 h c_h
  unfold fX12_copyRow_49_l3
  refine fro_if ?_ ?_
  ·
    exact hK h c_h
  ·
    refine fro_ck ?_
    refine fro_ck ?_
    refine fro_h (fr_wa 0 rfl) c_h (fun h1 c_h1 => ?_)
    refine fro_let (fun x2 => ?_)
    exact hrec x2 h1 c_h1
set_option maxHeartbeats 4000000 in
theorem frX12_copyRow_49 (l1 : Int32) (l2 : Int32) (l3 : Int32) (h : Hp) : FrO wX12_copyRow_49 h (fX12_copyRow_49 l1 l2 l3 h) := by
  have c_h : Fr wX12_copyRow_49 h h := Fr.rf
  unfold fX12_copyRow_49
  refine frX12_copyRow_49_l3 l1 l2 l3 _ _ (fun h3 c_h3 => ?_) FU 0 h c_h
  exact fro_some c_h3
def wX12_copyRow_50 : List FE := [(50, some 0, none)]
set_option maxHeartbeats 4000000 in
theorem frX12_copyRow_50_l3 (l1 : Int32) (l2 : Int32) (l3 : Int32) (K : Hp → Option (Unit × Hp)) (h0 : Hp) (hK : ∀ (h : Hp), Fr wX12_copyRow_50 h0 h → FrO wX12_copyRow_50 h0 (K  h)) : ∀ (n : Nat) (l4 : Int32) (h : Hp), Fr wX12_copyRow_50 h0 h → FrO wX12_copyRow_50 h0 (itr1 (fX12_copyRow_50_l3 l1 l2 l3 K) n l4 h) := by
  refine fro_itr1 ?_
  intro rec hrec l4 h c_h
  unfold fX12_copyRow_50_l3
  refine fro_if ?_ ?_
  ·
    exact hK h c_h
  ·
    refine fro_ck ?_
    refine fro_ck ?_
    refine fro_h (fr_wa 0 rfl) c_h (fun h1 c_h1 => ?_)
    refine fro_let (fun x2 => ?_)
    exact hrec x2 h1 c_h1
set_option maxHeartbeats 4000000 in
theorem frX12_copyRow_50 (l1 : Int32) (l2 : Int32) (l3 : Int32) (h : Hp) : FrO wX12_copyRow_50 h (fX12_copyRow_50 l1 l2 l3 h) := by
  have c_h : Fr wX12_copyRow_50 h h := Fr.rf
  unfold fX12_copyRow_50
  refine frX12_copyRow_50_l3 l1 l2 l3 _ _ (fun h3 c_h3 => ?_) FU 0 h c_h
  exact fro_some c_h3
def wX12_copyAll : List FE := [(43, some 0, none), (44, some 0, none), (45, some 0, none), (46, some 0, none), (47, some 0, none), (48, some 0, none), (49, some 0, none), (50, some 0, none)]
set_option maxHeartbeats 4000000 in
theorem frX12_copyAll_l2 (l1 : Int32) (l2 : Int32) (K : Hp → Option (Unit × Hp)) (h0 : Hp) (hK : ∀ (h : Hp), Fr wX12_copyAll h0 h → FrO wX12_copyAll h0 (K  h)) : ∀ (n : Nat) (l3 : Int32) (h : Hp), Fr wX12_copyAll h0 h → FrO wX12_copyAll h0 (itr1 (fX12_copyAll_l2 l1 l2 K) n l3 h) := by
  refine fro_itr1 ?_
  intro rec hrec l3 h c_h
  unfold fX12_copyAll_l2
  refine fro_if ?_ ?_
  ·
    exact hK h c_h
  ·
    refine fro_ck ?_
    refine fro_ck ?_
    refine fro_h (fr_wa 0 rfl) c_h (fun h1 c_h1 => ?_)
    refine fro_let (fun x2 => ?_)
    exact hrec x2 h1 c_h1
set_option maxHeartbeats 4000000 in
theorem frX12_copyAll (l1 : Int32) (l2 : Int32) (h : Hp) : FrO wX12_copyAll h (fX12_copyAll l1 l2 h) := by
  have c_h : Fr wX12_copyAll h h := Fr.rf
  unfold fX12_copyAll
  refine frX12_copyAll_l2 l1 l2 _ _ (fun h3 c_h3 => ?_) FU 0 h c_h
  refine fro_bnd (frX12_copyRow_44 1 l1 l2 h3) (fun _ a => a.pick [1] rfl) c_h3 (fun _ h4 c_h4 => ?_)
  refine fro_bnd (frX12_copyRow_45 1 l1 l2 h4) (fun _ a => a.pick [2] rfl) c_h4 (fun _ h5 c_h5 => ?_)
  refine fro_bnd (frX12_copyRow_46 1 l1 l2 h5) (fun _ a => a.pick [3] rfl) c_h5 (fun _ h6 c_h6 => ?_)
  refine fro_bnd (frX12_copyRow_47 3 l1 l2 h6) (fun _ a => a.pick [4] rfl) c_h6 (fun _ h7 c_h7 => ?_)
  refine fro_bnd (frX12_copyRow_48 36 l1 l2 h7) (fun _ a => a.pick [5] rfl) c_h7 (fun _ h8 c_h8 => ?_)
  refine fro_bnd (frX12_copyRow_49 162 l1 l2 h8) (fun _ a => a.pick [6] rfl) c_h8 (fun _ h9 c_h9 => ?_)
  refine fro_bnd (frX12_copyRow_50 52 l1 l2 h9) (fun _ a => a.pick [7] rfl) c_h9 (fun _ h10 c_h10 => ?_)
  exact fro_some c_h10
def wX12_again : List FE := [(10, some 0, some 0), (43, some 0, none), (44, some 0, none), (45, some 0, none), (46, some 0, none), (47, some 0, none), (48, some 0, none), (49, some 0, none), (50, some 0, none)]
set_option maxHeartbeats 4000000 in
theorem frX12_again (l1 : Int32) (h : Hp) : FrO wX12_again h (fX12_again l1 h) := by
  have c_h : Fr wX12_again h h := Fr.rf
  unfold fX12_again
  refine fro_h (fr_wr 0 rfl) c_h (fun h1 c_h1 => ?_)
  refine fro_bnd (frX12_in l1 0 2 h1) (fun _ a => a.pick [] rfl) c_h1 (fun x3 h2 c_h2 => ?_)
  refine fro_if ?_ ?_
  ·
    refine fro_ck ?_
    exact fro_some c_h2
  ·
    refine fro_ck ?_
    refine fro_if ?_ ?_
    ·
      refine fro_ck ?_
      exact fro_some c_h2
    ·
      refine fro_bnd (frX12_copyAll (l1 + (1 : Int32)) 0 h2) (fun _ a => a.pick [1, 2, 3, 4, 5, 6, 7, 8] rfl) c_h2 (fun _ h4 c_h4 => ?_)
      refine fro_ck ?_
      exact fro_some c_h4
def wX12_fails : List FE := [(10, some 0, some 15)]
set_option maxHeartbeats 4000000 in
theorem frX12_fails (h : Hp) : FrO wX12_fails h (fX12_fails h) := by
  have c_h : Fr wX12_fails h h := Fr.rf
  unfold fX12_fails
  refine fro_h (fr_wr 0 rfl) c_h (fun h1 c_h1 => ?_)
  refine fro_ck ?_
  exact fro_some c_h1
def wX12_full : List FE := [(10, some 0, some 16), (10, some 0, some 17)]
set_option maxHeartbeats 4000000 in
theorem frX12_full (l1 : Int32) (l2 : Int32) (l3 : Int32) (h : Hp) : FrO wX12_full h (fX12_full l1 l2 l3 h) := by
  have c_h : Fr wX12_full h h := Fr.rf
  unfold fX12_full
  refine fro_ck ?_
  refine fro_if ?_ ?_
  ·
    refine fro_bnd (frX12_addsFault 3 l3 h) (fun _ a => a.pick [0, 1] rfl) c_h (fun _ h1 c_h1 => ?_)
    exact fro_some c_h1
  ·
    exact fro_some c_h
def wX12_lesser : List FE := []
set_option maxHeartbeats 4000000 in
theorem frX12_lesser (l0 : Int32) (l1 : Int32) (h : Hp) : FrO wX12_lesser h (fX12_lesser l0 l1 h) := by
  have c_h : Fr wX12_lesser h h := Fr.rf
  unfold fX12_lesser
  refine fro_if ?_ ?_
  ·
    exact fro_some c_h
  ·
    exact fro_some c_h
def wX12_see : List FE := []
set_option maxHeartbeats 4000000 in
theorem frX12_see (h : Hp) : FrO wX12_see h (fX12_see h) := by
  have c_h : Fr wX12_see h h := Fr.rf
  unfold fX12_see
  refine fro_if ?_ ?_
  ·
    exact fro_some c_h
  ·
    refine fro_ck ?_
    exact fro_some c_h
def wX12_token : List FE := [(10, some 0, some 9), (10, some 0, some 11), (10, some 0, some 12), (10, some 0, some 13)]
set_option maxHeartbeats 4000000 in
theorem frX12_token_l0 (K : Hp → Option (Unit × Hp)) (h0 : Hp) (hK : ∀ (h : Hp), Fr wX12_token h0 h → FrO wX12_token h0 (K  h)) : ∀ (n : Nat) (h : Hp), Fr wX12_token h0 h → FrO wX12_token h0 (itr0 (fX12_token_l0 K) n  h) := by
  refine fro_itr0 ?_
  intro rec hrec  h c_h
  unfold fX12_token_l0
  refine fro_bnd (frX12_see h) (fun _ a => a.pick [] rfl) c_h (fun x2 h1 c_h1 => ?_)
  refine fro_jn (fun (k18_2 : Hp → Option (Unit × Hp)) => ∀ (h4 : Hp), Fr wX12_token h0 h4 → FrO wX12_token h0 (k18_2 h4)) (fun h4 c_h4 => ?_) (fun k18_2 Hk18_2 => ?_)
  ·
    refine fro_h (fr_wr 0 rfl) c_h4 (fun h5 c_h5 => ?_)
    exact hrec h5 c_h5
  refine fro_if ?_ ?_
  ·
    exact Hk18_2 h1 c_h1
  ·
    refine fro_bnd (frX12_see h1) (fun _ a => a.pick [] rfl) c_h1 (fun x7 h6 c_h6 => ?_)
    refine fro_if ?_ ?_
    ·
      exact Hk18_2 h6 c_h6
    ·
      exact hK h6 c_h6
set_option maxHeartbeats 4000000 in
theorem frX12_token_l163 (K : Int32 → Hp → Option (Unit × Hp)) (h0 : Hp) (hK : ∀ (y2 : Int32) (h : Hp), Fr wX12_token h0 h → FrO wX12_token h0 (K y2 h)) : ∀ (n : Nat) (l2 : Int32) (h : Hp), Fr wX12_token h0 h → FrO wX12_token h0 (itr1 (fX12_token_l163 K) n l2 h) := by
  refine fro_itr1 ?_
  intro rec hrec l2 h c_h
  unfold fX12_token_l163
  refine fro_bnd (frX12_see h) (fun _ a => a.pick [] rfl) c_h (fun x23 h22 c_h22 => ?_)
  refine fro_bnd (frX12_in x23 48 57 h22) (fun _ a => a.pick [] rfl) c_h22 (fun x25 h24 c_h24 => ?_)
  refine fro_if ?_ ?_
  ·
    exact hK l2 h24 c_h24
  ·
    refine fro_jn (fun (k205_25 : Int32 → Hp → Option (Unit × Hp)) => ∀ (z0_25 : Int32) (h27 : Hp), Fr wX12_token h0 h27 → FrO wX12_token h0 (k205_25 z0_25 h27)) (fun z0_25 h27 c_h27 => ?_) (fun k205_25 Hk205_25 => ?_)
    ·
      refine fro_h (fr_wr 3 rfl) c_h27 (fun h28 c_h28 => ?_)
      refine fro_h (fr_wr 0 rfl) c_h28 (fun h29 c_h29 => ?_)
      refine fro_let (fun x30 => ?_)
      exact hrec x30 h29 c_h29
    refine fro_if ?_ ?_
    ·
      exact Hk205_25 (rd h24 10 0 13) h24 c_h24
    ·
      refine fro_bnd (frX12_see h24) (fun _ a => a.pick [] rfl) c_h24 (fun x32 h31 c_h31 => ?_)
      exact Hk205_25 ((((10 : Int32) * (rd h24 10 0 13)) + x32) - (48 : Int32)) h31 c_h31
set_option maxHeartbeats 4000000 in
theorem frX12_token_l74 (K : Int32 → Hp → Option (Unit × Hp)) (h0 : Hp) (hK : ∀ (y2 : Int32) (h : Hp), Fr wX12_token h0 h → FrO wX12_token h0 (K y2 h)) : ∀ (n : Nat) (l2 : Int32) (h : Hp), Fr wX12_token h0 h → FrO wX12_token h0 (itr1 (fX12_token_l74 K) n l2 h) := by
  refine fro_itr1 ?_
  intro rec hrec l2 h c_h
  unfold fX12_token_l74
  refine fro_bnd (frX12_see h) (fun _ a => a.pick [] rfl) c_h (fun x39 h38 c_h38 => ?_)
  refine fro_bnd (frX12_in x39 97 122 h38) (fun _ a => a.pick [] rfl) c_h38 (fun x41 h40 c_h40 => ?_)
  refine fro_if ?_ ?_
  ·
    exact hK l2 h40 c_h40
  ·
    refine fro_bnd (frX12_see h40) (fun _ a => a.pick [] rfl) c_h40 (fun x43 h42 c_h42 => ?_)
    refine fro_wl c_h42 (fun h44 c_h44 => ?_)
    refine fro_h (fr_wr 0 rfl) c_h44 (fun h45 c_h45 => ?_)
    refine fro_let (fun x46 => ?_)
    exact hrec x46 h45 c_h45
set_option maxHeartbeats 4000000 in
theorem frX12_token (h : Hp) : FrO wX12_token h (fX12_token h) := by
  have c_h : Fr wX12_token h h := Fr.rf
  unfold fX12_token
  refine frX12_token_l0 _ _ (fun h8 c_h8 => ?_) FU h c_h
  refine fro_h (fr_wr 1 rfl) c_h8 (fun h9 c_h9 => ?_)
  refine fro_bnd (frX12_see h9) (fun _ a => a.pick [] rfl) c_h9 (fun x11 h10 c_h10 => ?_)
  refine fro_wl c_h10 (fun h12 c_h12 => ?_)
  refine fro_if ?_ ?_
  ·
    refine fro_bnd (frX12_in x11 97 122 h12) (fun _ a => a.pick [] rfl) c_h12 (fun x14 h13 c_h13 => ?_)
    refine fro_if ?_ ?_
    ·
      refine fro_bnd (frX12_in x11 48 57 h13) (fun _ a => a.pick [] rfl) c_h13 (fun x16 h15 c_h15 => ?_)
      refine fro_if ?_ ?_
      ·
        refine fro_h (fr_wr 0 rfl) c_h15 (fun h17 c_h17 => ?_)
        refine fro_jn (fun (k263_17 : Int32 → Hp → Option (Unit × Hp)) => ∀ (z0_17 : Int32) (h19 : Hp), Fr wX12_token h h19 → FrO wX12_token h (k263_17 z0_17 h19)) (fun z0_17 h19 c_h19 => ?_) (fun k263_17 Hk263_17 => ?_)
        ·
          refine fro_h (fr_wr 2 rfl) c_h19 (fun h20 c_h20 => ?_)
          exact fro_some c_h20
        refine fro_if ?_ ?_
        ·
          exact Hk263_17 4 h17 c_h17
        ·
          exact Hk263_17 1 h17 c_h17
      ·
        refine fro_h (fr_wr 3 rfl) c_h15 (fun h21 c_h21 => ?_)
        refine frX12_token_l163 _ _ (fun y33 h34 c_h34 => ?_) FU 0 h21 c_h21
        refine fro_jn (fun (k235_34 : Int32 → Hp → Option (Unit × Hp)) => ∀ (z0_34 : Int32) (h36 : Hp), Fr wX12_token h h36 → FrO wX12_token h (k235_34 z0_34 h36)) (fun z0_34 h36 c_h36 => ?_) (fun k235_34 Hk235_34 => ?_)
        ·
          refine fro_h (fr_wr 2 rfl) c_h36 (fun h37 c_h37 => ?_)
          exact fro_some c_h37
        refine fro_if ?_ ?_
        ·
          exact Hk235_34 3 h34 c_h34
        ·
          exact Hk235_34 1 h34 c_h34
    ·
      refine frX12_token_l74 _ _ (fun y47 h48 c_h48 => ?_) FU 0 h13 c_h13
      refine fro_jn (fun (k136_48 : Int64 → Hp → Option (Unit × Hp)) => ∀ (z0_48 : Int64) (h50 : Hp), Fr wX12_token h h50 → FrO wX12_token h (k136_48 z0_48 h50)) (fun z0_48 h50 c_h50 => ?_) (fun k136_48 Hk136_48 => ?_)
      ·
        refine fro_wl c_h50 (fun h51 c_h51 => ?_)
        refine fro_h (fr_wr 2 rfl) c_h51 (fun h52 c_h52 => ?_)
        exact fro_some c_h52
      refine fro_if ?_ ?_
      ·
        exact Hk136_48 (h48.2) h48 c_h48
      ·
        exact Hk136_48 0 h48 c_h48
  ·
    refine fro_h (fr_wr 2 rfl) c_h12 (fun h53 c_h53 => ?_)
    exact fro_some c_h53
def wX12_take : List FE := [(52, some 0, none), (10, some 0, some 9), (10, some 0, some 11), (10, some 0, some 12), (10, some 0, some 13), (10, some 0, some 16), (10, some 0, some 17), (10, some 0, some 20), (10, some 0, some 15)]
set_option maxHeartbeats 4000000 in
theorem frX12_take (l1 : Int32) (l2 : Int32) (l3 : Int32) (h : Hp) : FrO wX12_take h (fX12_take l1 l2 l3 h) := by
  have c_h : Fr wX12_take h h := Fr.rf
  unfold fX12_take
  refine fro_if ?_ ?_
  ·
    refine fro_ck ?_
    refine fro_h (fr_wa 0 rfl) c_h (fun h1 c_h1 => ?_)
    refine fro_bnd (frX12_in (rd h1 10 0 13) l2 l3 h1) (fun _ a => a.pick [] rfl) c_h1 (fun x3 h2 c_h2 => ?_)
    refine fro_jn (fun (k49_3 : Hp → Option (Int32 × Hp)) => ∀ (h5 : Hp), Fr wX12_take h h5 → FrO wX12_take h (k49_3 h5)) (fun h5 c_h5 => ?_) (fun k49_3 Hk49_3 => ?_)
    ·
      refine fro_bnd (frX12_token h5) (fun _ a => a.pick [1, 2, 3, 4] rfl) c_h5 (fun _ h6 c_h6 => ?_)
      refine fro_ck ?_
      exact fro_some c_h6
    refine fro_if ?_ ?_
    ·
      refine fro_bnd (frX12_addsFault 2 (rd h2 10 0 11) h2) (fun _ a => a.pick [5, 6] rfl) c_h2 (fun _ h7 c_h7 => ?_)
      refine fro_ck ?_
      refine fro_h (fr_wr 7 rfl) c_h7 (fun h8 c_h8 => ?_)
      exact Hk49_3 h8 c_h8
    ·
      exact Hk49_3 h2 c_h2
  ·
    refine fro_bnd (frX12_fails h) (fun _ a => a.pick [8] rfl) c_h (fun x10 h9 c_h9 => ?_)
    refine fro_ck ?_
    exact fro_some c_h9
def wX12_logLine : List FE := [(10, some 0, some 9), (10, some 0, some 11), (10, some 0, some 12), (10, some 0, some 13), (52, some 0, none), (10, some 0, some 16), (10, some 0, some 17), (10, some 0, some 20), (10, some 0, some 15), (51, some 0, none)]
set_option maxHeartbeats 4000000 in
theorem frX12_logLine_l148 (l4 : Int32) (K : Hp → Option (Int32 × Hp)) (h0 : Hp) (hK : ∀ (h : Hp), Fr wX12_logLine h0 h → FrO wX12_logLine h0 (K  h)) : ∀ (n : Nat) (l5 : Int32) (h : Hp), Fr wX12_logLine h0 h → FrO wX12_logLine h0 (itr1 (fX12_logLine_l148 l4 K) n l5 h) := by
  refine fro_itr1 ?_
  intro rec hrec l5 h c_h
  unfold fX12_logLine_l148
  refine fro_if ?_ ?_
  ·
    exact hK h c_h
  ·
    refine fro_if ?_ ?_
    ·
      exact hK h c_h
    ·
      refine fro_ck ?_
      refine fro_ck ?_
      refine fro_h (fr_wa 9 rfl) c_h (fun h18 c_h18 => ?_)
      refine fro_let (fun x19 => ?_)
      exact hrec x19 h18 c_h18
set_option maxHeartbeats 4000000 in
theorem frX12_logLine (l1 : Int64) (l3 : Int32) (h : Hp) : FrO wX12_logLine h (fX12_logLine l1 l3 h) := by
  have c_h : Fr wX12_logLine h h := Fr.rf
  unfold fX12_logLine
  refine fro_jn (fun (k29_0 : Hp → Option (Int32 × Hp)) => ∀ (h2 : Hp), Fr wX12_logLine h h2 → FrO wX12_logLine h (k29_0 h2)) (fun h2 c_h2 => ?_) (fun k29_0 Hk29_0 => ?_)
  ·
    refine fro_if ?_ ?_
    ·
      refine fro_bnd (frX12_token h2) (fun _ a => a.pick [0, 1, 2, 3] rfl) c_h2 (fun _ h3 c_h3 => ?_)
      refine fro_bnd (frX12_take 0 0 4 h3) (fun _ a => a.pick [4, 0, 1, 2, 3, 5, 6, 7, 8] rfl) c_h3 (fun x5 h4 c_h4 => ?_)
      refine fro_if ?_ ?_
      ·
        refine fro_ck ?_
        exact fro_some c_h4
      ·
        refine fro_if ?_ ?_
        ·
          refine fro_ck ?_
          refine fro_ck ?_
          refine fro_h (fr_wa 9 rfl) c_h4 (fun h6 c_h6 => ?_)
          refine fro_ck ?_
          exact fro_some c_h6
        ·
          refine fro_ck ?_
          refine fro_ck ?_
          refine fro_h (fr_wa 9 rfl) c_h4 (fun h7 c_h7 => ?_)
          refine fro_ck ?_
          exact fro_some c_h7
    ·
      refine fro_bnd (frX12_full 1 8 l3 h2) (fun _ a => a.pick [5, 6] rfl) c_h2 (fun _ h8 c_h8 => ?_)
      refine fro_bnd (frX12_token h8) (fun _ a => a.pick [0, 1, 2, 3] rfl) c_h8 (fun _ h9 c_h9 => ?_)
      refine fro_bnd (frX12_take 1 0 4 h9) (fun _ a => a.pick [4, 0, 1, 2, 3, 5, 6, 7, 8] rfl) c_h9 (fun x11 h10 c_h10 => ?_)
      refine fro_if ?_ ?_
      ·
        refine fro_ck ?_
        exact fro_some c_h10
      ·
        refine fro_bnd (frX12_take 2 0 30 h10) (fun _ a => a.pick [4, 0, 1, 2, 3, 5, 6, 7, 8] rfl) c_h10 (fun x13 h12 c_h12 => ?_)
        refine fro_if ?_ ?_
        ·
          refine fro_ck ?_
          exact fro_some c_h12
        ·
          refine fro_ck ?_
          refine fro_let (fun x14 => ?_)
          refine fro_jn (fun (k144_14 : Int32 → Hp → Option (Int32 × Hp)) => ∀ (z0_14 : Int32) (h16 : Hp), Fr wX12_logLine h h16 → FrO wX12_logLine h (k144_14 z0_14 h16)) (fun z0_14 h16 c_h16 => ?_) (fun k144_14 Hk144_14 => ?_)
          ·
            refine fro_ck ?_
            refine fro_h (fr_wa 4 rfl) c_h16 (fun h17 c_h17 => ?_)
            refine frX12_logLine_l148 x14 _ _ (fun h20 c_h20 => ?_) FU 0 h17 c_h17
            refine fro_bnd (frX12_lesser 8 (x14 + (1 : Int32)) h20) (fun _ a => a.pick [] rfl) c_h20 (fun x22 h21 c_h21 => ?_)
            refine fro_ck ?_
            refine fro_h (fr_wa 9 rfl) c_h21 (fun h23 c_h23 => ?_)
            refine fro_ck ?_
            exact fro_some c_h23
          refine fro_if ?_ ?_
          ·
            exact Hk144_14 1 h12 c_h12
          ·
            exact Hk144_14 0 h12 c_h12
  refine fro_if ?_ ?_
  ·
    exact Hk29_0 h c_h
  ·
    refine fro_if ?_ ?_
    ·
      exact Hk29_0 h c_h
    ·
      refine fro_if ?_ ?_
      ·
        exact Hk29_0 h c_h
      ·
        refine fro_bnd (frX12_fails h) (fun _ a => a.pick [8] rfl) c_h (fun x25 h24 c_h24 => ?_)
        refine fro_ck ?_
        exact fro_some c_h24
def wX12_deedBy : List FE := []
set_option maxHeartbeats 4000000 in
theorem frX12_deedBy (l1 : Int64) (h : Hp) : FrO wX12_deedBy h (fX12_deedBy l1 h) := by
  have c_h : Fr wX12_deedBy h h := Fr.rf
  unfold fX12_deedBy
  refine fro_if ?_ ?_
  ·
    exact fro_some c_h
  ·
    refine fro_if ?_ ?_
    ·
      exact fro_some c_h
    ·
      refine fro_if ?_ ?_
      ·
        exact fro_some c_h
      ·
        refine fro_if ?_ ?_
        ·
          exact fro_some c_h
        ·
          refine fro_if ?_ ?_
          ·
            exact fro_some c_h
          ·
            exact fro_some c_h
def wX12_showLine : List FE := [(10, some 0, some 15), (10, some 0, some 16), (10, some 0, some 17), (10, some 0, some 9), (10, some 0, some 11), (10, some 0, some 12), (10, some 0, some 13), (52, some 0, none), (51, some 0, none), (10, some 0, some 20)]
set_option maxHeartbeats 4000000 in
theorem frX12_showLine (l1 : Int64) (l3 : Int32) (h : Hp) : FrO wX12_showLine h (fX12_showLine l1 l3 h) := by
  have c_h : Fr wX12_showLine h h := Fr.rf
  unfold fX12_showLine
  refine fro_bnd (frX12_deedBy l1 h) (fun _ a => a.pick [] rfl) c_h (fun x2 h1 c_h1 => ?_)
  refine fro_if ?_ ?_
  ·
    refine fro_bnd (frX12_fails h1) (fun _ a => a.pick [0] rfl) c_h1 (fun x4 h3 c_h3 => ?_)
    refine fro_ck ?_
    exact fro_some c_h3
  ·
    refine fro_bnd (frX12_full 0 40 l3 h1) (fun _ a => a.pick [1, 2] rfl) c_h1 (fun _ h5 c_h5 => ?_)
    refine fro_bnd (frX12_token h5) (fun _ a => a.pick [3, 4, 5, 6] rfl) c_h5 (fun _ h6 c_h6 => ?_)
    refine fro_ck ?_
    refine fro_h (fr_wa 7 rfl) c_h6 (fun h7 c_h7 => ?_)
    refine fro_jn (fun (k54_7 : Hp → Option (Int32 × Hp)) => ∀ (h9 : Hp), Fr wX12_showLine h h9 → FrO wX12_showLine h (k54_7 h9)) (fun h9 c_h9 => ?_) (fun k54_7 Hk54_7 => ?_)
    ·
      refine fro_ck ?_
      refine fro_let (fun x10 => ?_)
      refine fro_jn (fun (k99_10 : Hp → Option (Int32 × Hp)) => ∀ (h12 : Hp), Fr wX12_showLine h h12 → FrO wX12_showLine h (k99_10 h12)) (fun h12 c_h12 => ?_) (fun k99_10 Hk99_10 => ?_)
      ·
        refine fro_bnd (frX12_lesser 40 (x10 + (1 : Int32)) h12) (fun _ a => a.pick [] rfl) c_h12 (fun x14 h13 c_h13 => ?_)
        refine fro_ck ?_
        refine fro_h (fr_wa 8 rfl) c_h13 (fun h15 c_h15 => ?_)
        refine fro_ck ?_
        exact fro_some c_h15
      refine fro_if ?_ ?_
      ·
        exact Hk99_10 h9 c_h9
      ·
        refine fro_ck ?_
        refine fro_h (fr_wa 8 rfl) c_h9 (fun h16 c_h16 => ?_)
        refine fro_ck ?_
        refine fro_ck ?_
        refine fro_h (fr_wa 8 rfl) c_h16 (fun h17 c_h17 => ?_)
        exact Hk99_10 h17 c_h17
    refine fro_if ?_ ?_
    ·
      exact Hk54_7 h7 c_h7
    ·
      refine fro_bnd (frX12_take 1 0 4 h7) (fun _ a => a.pick [7, 3, 4, 5, 6, 1, 2, 9, 0] rfl) c_h7 (fun x19 h18 c_h18 => ?_)
      refine fro_if ?_ ?_
      ·
        refine fro_ck ?_
        exact fro_some c_h18
      ·
        exact Hk54_7 h18 c_h18
def wX12_plateLine : List FE := [(10, some 0, some 16), (10, some 0, some 17), (10, some 0, some 9), (10, some 0, some 11), (10, some 0, some 12), (10, some 0, some 13), (52, some 0, none), (10, some 0, some 20), (10, some 0, some 15), (51, some 0, none)]
set_option maxHeartbeats 4000000 in
theorem frX12_plateLine_l66 (l2 : Int32) (K : Hp → Option (Int32 × Hp)) (h0 : Hp) (hK : ∀ (h : Hp), Fr wX12_plateLine h0 h → FrO wX12_plateLine h0 (K  h)) : ∀ (n : Nat) (l3 : Int32) (h : Hp), Fr wX12_plateLine h0 h → FrO wX12_plateLine h0 (itr1 (fX12_plateLine_l66 l2 K) n l3 h) := by
  refine fro_itr1 ?_
  intro rec hrec l3 h c_h
  unfold fX12_plateLine_l66
  refine fro_if ?_ ?_
  ·
    exact hK h c_h
  ·
    refine fro_if ?_ ?_
    ·
      exact hK h c_h
    ·
      refine fro_ck ?_
      refine fro_ck ?_
      refine fro_h (fr_wa 9 rfl) c_h (fun h12 c_h12 => ?_)
      refine fro_let (fun x13 => ?_)
      exact hrec x13 h12 c_h12
set_option maxHeartbeats 4000000 in
theorem frX12_plateLine (l1 : Int32) (h : Hp) : FrO wX12_plateLine h (fX12_plateLine l1 h) := by
  have c_h : Fr wX12_plateLine h h := Fr.rf
  unfold fX12_plateLine
  refine fro_bnd (frX12_full 2 5 l1 h) (fun _ a => a.pick [0, 1] rfl) c_h (fun _ h1 c_h1 => ?_)
  refine fro_bnd (frX12_token h1) (fun _ a => a.pick [2, 3, 4, 5] rfl) c_h1 (fun _ h2 c_h2 => ?_)
  refine fro_bnd (frX12_take 0 0 9 h2) (fun _ a => a.pick [6, 2, 3, 4, 5, 0, 1, 7, 8] rfl) c_h2 (fun x4 h3 c_h3 => ?_)
  refine fro_if ?_ ?_
  ·
    refine fro_ck ?_
    exact fro_some c_h3
  ·
    refine fro_bnd (frX12_take 1 1 6 h3) (fun _ a => a.pick [6, 2, 3, 4, 5, 0, 1, 7, 8] rfl) c_h3 (fun x6 h5 c_h5 => ?_)
    refine fro_if ?_ ?_
    ·
      refine fro_ck ?_
      exact fro_some c_h5
    ·
      refine fro_ck ?_
      refine fro_bnd (frX12_lesser 6 (ra h5 52 0 1) h5) (fun _ a => a.pick [] rfl) c_h5 (fun x8 h7 c_h7 => ?_)
      refine fro_bnd (frX12_take 2 1 x8 h7) (fun _ a => a.pick [6, 2, 3, 4, 5, 0, 1, 7, 8] rfl) c_h7 (fun x10 h9 c_h9 => ?_)
      refine fro_if ?_ ?_
      ·
        refine fro_ck ?_
        exact fro_some c_h9
      ·
        refine fro_ck ?_
        refine fro_let (fun x11 => ?_)
        refine frX12_plateLine_l66 x11 _ _ (fun h14 c_h14 => ?_) FU 0 h9 c_h9
        refine fro_bnd (frX12_lesser 5 (x11 + (1 : Int32)) h14) (fun _ a => a.pick [] rfl) c_h14 (fun x16 h15 c_h15 => ?_)
        refine fro_ck ?_
        refine fro_h (fr_wa 9 rfl) c_h15 (fun h17 c_h17 => ?_)
        refine fro_ck ?_
        exact fro_some c_h17
def wX12_stageLine : List FE := [(10, some 0, some 16), (10, some 0, some 17), (10, some 0, some 9), (10, some 0, some 11), (10, some 0, some 12), (10, some 0, some 13), (52, some 0, none), (10, some 0, some 20), (10, some 0, some 15), (51, some 0, none)]
set_option maxHeartbeats 4000000 in
theorem frX12_stageLine (l1 : Int64) (l3 : Int32) (h : Hp) : FrO wX12_stageLine h (fX12_stageLine l1 l3 h) := by
  have c_h : Fr wX12_stageLine h h := Fr.rf
  unfold fX12_stageLine
  refine fro_if ?_ ?_
  ·
    refine fro_bnd (frX12_plateLine l3 h) (fun _ a => a.pick [0, 1, 2, 3, 4, 5, 6, 7, 8, 9] rfl) c_h (fun x2 h1 c_h1 => ?_)
    refine fro_ck ?_
    exact fro_some c_h1
  ·
    refine fro_jn (fun (k35_2 : Hp → Option (Int32 × Hp)) => ∀ (h4 : Hp), Fr wX12_stageLine h h4 → FrO wX12_stageLine h (k35_2 h4)) (fun h4 c_h4 => ?_) (fun k35_2 Hk35_2 => ?_)
    ·
      refine fro_bnd (frX12_token h4) (fun _ a => a.pick [2, 3, 4, 5] rfl) c_h4 (fun _ h5 c_h5 => ?_)
      refine fro_jn (fun (k54_5 : Int32 → Hp → Option (Int32 × Hp)) => ∀ (z0_5 : Int32) (h7 : Hp), Fr wX12_stageLine h h7 → FrO wX12_stageLine h (k54_5 z0_5 h7)) (fun z0_5 h7 c_h7 => ?_) (fun k54_5 Hk54_5 => ?_)
      ·
        refine fro_bnd (frX12_take 0 z0_5 9 h7) (fun _ a => a.pick [6, 2, 3, 4, 5, 0, 1, 7, 8] rfl) c_h7 (fun x9 h8 c_h8 => ?_)
        refine fro_if ?_ ?_
        ·
          refine fro_ck ?_
          exact fro_some c_h8
        ·
          refine fro_jn (fun (k77_9 : Int32 → Hp → Option (Int32 × Hp)) => ∀ (z0_9 : Int32) (h11 : Hp), Fr wX12_stageLine h h11 → FrO wX12_stageLine h (k77_9 z0_9 h11)) (fun z0_9 h11 c_h11 => ?_) (fun k77_9 Hk77_9 => ?_)
          ·
            refine fro_if ?_ ?_
            ·
              refine fro_ck ?_
              refine fro_ck ?_
              refine fro_h (fr_wa 9 rfl) c_h11 (fun h12 c_h12 => ?_)
              refine fro_ck ?_
              exact fro_some c_h12
            ·
              refine fro_ck ?_
              refine fro_ck ?_
              refine fro_h (fr_wa 9 rfl) c_h11 (fun h13 c_h13 => ?_)
              refine fro_ck ?_
              exact fro_some c_h13
          refine fro_if ?_ ?_
          ·
            exact Hk77_9 0 h8 c_h8
          ·
            exact Hk77_9 1 h8 c_h8
      refine fro_if ?_ ?_
      ·
        exact Hk54_5 1 h5 c_h5
      ·
        exact Hk54_5 0 h5 c_h5
    refine fro_if ?_ ?_
    ·
      exact Hk35_2 h c_h
    ·
      refine fro_if ?_ ?_
      ·
        exact Hk35_2 h c_h
      ·
        refine fro_bnd (frX12_fails h) (fun _ a => a.pick [8] rfl) c_h (fun x15 h14 c_h14 => ?_)
        refine fro_ck ?_
        exact fro_some c_h14
def wX12_allLines : List FE := [(10, some 0, some 20), (10, some 0, some 9), (10, some 0, some 11), (10, some 0, some 12), (10, some 0, some 13), (10, some 0, some 15), (10, some 0, some 16), (10, some 0, some 17), (52, some 0, none), (51, some 0, none)]
set_option maxHeartbeats 4000000 in
theorem frX12_allLines_l2 (l1 : Int32) (K : Int32 → Hp → Option (Int32 × Hp)) (h0 : Hp) (hK : ∀ (y2 : Int32) (h : Hp), Fr wX12_allLines h0 h → FrO wX12_allLines h0 (K y2 h)) : ∀ (n : Nat) (l2 : Int32) (h : Hp), Fr wX12_allLines h0 h → FrO wX12_allLines h0 (itr1 (fX12_allLines_l2 l1 K) n l2 h) := by
  refine fro_itr1 ?_
  intro rec hrec l2 h c_h
  unfold fX12_allLines_l2
  refine fro_if ?_ ?_
  ·
    exact hK l2 h c_h
  ·
    refine fro_if ?_ ?_
    ·
      exact hK l2 h c_h
    ·
      refine fro_let (fun x1 => ?_)
      refine fro_jn (fun (k34_1 : Int64 → Hp → Option (Int32 × Hp)) => ∀ (z0_1 : Int64) (h3 : Hp), Fr wX12_allLines h0 h3 → FrO wX12_allLines h0 (k34_1 z0_1 h3)) (fun z0_1 h3 c_h3 => ?_) (fun k34_1 Hk34_1 => ?_)
      ·
        refine fro_ck ?_
        refine fro_h (fr_wr 0 rfl) c_h3 (fun h4 c_h4 => ?_)
        refine fro_jn (fun (k77_4 : Int32 → Hp → Option (Int32 × Hp)) => ∀ (z0_4 : Int32) (h6 : Hp), Fr wX12_allLines h0 h6 → FrO wX12_allLines h0 (k77_4 z0_4 h6)) (fun z0_4 h6 c_h6 => ?_) (fun k77_4 Hk77_4 => ?_)
        ·
          refine fro_jn (fun (k95_6 : Int32 → Hp → Option (Int32 × Hp)) => ∀ (y2_6 : Int32) (h8 : Hp), Fr wX12_allLines h0 h8 → FrO wX12_allLines h0 (k95_6 y2_6 h8)) (fun y2_6 h8 c_h8 => ?_) (fun k95_6 Hk95_6 => ?_)
          ·
            refine fro_jn (fun (k103_8 : Hp → Option (Int32 × Hp)) => ∀ (h10 : Hp), Fr wX12_allLines h0 h10 → FrO wX12_allLines h0 (k103_8 h10)) (fun h10 c_h10 => ?_) (fun k103_8 Hk103_8 => ?_)
            ·
              exact hrec y2_6 h10 c_h10
            refine fro_if ?_ ?_
            ·
              exact Hk103_8 h8 c_h8
            ·
              refine fro_bnd (frX12_token h8) (fun _ a => a.pick [1, 2, 3, 4] rfl) c_h8 (fun _ h11 c_h11 => ?_)
              exact Hk103_8 h11 c_h11
          refine fro_if ?_ ?_
          ·
            exact Hk95_6 z0_4 h6 c_h6
          ·
            refine fro_if ?_ ?_
            ·
              exact Hk95_6 z0_4 h6 c_h6
            ·
              refine fro_bnd (frX12_fails h6) (fun _ a => a.pick [5] rfl) c_h6 (fun x13 h12 c_h12 => ?_)
              exact Hk95_6 x13 h12 c_h12
        refine fro_if ?_ ?_
        ·
          refine fro_bnd (frX12_stageLine z0_1 x1 h4) (fun _ a => a.pick [6, 7, 1, 2, 3, 4, 8, 0, 5, 9] rfl) c_h4 (fun x15 h14 c_h14 => ?_)
          exact Hk77_4 x15 h14 c_h14
        ·
          refine fro_if ?_ ?_
          ·
            refine fro_bnd (frX12_showLine z0_1 x1 h4) (fun _ a => a.pick [5, 6, 7, 1, 2, 3, 4, 8, 9, 0] rfl) c_h4 (fun x17 h16 c_h16 => ?_)
            exact Hk77_4 x17 h16 c_h16
          ·
            refine fro_bnd (frX12_logLine z0_1 x1 h4) (fun _ a => a.pick [1, 2, 3, 4, 8, 6, 7, 0, 5, 9] rfl) c_h4 (fun x19 h18 c_h18 => ?_)
            exact Hk77_4 x19 h18 c_h18
      refine fro_if ?_ ?_
      ·
        exact Hk34_1 (h.2) h c_h
      ·
        exact Hk34_1 0 h c_h
set_option maxHeartbeats 4000000 in
theorem frX12_allLines (l1 : Int32) (h : Hp) : FrO wX12_allLines h (fX12_allLines l1 h) := by
  have c_h : Fr wX12_allLines h h := Fr.rf
  unfold fX12_allLines
  refine frX12_allLines_l2 l1 _ _ (fun y20 h21 c_h21 => ?_) FU 1 h c_h
  refine fro_ck ?_
  exact fro_some c_h21
def wX12_placeNow : List FE := []
set_option maxHeartbeats 4000000 in
theorem frX12_placeNow (h : Hp) : FrO wX12_placeNow h (fX12_placeNow h) := by
  have c_h : Fr wX12_placeNow h h := Fr.rf
  unfold fX12_placeNow
  refine fro_if ?_ ?_
  ·
    exact fro_some c_h
  ·
    refine fro_ck ?_
    exact fro_some c_h
def wX12_beatsTo : List FE := []
set_option maxHeartbeats 4000000 in
theorem frX12_beatsTo (l1 : Int32) (h : Hp) : FrO wX12_beatsTo h (fX12_beatsTo l1 h) := by
  have c_h : Fr wX12_beatsTo h h := Fr.rf
  unfold fX12_beatsTo
  refine fro_bnd (frX12_placeNow h) (fun _ a => a.pick [] rfl) c_h (fun x2 h1 c_h1 => ?_)
  refine fro_ck ?_
  refine fro_bnd (frX12_way x2 (ra h1 53 0 l1) h1) (fun _ a => a.pick [] rfl) c_h1 (fun x4 h3 c_h3 => ?_)
  exact fro_some c_h3
def wX12_has : List FE := []
set_option maxHeartbeats 4000000 in
theorem frX12_has (l0 : Int32) (l1 : Int32) (h : Hp) : FrO wX12_has h (fX12_has l0 l1 h) := by
  have c_h : Fr wX12_has h h := Fr.rf
  unfold fX12_has
  refine fro_if ?_ ?_
  ·
    refine fro_ck ?_
    exact fro_some c_h
  ·
    refine fro_ck ?_
    exact fro_some c_h
def wX12_close : List FE := []
set_option maxHeartbeats 4000000 in
theorem frX12_close_l7 (K : Int32 → Hp → Option (Int32 × Hp)) (h0 : Hp) (hK : ∀ (y1 : Int32) (h : Hp), Fr wX12_close h0 h → FrO wX12_close h0 (K y1 h)) : ∀ (n : Nat) (l1 l2 : Int32) (h : Hp), Fr wX12_close h0 h → FrO wX12_close h0 (itr2 (fX12_close_l7 K) n l1 l2 h) := by
  refine fro_itr2 ?_
  intro rec hrec l1 l2 h c_h
  unfold fX12_close_l7
  refine fro_if ?_ ?_
  ·
    exact hK l1 h c_h
  ·
    refine fro_bnd (frX12_has (rd h 10 0 25) l2 h) (fun _ a => a.pick [] rfl) c_h (fun x3 h2 c_h2 => ?_)
    refine fro_jn (fun (k38_3 : Int32 → Hp → Option (Int32 × Hp)) => ∀ (z0_3 : Int32) (h5 : Hp), Fr wX12_close h0 h5 → FrO wX12_close h0 (k38_3 z0_3 h5)) (fun z0_3 h5 c_h5 => ?_) (fun k38_3 Hk38_3 => ?_)
    ·
      refine fro_let (fun x6 => ?_)
      refine fro_let (fun x7 => ?_)
      exact hrec x6 x7 h5 c_h5
    refine fro_if ?_ ?_
    ·
      exact Hk38_3 0 h2 c_h2
    ·
      refine fro_ck ?_
      exact Hk38_3 ((ra h2 63 0 l2) - (1 : Int32)) h2 c_h2
set_option maxHeartbeats 4000000 in
theorem frX12_close (h : Hp) : FrO wX12_close h (fX12_close h) := by
  have c_h : Fr wX12_close h h := Fr.rf
  unfold fX12_close
  refine fro_let (fun x1 => ?_)
  refine frX12_close_l7 _ _ (fun y8 h9 c_h9 => ?_) FU x1 4 h c_h
  exact fro_some c_h9
def wX12_behindRun : List FE := [(63, some 0, none), (10, some 0, some 47)]
set_option maxHeartbeats 4000000 in
theorem frX12_behindRun_l8 (l1 : Int32) (l2 : Int32) (K : Hp → Option (Int32 × Hp)) (h0 : Hp) (hK : ∀ (h : Hp), Fr wX12_behindRun h0 h → FrO wX12_behindRun h0 (K  h)) : ∀ (n : Nat) (l3 : Int32) (h : Hp), Fr wX12_behindRun h0 h → FrO wX12_behindRun h0 (itr1 (fX12_behindRun_l8 l1 l2 K) n l3 h) := by
  refine fro_itr1 ?_
  intro rec hrec l3 h c_h
  unfold fX12_behindRun_l8
  refine fro_if ?_ ?_
  ·
    exact hK h c_h
  ·
    refine fro_jn (fun (k40_2 : Int32 → Hp → Option (Int32 × Hp)) => ∀ (z0_2 : Int32) (h4 : Hp), Fr wX12_behindRun h0 h4 → FrO wX12_behindRun h0 (k40_2 z0_2 h4)) (fun z0_2 h4 c_h4 => ?_) (fun k40_2 Hk40_2 => ?_)
    ·
      refine fro_ck ?_
      refine fro_h (fr_wa 0 rfl) c_h4 (fun h5 c_h5 => ?_)
      refine fro_let (fun x6 => ?_)
      exact hrec x6 h5 c_h5
    refine fro_if ?_ ?_
    ·
      refine fro_ck ?_
      exact Hk40_2 (ra h 54 0 l3) h c_h
    ·
      refine fro_ck ?_
      exact Hk40_2 ((ra h 63 0 l3) - l2) h c_h
set_option maxHeartbeats 4000000 in
theorem frX12_behindRun (l1 : Int32) (h : Hp) : FrO wX12_behindRun h (fX12_behindRun l1 h) := by
  have c_h : Fr wX12_behindRun h h := Fr.rf
  unfold fX12_behindRun
  refine fro_bnd (frX12_beatsTo l1 h) (fun _ a => a.pick [] rfl) c_h (fun x2 h1 c_h1 => ?_)
  refine frX12_behindRun_l8 l1 x2 _ _ (fun h7 c_h7 => ?_) FU 0 h1 c_h1
  refine fro_h (fr_wr 1 rfl) c_h7 (fun h8 c_h8 => ?_)
  refine fro_bnd (frX12_close h8) (fun _ a => a.pick [] rfl) c_h8 (fun x10 h9 c_h9 => ?_)
  exact fro_some c_h9
def wX12_isKept : List FE := []
set_option maxHeartbeats 4000000 in
theorem frX12_isKept_l36 (l1 : Int32) (l2 : Int32) (K : Int32 → Hp → Option (Int32 × Hp)) (h0 : Hp) (hK : ∀ (y3 : Int32) (h : Hp), Fr wX12_isKept h0 h → FrO wX12_isKept h0 (K y3 h)) : ∀ (n : Nat) (l3 l4 : Int32) (h : Hp), Fr wX12_isKept h0 h → FrO wX12_isKept h0 (itr2 (fX12_isKept_l36 l1 l2 K) n l3 l4 h) := by
  refine fro_itr2 ?_
  intro rec hrec l3 l4 h c_h
  unfold fX12_isKept_l36
  refine fro_if ?_ ?_
  ·
    exact hK l3 h c_h
  ·
    refine fro_jn (fun (k80_6 : Int32 → Hp → Option (Int32 × Hp)) => ∀ (z0_6 : Int32) (h8 : Hp), Fr wX12_isKept h0 h8 → FrO wX12_isKept h0 (k80_6 z0_6 h8)) (fun z0_6 h8 c_h8 => ?_) (fun k80_6 Hk80_6 => ?_)
    ·
      refine fro_let (fun x9 => ?_)
      exact hrec z0_6 x9 h8 c_h8
    refine fro_jn (fun (k79_9 : Hp → Option (Int32 × Hp)) => ∀ (h11 : Hp), Fr wX12_isKept h0 h11 → FrO wX12_isKept h0 (k79_9 h11)) (fun h11 c_h11 => ?_) (fun k79_9 Hk79_9 => ?_)
    ·
      exact Hk80_6 0 h11 c_h11
    refine fro_if ?_ ?_
    ·
      exact Hk79_9 h c_h
    ·
      refine fro_jn (fun (k75_11 : Hp → Option (Int32 × Hp)) => ∀ (h13 : Hp), Fr wX12_isKept h0 h13 → FrO wX12_isKept h0 (k75_11 h13)) (fun h13 c_h13 => ?_) (fun k75_11 Hk75_11 => ?_)
      ·
        exact Hk80_6 1 h13 c_h13
      refine fro_if ?_ ?_
      ·
        exact Hk75_11 h c_h
      ·
        refine fro_bnd (frX12_has (rd h 10 0 25) l4 h) (fun _ a => a.pick [] rfl) c_h (fun x15 h14 c_h14 => ?_)
        refine fro_if ?_ ?_
        ·
          exact Hk75_11 h14 c_h14
        ·
          refine fro_ck ?_
          refine fro_if ?_ ?_
          ·
            exact Hk79_9 h14 c_h14
          ·
            exact Hk75_11 h14 c_h14
set_option maxHeartbeats 4000000 in
theorem frX12_isKept (l1 : Int32) (h : Hp) : FrO wX12_isKept h (fX12_isKept l1 h) := by
  have c_h : Fr wX12_isKept h h := Fr.rf
  unfold fX12_isKept
  refine fro_bnd (frX12_beatsTo l1 h) (fun _ a => a.pick [] rfl) c_h (fun x2 h1 c_h1 => ?_)
  refine fro_bnd (frX12_has (rd h1 10 0 25) l1 h1) (fun _ a => a.pick [] rfl) c_h1 (fun x4 h3 c_h3 => ?_)
  refine fro_jn (fun (k32_4 : Int32 → Hp → Option (Int32 × Hp)) => ∀ (z0_4 : Int32) (h6 : Hp), Fr wX12_isKept h h6 → FrO wX12_isKept h (k32_4 z0_4 h6)) (fun z0_4 h6 c_h6 => ?_) (fun k32_4 Hk32_4 => ?_)
  ·
    refine frX12_isKept_l36 l1 x2 _ _ (fun y16 h17 c_h17 => ?_) FU z0_4 0 h6 c_h6
    refine fro_ck ?_
    exact fro_some c_h17
  refine fro_jn (fun (k31_17 : Hp → Option (Int32 × Hp)) => ∀ (h19 : Hp), Fr wX12_isKept h h19 → FrO wX12_isKept h (k31_17 h19)) (fun h19 c_h19 => ?_) (fun k31_17 Hk31_17 => ?_)
  ·
    exact Hk32_4 0 h19 c_h19
  refine fro_if ?_ ?_
  ·
    exact Hk31_17 h3 c_h3
  ·
    refine fro_ck ?_
    refine fro_if ?_ ?_
    ·
      exact Hk31_17 h3 c_h3
    ·
      exact Hk32_4 1 h3 c_h3
def wX12_leastLeft : List FE := []
set_option maxHeartbeats 4000000 in
theorem frX12_leastLeft_l6 (K : Int32 → Hp → Option (Int32 × Hp)) (h0 : Hp) (hK : ∀ (y1 : Int32) (h : Hp), Fr wX12_leastLeft h0 h → FrO wX12_leastLeft h0 (K y1 h)) : ∀ (n : Nat) (l1 l2 : Int32) (h : Hp), Fr wX12_leastLeft h0 h → FrO wX12_leastLeft h0 (itr2 (fX12_leastLeft_l6 K) n l1 l2 h) := by
  refine fro_itr2 ?_
  intro rec hrec l1 l2 h c_h
  unfold fX12_leastLeft_l6
  refine fro_if ?_ ?_
  ·
    exact hK l1 h c_h
  ·
    refine fro_bnd (frX12_has (rd h 10 0 25) l2 h) (fun _ a => a.pick [] rfl) c_h (fun x2 h1 c_h1 => ?_)
    refine fro_jn (fun (k36_2 : Int32 → Hp → Option (Int32 × Hp)) => ∀ (z0_2 : Int32) (h4 : Hp), Fr wX12_leastLeft h0 h4 → FrO wX12_leastLeft h0 (k36_2 z0_2 h4)) (fun z0_2 h4 c_h4 => ?_) (fun k36_2 Hk36_2 => ?_)
    ·
      refine fro_let (fun x5 => ?_)
      exact hrec z0_2 x5 h4 c_h4
    refine fro_if ?_ ?_
    ·
      exact Hk36_2 l1 h1 c_h1
    ·
      refine fro_ck ?_
      refine fro_bnd (frX12_lesser l1 (ra h1 63 0 l2) h1) (fun _ a => a.pick [] rfl) c_h1 (fun x7 h6 c_h6 => ?_)
      exact Hk36_2 x7 h6 c_h6
set_option maxHeartbeats 4000000 in
theorem frX12_leastLeft (h : Hp) : FrO wX12_leastLeft h (fX12_leastLeft h) := by
  have c_h : Fr wX12_leastLeft h h := Fr.rf
  unfold fX12_leastLeft
  refine frX12_leastLeft_l6 _ _ (fun y8 h9 c_h9 => ?_) FU 1000000 0 h c_h
  exact fro_some c_h9
def wX12_open : List FE := [(10, some 0, some 47), (63, some 0, none)]
set_option maxHeartbeats 4000000 in
theorem frX12_open_l17 (K : Hp → Option (Unit × Hp)) (h0 : Hp) (hK : ∀ (h : Hp), Fr wX12_open h0 h → FrO wX12_open h0 (K  h)) : ∀ (n : Nat) (l2 l3 : Int32) (h : Hp), Fr wX12_open h0 h → FrO wX12_open h0 (itr2 (fX12_open_l17 K) n l2 l3 h) := by
  refine fro_itr2 ?_
  intro rec hrec l2 l3 h c_h
  unfold fX12_open_l17
  refine fro_if ?_ ?_
  ·
    exact hK h c_h
  ·
    refine fro_ck ?_
    refine fro_h (fr_wa 1 rfl) c_h (fun h3 c_h3 => ?_)
    refine fro_let (fun x4 => ?_)
    refine fro_let (fun x5 => ?_)
    exact hrec x4 x5 h3 c_h3
set_option maxHeartbeats 4000000 in
theorem frX12_open (l1 : Int32) (h : Hp) : FrO wX12_open h (fX12_open l1 h) := by
  have c_h : Fr wX12_open h h := Fr.rf
  unfold fX12_open
  refine fro_h (fr_wr 0 rfl) c_h (fun h1 c_h1 => ?_)
  refine fro_let (fun x2 => ?_)
  refine frX12_open_l17 _ _ (fun h6 c_h6 => ?_) FU x2 0 h1 c_h1
  exact fro_some c_h6
def wX12_lastsOf : List FE := [(10, some 0, some 47), (63, some 0, none)]
set_option maxHeartbeats 4000000 in
theorem frX12_lastsOf_l17 (l1 : Int32) (K : Int32 → Hp → Option (Int32 × Hp)) (h0 : Hp) (hK : ∀ (y2 : Int32) (h : Hp), Fr wX12_lastsOf h0 h → FrO wX12_lastsOf h0 (K y2 h)) : ∀ (n : Nat) (l2 l3 : Int32) (h : Hp), Fr wX12_lastsOf h0 h → FrO wX12_lastsOf h0 (itr2 (fX12_lastsOf_l17 l1 K) n l2 l3 h) := by
  refine fro_itr2 ?_
  intro rec hrec l2 l3 h c_h
  unfold fX12_lastsOf_l17
  refine fro_if ?_ ?_
  ·
    exact hK l2 h c_h
  ·
    refine fro_ck ?_
    refine fro_bnd (frX12_open (ra h 58 0 l1) h) (fun _ a => a.pick [0, 1] rfl) c_h (fun _ h4 c_h4 => ?_)
    refine fro_bnd (frX12_isKept l3 h4) (fun _ a => a.pick [] rfl) c_h4 (fun x6 h5 c_h5 => ?_)
    refine fro_jn (fun (k84_6 : Int32 → Hp → Option (Int32 × Hp)) => ∀ (y2_6 : Int32) (h8 : Hp), Fr wX12_lastsOf h0 h8 → FrO wX12_lastsOf h0 (k84_6 y2_6 h8)) (fun y2_6 h8 c_h8 => ?_) (fun k84_6 Hk84_6 => ?_)
    ·
      refine fro_let (fun x9 => ?_)
      exact hrec y2_6 x9 h8 c_h8
    refine fro_if ?_ ?_
    ·
      exact Hk84_6 l2 h5 c_h5
    ·
      refine fro_bnd (frX12_beatsTo l3 h5) (fun _ a => a.pick [] rfl) c_h5 (fun x11 h10 c_h10 => ?_)
      refine fro_bnd (frX12_behindRun l3 h10) (fun _ a => a.pick [1, 0] rfl) c_h10 (fun x13 h12 c_h12 => ?_)
      refine fro_ck ?_
      refine fro_ck ?_
      refine fro_let (fun x14 => ?_)
      refine fro_if ?_ ?_
      ·
        exact fro_some c_h12
      ·
        refine fro_bnd (frX12_greater l2 (x11 + x14) h12) (fun _ a => a.pick [] rfl) c_h12 (fun x16 h15 c_h15 => ?_)
        exact Hk84_6 x16 h15 c_h15
set_option maxHeartbeats 4000000 in
theorem frX12_lastsOf (l1 : Int32) (h : Hp) : FrO wX12_lastsOf h (fX12_lastsOf l1 h) := by
  have c_h : Fr wX12_lastsOf h h := Fr.rf
  unfold fX12_lastsOf
  refine fro_ck ?_
  refine fro_bnd (frX12_open (ra h 58 0 l1) h) (fun _ a => a.pick [0, 1] rfl) c_h (fun _ h1 c_h1 => ?_)
  refine fro_bnd (frX12_leastLeft h1) (fun _ a => a.pick [] rfl) c_h1 (fun x3 h2 c_h2 => ?_)
  refine frX12_lastsOf_l17 l1 _ _ (fun y17 h18 c_h18 => ?_) FU x3 0 h2 c_h2
  exact fro_some c_h18
def wX12_openFirst : List FE := [(10, some 0, some 47), (63, some 0, none)]
set_option maxHeartbeats 4000000 in
theorem frX12_openFirst_l7 (K : Hp → Option (Unit × Hp)) (h0 : Hp) (hK : ∀ (h : Hp), Fr wX12_openFirst h0 h → FrO wX12_openFirst h0 (K  h)) : ∀ (n : Nat) (l1 : Int32) (h : Hp), Fr wX12_openFirst h0 h → FrO wX12_openFirst h0 (itr1 (fX12_openFirst_l7 K) n l1 h) := by
  refine fro_itr1 ?_
  intro rec hrec l1 h c_h
  unfold fX12_openFirst_l7
  refine fro_if ?_ ?_
  ·
    exact hK h c_h
  ·
    refine fro_ck ?_
    refine fro_ck ?_
    refine fro_h (fr_wa 1 rfl) c_h (fun h2 c_h2 => ?_)
    refine fro_let (fun x3 => ?_)
    exact hrec x3 h2 c_h2
set_option maxHeartbeats 4000000 in
theorem frX12_openFirst (h : Hp) : FrO wX12_openFirst h (fX12_openFirst h) := by
  have c_h : Fr wX12_openFirst h h := Fr.rf
  unfold fX12_openFirst
  refine fro_h (fr_wr 0 rfl) c_h (fun h1 c_h1 => ?_)
  refine frX12_openFirst_l7 _ _ (fun h4 c_h4 => ?_) FU 0 h1 c_h1
  exact fro_some c_h4
def wX12_layOut : List FE := [(59, some 0, none), (10, some 0, some 46), (10, some 0, some 47), (63, some 0, none), (58, some 0, none)]
set_option maxHeartbeats 4000000 in
theorem frX12_layOut_l2 (K : Hp → Option (Unit × Hp)) (h0 : Hp) (hK : ∀ (h : Hp), Fr wX12_layOut h0 h → FrO wX12_layOut h0 (K  h)) : ∀ (n : Nat) (l1 : Int32) (h : Hp), Fr wX12_layOut h0 h → FrO wX12_layOut h0 (itr1 (fX12_layOut_l2 K) n l1 h) := by
  refine fro_itr1 ?_
  intro rec hrec l1 h c_h
  unfold fX12_layOut_l2
  refine fro_if ?_ ?_
  ·
    exact hK h c_h
  ·
    refine fro_ck ?_
    refine fro_ck ?_
    refine fro_h (fr_wa 0 rfl) c_h (fun h1 c_h1 => ?_)
    refine fro_let (fun x2 => ?_)
    exact hrec x2 h1 c_h1
set_option maxHeartbeats 4000000 in
theorem frX12_layOut_l57 (l1 : Int32) (K : Hp → Option (Unit × Hp)) (h0 : Hp) (hK : ∀ (h : Hp), Fr wX12_layOut h0 h → FrO wX12_layOut h0 (K  h)) : ∀ (n : Nat) (l2 : Int32) (h : Hp), Fr wX12_layOut h0 h → FrO wX12_layOut h0 (itr1 (fX12_layOut_l57 l1 K) n l2 h) := by
  refine fro_itr1 ?_
  intro rec hrec l2 h c_h
  unfold fX12_layOut_l57
  refine fro_if ?_ ?_
  ·
    exact hK h c_h
  ·
    refine fro_ck ?_
    refine fro_bnd (frX12_open (ra h 58 0 l1) h) (fun _ a => a.pick [2, 3] rfl) c_h (fun _ h9 c_h9 => ?_)
    refine fro_bnd (frX12_isKept l2 h9) (fun _ a => a.pick [] rfl) c_h9 (fun x11 h10 c_h10 => ?_)
    refine fro_jn (fun (k89_11 : Hp → Option (Unit × Hp)) => ∀ (h13 : Hp), Fr wX12_layOut h0 h13 → FrO wX12_layOut h0 (k89_11 h13)) (fun h13 c_h13 => ?_) (fun k89_11 Hk89_11 => ?_)
    ·
      refine fro_let (fun x14 => ?_)
      exact hrec x14 h13 c_h13
    refine fro_if ?_ ?_
    ·
      exact Hk89_11 h10 c_h10
    ·
      refine fro_bnd (frX12_behindRun l2 h10) (fun _ a => a.pick [3, 2] rfl) c_h10 (fun x16 h15 c_h15 => ?_)
      refine fro_bnd (frX12_addStand x16 h15) (fun _ a => a.pick [4, 1, 0] rfl) c_h15 (fun _ h17 c_h17 => ?_)
      exact Hk89_11 h17 c_h17
set_option maxHeartbeats 4000000 in
theorem frX12_layOut_l47 (K : Hp → Option (Unit × Hp)) (h0 : Hp) (hK : ∀ (h : Hp), Fr wX12_layOut h0 h → FrO wX12_layOut h0 (K  h)) : ∀ (n : Nat) (l1 : Int32) (h : Hp), Fr wX12_layOut h0 h → FrO wX12_layOut h0 (itr1 (fX12_layOut_l47 K) n l1 h) := by
  refine fro_itr1 ?_
  intro rec hrec l1 h c_h
  unfold fX12_layOut_l47
  refine fro_if ?_ ?_
  ·
    exact hK h c_h
  ·
    refine frX12_layOut_l57 l1 _ _ (fun h18 c_h18 => ?_) FU 0 h c_h
    refine fro_let (fun x19 => ?_)
    exact hrec x19 h18 c_h18
set_option maxHeartbeats 4000000 in
theorem frX12_layOut (h : Hp) : FrO wX12_layOut h (fX12_layOut h) := by
  have c_h : Fr wX12_layOut h h := Fr.rf
  unfold fX12_layOut
  refine frX12_layOut_l2 _ _ (fun h3 c_h3 => ?_) FU 0 h c_h
  refine fro_h (fr_wr 1 rfl) c_h3 (fun h4 c_h4 => ?_)
  refine fro_bnd (frX12_openFirst h4) (fun _ a => a.pick [2, 3] rfl) c_h4 (fun _ h5 c_h5 => ?_)
  refine fro_bnd (frX12_close h5) (fun _ a => a.pick [] rfl) c_h5 (fun x7 h6 c_h6 => ?_)
  refine fro_bnd (frX12_addStand x7 h6) (fun _ a => a.pick [4, 1, 0] rfl) c_h6 (fun _ h8 c_h8 => ?_)
  refine frX12_layOut_l47 _ _ (fun h20 c_h20 => ?_) FU 0 h8 c_h8
  exact fro_some c_h20
def wX12_isForever : List FE := [(59, some 0, none), (10, some 0, some 46), (10, some 0, some 47), (63, some 0, none), (58, some 0, none), (60, some 0, none)]
set_option maxHeartbeats 4000000 in
theorem frX12_isForever_l15 (K : Hp → Option (Int32 × Hp)) (h0 : Hp) (hK : ∀ (h : Hp), Fr wX12_isForever h0 h → FrO wX12_isForever h0 (K  h)) : ∀ (n : Nat) (l1 : Int32) (h : Hp), Fr wX12_isForever h0 h → FrO wX12_isForever h0 (itr1 (fX12_isForever_l15 K) n l1 h) := by
  refine fro_itr1 ?_
  intro rec hrec l1 h c_h
  unfold fX12_isForever_l15
  refine fro_if ?_ ?_
  ·
    exact hK h c_h
  ·
    refine fro_ck ?_
    refine fro_h (fr_wa 5 rfl) c_h (fun h2 c_h2 => ?_)
    refine fro_let (fun x3 => ?_)
    exact hrec x3 h2 c_h2
set_option maxHeartbeats 4000000 in
theorem frX12_isForever_l51 (K : Int32 → Hp → Option (Int32 × Hp)) (h0 : Hp) (hK : ∀ (y1 : Int32) (h : Hp), Fr wX12_isForever h0 h → FrO wX12_isForever h0 (K y1 h)) : ∀ (n : Nat) (l1 l2 : Int32) (h : Hp), Fr wX12_isForever h0 h → FrO wX12_isForever h0 (itr2 (fX12_isForever_l51 K) n l1 l2 h) := by
  refine fro_itr2 ?_
  intro rec hrec l1 l2 h c_h
  unfold fX12_isForever_l51
  refine fro_if ?_ ?_
  ·
    exact hK l1 h c_h
  ·
    refine fro_ck ?_
    refine fro_jn (fun (k96_5 : Int32 → Hp → Option (Int32 × Hp)) => ∀ (y1_5 : Int32) (h7 : Hp), Fr wX12_isForever h0 h7 → FrO wX12_isForever h0 (k96_5 y1_5 h7)) (fun y1_5 h7 c_h7 => ?_) (fun k96_5 Hk96_5 => ?_)
    ·
      refine fro_let (fun x8 => ?_)
      exact hrec y1_5 x8 h7 c_h7
    refine fro_if ?_ ?_
    ·
      refine fro_bnd (frX12_lastsOf l2 h) (fun _ a => a.pick [2, 3] rfl) c_h (fun x10 h9 c_h9 => ?_)
      refine fro_ck ?_
      refine fro_h (fr_wa 5 rfl) c_h9 (fun h11 c_h11 => ?_)
      refine fro_jn (fun (k95_11 : Int32 → Hp → Option (Int32 × Hp)) => ∀ (z0_11 : Int32) (h13 : Hp), Fr wX12_isForever h0 h13 → FrO wX12_isForever h0 (k95_11 z0_11 h13)) (fun z0_11 h13 c_h13 => ?_) (fun k95_11 Hk95_11 => ?_)
      ·
        exact Hk96_5 z0_11 h13 c_h13
      refine fro_jn (fun (k90_13 : Hp → Option (Int32 × Hp)) => ∀ (h15 : Hp), Fr wX12_isForever h0 h15 → FrO wX12_isForever h0 (k90_13 h15)) (fun h15 c_h15 => ?_) (fun k90_13 Hk90_13 => ?_)
      ·
        exact Hk95_11 1 h15 c_h15
      refine fro_if ?_ ?_
      ·
        refine fro_ck ?_
        refine fro_if ?_ ?_
        ·
          exact Hk95_11 0 h11 c_h11
        ·
          exact Hk90_13 h11 c_h11
      ·
        exact Hk90_13 h11 c_h11
    ·
      exact Hk96_5 l1 h c_h
set_option maxHeartbeats 4000000 in
theorem frX12_isForever_l38 (K : Hp → Option (Int32 × Hp)) (h0 : Hp) (hK : ∀ (h : Hp), Fr wX12_isForever h0 h → FrO wX12_isForever h0 (K  h)) : ∀ (n : Nat) (l1 : Int32) (h : Hp), Fr wX12_isForever h0 h → FrO wX12_isForever h0 (itr1 (fX12_isForever_l38 K) n l1 h) := by
  refine fro_itr1 ?_
  intro rec hrec l1 h c_h
  unfold fX12_isForever_l38
  refine fro_if ?_ ?_
  ·
    exact hK h c_h
  ·
    refine fro_let (fun x5 => ?_)
    refine frX12_isForever_l51 _ _ (fun y16 h17 c_h17 => ?_) FU 0 x5 h c_h
    exact hrec y16 h17 c_h17
set_option maxHeartbeats 4000000 in
theorem frX12_isForever (h : Hp) : FrO wX12_isForever h (fX12_isForever h) := by
  have c_h : Fr wX12_isForever h h := Fr.rf
  unfold fX12_isForever
  refine fro_bnd (frX12_layOut h) (fun _ a => a.pick [0, 1, 2, 3, 4] rfl) c_h (fun _ h1 c_h1 => ?_)
  refine fro_if ?_ ?_
  ·
    refine fro_ck ?_
    exact fro_some c_h1
  ·
    refine frX12_isForever_l15 _ _ (fun h4 c_h4 => ?_) FU 0 h1 c_h1
    refine frX12_isForever_l38 _ _ (fun h18 c_h18 => ?_) FU 1 h4 c_h4
    refine fro_ck ?_
    refine fro_if ?_ ?_
    ·
      refine fro_ck ?_
      exact fro_some c_h18
    ·
      refine fro_ck ?_
      exact fro_some c_h18
def wX12_aloneOf : List FE := [(10, some 0, some 25), (59, some 0, none), (10, some 0, some 46), (10, some 0, some 47), (63, some 0, none), (58, some 0, none), (60, some 0, none)]
set_option maxHeartbeats 4000000 in
theorem frX12_aloneOf_l4 (K : Int32 → Hp → Option (Int32 × Hp)) (h0 : Hp) (hK : ∀ (y1 : Int32) (h : Hp), Fr wX12_aloneOf h0 h → FrO wX12_aloneOf h0 (K y1 h)) : ∀ (n : Nat) (l1 l2 : Int32) (h : Hp), Fr wX12_aloneOf h0 h → FrO wX12_aloneOf h0 (itr2 (fX12_aloneOf_l4 K) n l1 l2 h) := by
  refine fro_itr2 ?_
  intro rec hrec l1 l2 h c_h
  unfold fX12_aloneOf_l4
  refine fro_if ?_ ?_
  ·
    exact hK l1 h c_h
  ·
    refine fro_h (fr_wr 0 rfl) c_h (fun h1 c_h1 => ?_)
    refine fro_bnd (frX12_isForever h1) (fun _ a => a.pick [1, 2, 3, 4, 5, 6] rfl) c_h1 (fun x3 h2 c_h2 => ?_)
    refine fro_jn (fun (k34_3 : Int32 → Hp → Option (Int32 × Hp)) => ∀ (z0_3 : Int32) (h5 : Hp), Fr wX12_aloneOf h0 h5 → FrO wX12_aloneOf h0 (k34_3 z0_3 h5)) (fun z0_3 h5 c_h5 => ?_) (fun k34_3 Hk34_3 => ?_)
    ·
      refine fro_let (fun x6 => ?_)
      refine fro_let (fun x7 => ?_)
      exact hrec x6 x7 h5 c_h5
    refine fro_if ?_ ?_
    ·
      exact Hk34_3 0 h2 c_h2
    ·
      exact Hk34_3 ((1 : Int32) <<< (l2 &&& 31)) h2 c_h2
set_option maxHeartbeats 4000000 in
theorem frX12_aloneOf (h : Hp) : FrO wX12_aloneOf h (fX12_aloneOf h) := by
  have c_h : Fr wX12_aloneOf h h := Fr.rf
  unfold fX12_aloneOf
  refine frX12_aloneOf_l4 _ _ (fun y8 h9 c_h9 => ?_) FU 0 0 h c_h
  exact fro_some c_h9
def wX12_askWhat : List FE := []
set_option maxHeartbeats 4000000 in
theorem frX12_askWhat_l8 (K : Int32 → Hp → Option (Int32 × Hp)) (h0 : Hp) (hK : ∀ (y1 : Int32) (h : Hp), Fr wX12_askWhat h0 h → FrO wX12_askWhat h0 (K y1 h)) : ∀ (n : Nat) (l1 l2 l3 : Int32) (h : Hp), Fr wX12_askWhat h0 h → FrO wX12_askWhat h0 (itr3 (fX12_askWhat_l8 K) n l1 l2 l3 h) := by
  refine fro_itr3 ?_
  intro rec hrec l1 l2 l3 h c_h
  unfold fX12_askWhat_l8
  refine fro_if ?_ ?_
  ·
    exact hK l1 h c_h
  ·
    refine fro_if ?_ ?_
    ·
      exact hK l1 h c_h
    ·
      refine fro_ck ?_
      refine fro_ck ?_
      refine fro_bnd (frX12_greater (ra h 66 0 l3) ((rd h 10 0 53) - (ra h 66 0 l3)) h) (fun _ a => a.pick [] rfl) c_h (fun x2 h1 c_h1 => ?_)
      refine fro_jn (fun (k73_2 : Int32 → Int32 → Hp → Option (Int32 × Hp)) => ∀ (y1_2 : Int32) (y2_2 : Int32) (h4 : Hp), Fr wX12_askWhat h0 h4 → FrO wX12_askWhat h0 (k73_2 y1_2 y2_2 h4)) (fun y1_2 y2_2 h4 c_h4 => ?_) (fun k73_2 Hk73_2 => ?_)
      ·
        refine fro_let (fun x5 => ?_)
        exact hrec y1_2 y2_2 x5 h4 c_h4
      refine fro_if ?_ ?_
      ·
        exact Hk73_2 l1 l2 h1 c_h1
      ·
        refine fro_if ?_ ?_
        ·
          exact Hk73_2 l1 l2 h1 c_h1
        ·
          refine fro_let (fun x6 => ?_)
          exact Hk73_2 x6 x2 h1 c_h1
set_option maxHeartbeats 4000000 in
theorem frX12_askWhat (h : Hp) : FrO wX12_askWhat h (fX12_askWhat h) := by
  have c_h : Fr wX12_askWhat h h := Fr.rf
  unfold fX12_askWhat
  refine frX12_askWhat_l8 _ _ (fun y7 h8 c_h8 => ?_) FU (-1) 1000000 0 h c_h
  exact fro_some c_h8
def wX12_behind : List FE := [(10, some 0, some 0), (10, some 0, some 21), (10, some 0, some 23), (10, some 0, some 24), (10, some 0, some 22), (10, some 0, some 25), (53, some 0, none), (54, some 0, none), (55, some 0, none), (59, some 0, none), (10, some 0, some 46), (10, some 0, some 47), (63, some 0, none), (58, some 0, none), (60, some 0, none)]
set_option maxHeartbeats 4000000 in
theorem frX12_behind (l1 : Int32) (l2 : Int32) (l3 : Int32) (h : Hp) : FrO wX12_behind h (fX12_behind l1 l2 l3 h) := by
  have c_h : Fr wX12_behind h h := Fr.rf
  unfold fX12_behind
  refine fro_h (fr_wr 0 rfl) c_h (fun h1 c_h1 => ?_)
  refine fro_bnd (frX12_hand l1 h1) (fun _ a => a.pick [1, 2, 3, 4, 5, 6, 7, 8] rfl) c_h1 (fun x3 h2 c_h2 => ?_)
  refine fro_if ?_ ?_
  ·
    exact fro_some c_h2
  ·
    refine fro_bnd (frX12_isPlate l2 h2) (fun _ a => a.pick [] rfl) c_h2 (fun x5 h4 c_h4 => ?_)
    refine fro_if ?_ ?_
    ·
      exact fro_some c_h4
    ·
      refine fro_bnd (frX12_in l3 0 2 h4) (fun _ a => a.pick [] rfl) c_h4 (fun x7 h6 c_h6 => ?_)
      refine fro_if ?_ ?_
      ·
        exact fro_some c_h6
      ·
        refine fro_bnd (frX12_isForever h6) (fun _ a => a.pick [9, 10, 11, 12, 13, 14] rfl) c_h6 (fun x9 h8 c_h8 => ?_)
        refine fro_bnd (frX12_openFirst h8) (fun _ a => a.pick [11, 12] rfl) c_h8 (fun _ h10 c_h10 => ?_)
        refine fro_bnd (frX12_isKept l2 h10) (fun _ a => a.pick [] rfl) c_h10 (fun x12 h11 c_h11 => ?_)
        refine fro_if ?_ ?_
        ·
          refine fro_if ?_ ?_
          ·
            exact fro_some c_h11
          ·
            exact fro_some c_h11
        ·
          refine fro_if ?_ ?_
          ·
            exact fro_some c_h11
          ·
            refine fro_bnd (frX12_behindRun l2 h11) (fun _ a => a.pick [12, 11] rfl) c_h11 (fun x14 h13 c_h13 => ?_)
            refine fro_ck ?_
            refine fro_ck ?_
            refine fro_let (fun x15 => ?_)
            refine fro_if ?_ ?_
            ·
              exact fro_some c_h13
            ·
              refine fro_if ?_ ?_
              ·
                exact fro_some c_h13
              ·
                exact fro_some c_h13
def wX12_waysFrom : List FE := []
set_option maxHeartbeats 4000000 in
theorem frX12_waysFrom_l4 (l1 : Int32) (K : Int32 → Hp → Option (Int32 × Hp)) (h0 : Hp) (hK : ∀ (y2 : Int32) (h : Hp), Fr wX12_waysFrom h0 h → FrO wX12_waysFrom h0 (K y2 h)) : ∀ (n : Nat) (l2 l3 : Int32) (h : Hp), Fr wX12_waysFrom h0 h → FrO wX12_waysFrom h0 (itr2 (fX12_waysFrom_l4 l1 K) n l2 l3 h) := by
  refine fro_itr2 ?_
  intro rec hrec l2 l3 h c_h
  unfold fX12_waysFrom_l4
  refine fro_if ?_ ?_
  ·
    exact hK l2 h c_h
  ·
    refine fro_ck ?_
    refine fro_bnd (frX12_way l1 (ra h 53 0 l3) h) (fun _ a => a.pick [] rfl) c_h (fun x2 h1 c_h1 => ?_)
    refine fro_let (fun x3 => ?_)
    refine fro_let (fun x4 => ?_)
    exact hrec x3 x4 h1 c_h1
set_option maxHeartbeats 4000000 in
theorem frX12_waysFrom (l1 : Int32) (h : Hp) : FrO wX12_waysFrom h (fX12_waysFrom l1 h) := by
  have c_h : Fr wX12_waysFrom h h := Fr.rf
  unfold fX12_waysFrom
  refine frX12_waysFrom_l4 l1 _ _ (fun y5 h6 c_h6 => ?_) FU 0 0 h c_h
  exact fro_some c_h6
def wX12_centre : List FE := []
set_option maxHeartbeats 4000000 in
theorem frX12_centre_l4 (K : Int32 → Hp → Option (Int32 × Hp)) (h0 : Hp) (hK : ∀ (y1 : Int32) (h : Hp), Fr wX12_centre h0 h → FrO wX12_centre h0 (K y1 h)) : ∀ (n : Nat) (l1 l2 : Int32) (h : Hp), Fr wX12_centre h0 h → FrO wX12_centre h0 (itr2 (fX12_centre_l4 K) n l1 l2 h) := by
  refine fro_itr2 ?_
  intro rec hrec l1 l2 h c_h
  unfold fX12_centre_l4
  refine fro_if ?_ ?_
  ·
    exact hK l1 h c_h
  ·
    refine fro_bnd (frX12_waysFrom l2 h) (fun _ a => a.pick [] rfl) c_h (fun x2 h1 c_h1 => ?_)
    refine fro_bnd (frX12_waysFrom l1 h1) (fun _ a => a.pick [] rfl) c_h1 (fun x4 h3 c_h3 => ?_)
    refine fro_jn (fun (k28_4 : Int32 → Hp → Option (Int32 × Hp)) => ∀ (z0_4 : Int32) (h6 : Hp), Fr wX12_centre h0 h6 → FrO wX12_centre h0 (k28_4 z0_4 h6)) (fun z0_4 h6 c_h6 => ?_) (fun k28_4 Hk28_4 => ?_)
    ·
      refine fro_let (fun x7 => ?_)
      exact hrec z0_4 x7 h6 c_h6
    refine fro_if ?_ ?_
    ·
      exact Hk28_4 l1 h3 c_h3
    ·
      exact Hk28_4 l2 h3 c_h3
set_option maxHeartbeats 4000000 in
theorem frX12_centre (h : Hp) : FrO wX12_centre h (fX12_centre h) := by
  have c_h : Fr wX12_centre h h := Fr.rf
  unfold fX12_centre
  refine frX12_centre_l4 _ _ (fun y8 h9 c_h9 => ?_) FU 0 1 h c_h
  exact fro_some c_h9
def wX12_common : List FE := []
set_option maxHeartbeats 4000000 in
theorem frX12_common_l4 (K : Int32 → Hp → Option (Int32 × Hp)) (h0 : Hp) (hK : ∀ (y2 : Int32) (h : Hp), Fr wX12_common h0 h → FrO wX12_common h0 (K y2 h)) : ∀ (n : Nat) (l2 l3 : Int32) (h : Hp), Fr wX12_common h0 h → FrO wX12_common h0 (itr2 (fX12_common_l4 K) n l2 l3 h) := by
  refine fro_itr2 ?_
  intro rec hrec l2 l3 h c_h
  unfold fX12_common_l4
  refine fro_if ?_ ?_
  ·
    exact hK l2 h c_h
  ·
    refine fro_ck ?_
    refine fro_let (fun x1 => ?_)
    exact hrec l3 x1 h c_h
set_option maxHeartbeats 4000000 in
theorem frX12_common (l0 : Int32) (l1 : Int32) (h : Hp) : FrO wX12_common h (fX12_common l0 l1 h) := by
  have c_h : Fr wX12_common h h := Fr.rf
  unfold fX12_common
  refine frX12_common_l4 _ _ (fun y2 h3 c_h3 => ?_) FU l0 l1 h c_h
  exact fro_some c_h3
def wX12_count : List FE := [(10, some 0, some 0)]
set_option maxHeartbeats 4000000 in
theorem frX12_count (l1 : Int32) (h : Hp) : FrO wX12_count h (fX12_count l1 h) := by
  have c_h : Fr wX12_count h h := Fr.rf
  unfold fX12_count
  refine fro_h (fr_wr 0 rfl) c_h (fun h1 c_h1 => ?_)
  refine fro_bnd (frX12_in l1 0 2 h1) (fun _ a => a.pick [] rfl) c_h1 (fun x3 h2 c_h2 => ?_)
  refine fro_if ?_ ?_
  ·
    exact fro_some c_h2
  ·
    refine fro_ck ?_
    exact fro_some c_h2
def wX12_couples : List FE := [(10, some 0, some 25), (59, some 0, none), (10, some 0, some 46), (10, some 0, some 47), (63, some 0, none), (58, some 0, none), (60, some 0, none)]
set_option maxHeartbeats 4000000 in
theorem frX12_couples_l15 (l1 : Int32) (l3 : Int32) (K : Int32 → Hp → Option (Int32 × Hp)) (h0 : Hp) (hK : ∀ (y2 : Int32) (h : Hp), Fr wX12_couples h0 h → FrO wX12_couples h0 (K y2 h)) : ∀ (n : Nat) (l2 l4 : Int32) (h : Hp), Fr wX12_couples h0 h → FrO wX12_couples h0 (itr2 (fX12_couples_l15 l1 l3 K) n l2 l4 h) := by
  refine fro_itr2 ?_
  intro rec hrec l2 l4 h c_h
  unfold fX12_couples_l15
  refine fro_if ?_ ?_
  ·
    exact hK l2 h c_h
  ·
    refine fro_h (fr_wr 0 rfl) c_h (fun h1 c_h1 => ?_)
    refine fro_jn (fun (k74_1 : Int32 → Hp → Option (Int32 × Hp)) => ∀ (z0_1 : Int32) (h3 : Hp), Fr wX12_couples h0 h3 → FrO wX12_couples h0 (k74_1 z0_1 h3)) (fun z0_1 h3 c_h3 => ?_) (fun k74_1 Hk74_1 => ?_)
    ·
      refine fro_let (fun x4 => ?_)
      refine fro_let (fun x5 => ?_)
      exact hrec x4 x5 h3 c_h3
    refine fro_if ?_ ?_
    ·
      refine fro_ck ?_
      refine fro_ck ?_
      refine fro_if ?_ ?_
      ·
        exact Hk74_1 1 h1 c_h1
      ·
        exact Hk74_1 0 h1 c_h1
    ·
      refine fro_bnd (frX12_isForever h1) (fun _ a => a.pick [1, 2, 3, 4, 5, 6] rfl) c_h1 (fun x7 h6 c_h6 => ?_)
      refine fro_if ?_ ?_
      ·
        exact Hk74_1 0 h6 c_h6
      ·
        exact Hk74_1 1 h6 c_h6
set_option maxHeartbeats 4000000 in
theorem frX12_couples_l4 (l1 : Int32) (K : Int32 → Hp → Option (Int32 × Hp)) (h0 : Hp) (hK : ∀ (y2 : Int32) (h : Hp), Fr wX12_couples h0 h → FrO wX12_couples h0 (K y2 h)) : ∀ (n : Nat) (l2 l3 : Int32) (h : Hp), Fr wX12_couples h0 h → FrO wX12_couples h0 (itr2 (fX12_couples_l4 l1 K) n l2 l3 h) := by
  refine fro_itr2 ?_
  intro rec hrec l2 l3 h c_h
  unfold fX12_couples_l4
  refine fro_if ?_ ?_
  ·
    exact hK l2 h c_h
  ·
    refine frX12_couples_l15 l1 l3 _ _ (fun y8 h9 c_h9 => ?_) FU l2 0 h c_h
    refine fro_let (fun x10 => ?_)
    exact hrec y8 x10 h9 c_h9
set_option maxHeartbeats 4000000 in
theorem frX12_couples (l1 : Int32) (h : Hp) : FrO wX12_couples h (fX12_couples l1 h) := by
  have c_h : Fr wX12_couples h h := Fr.rf
  unfold fX12_couples
  refine frX12_couples_l4 l1 _ _ (fun y11 h12 c_h12 => ?_) FU 0 0 h c_h
  exact fro_some c_h12
def wX12_deed : List FE := [(10, some 0, some 0), (10, some 0, some 40)]
set_option maxHeartbeats 4000000 in
theorem frX12_deed (l1 : Int32) (l2 : Int32) (l3 : Int32) (h : Hp) : FrO wX12_deed h (fX12_deed l1 l2 l3 h) := by
  have c_h : Fr wX12_deed h h := Fr.rf
  unfold fX12_deed
  refine fro_h (fr_wr 0 rfl) c_h (fun h1 c_h1 => ?_)
  refine fro_bnd (frX12_hasShow l1 h1) (fun _ a => a.pick [1] rfl) c_h1 (fun x3 h2 c_h2 => ?_)
  refine fro_if ?_ ?_
  ·
    exact fro_some c_h2
  ·
    refine fro_if ?_ ?_
    ·
      refine fro_if ?_ ?_
      ·
        refine fro_bnd (frX12_deeds h2) (fun _ a => a.pick [] rfl) c_h2 (fun x5 h4 c_h4 => ?_)
        exact fro_some c_h4
      ·
        exact fro_some c_h2
    ·
      refine fro_bnd (frX12_deeds h2) (fun _ a => a.pick [] rfl) c_h2 (fun x7 h6 c_h6 => ?_)
      refine fro_bnd (frX12_in l2 0 (x7 - (1 : Int32)) h6) (fun _ a => a.pick [] rfl) c_h6 (fun x9 h8 c_h8 => ?_)
      refine fro_jn (fun (k67_9 : Hp → Option (Int32 × Hp)) => ∀ (h11 : Hp), Fr wX12_deed h h11 → FrO wX12_deed h (k67_9 h11)) (fun h11 c_h11 => ?_) (fun k67_9 Hk67_9 => ?_)
      ·
        exact fro_some c_h11
      refine fro_if ?_ ?_
      ·
        exact Hk67_9 h8 c_h8
      ·
        refine fro_bnd (frX12_in l3 0 1 h8) (fun _ a => a.pick [] rfl) c_h8 (fun x13 h12 c_h12 => ?_)
        refine fro_if ?_ ?_
        ·
          exact Hk67_9 h12 c_h12
        ·
          refine fro_bnd (frX12_deedOf l2 l3 h12) (fun _ a => a.pick [] rfl) c_h12 (fun x15 h14 c_h14 => ?_)
          exact fro_some c_h14
def wX12_sixes : List FE := []
set_option maxHeartbeats 4000000 in
theorem frX12_sixes_l4 (l0 : Int32) (K : Int32 → Hp → Option (Int32 × Hp)) (h0 : Hp) (hK : ∀ (y1 : Int32) (h : Hp), Fr wX12_sixes h0 h → FrO wX12_sixes h0 (K y1 h)) : ∀ (n : Nat) (l1 l2 : Int32) (h : Hp), Fr wX12_sixes h0 h → FrO wX12_sixes h0 (itr2 (fX12_sixes_l4 l0 K) n l1 l2 h) := by
  refine fro_itr2 ?_
  intro rec hrec l1 l2 h c_h
  unfold fX12_sixes_l4
  refine fro_if ?_ ?_
  ·
    exact hK l1 h c_h
  ·
    refine fro_let (fun x1 => ?_)
    refine fro_let (fun x2 => ?_)
    exact hrec x1 x2 h c_h
set_option maxHeartbeats 4000000 in
theorem frX12_sixes (l0 : Int32) (h : Hp) : FrO wX12_sixes h (fX12_sixes l0 h) := by
  have c_h : Fr wX12_sixes h h := Fr.rf
  unfold fX12_sixes
  refine frX12_sixes_l4 l0 _ _ (fun y3 h4 c_h4 => ?_) FU 1 0 h c_h
  exact fro_some c_h4
def wX12_digit : List FE := []
set_option maxHeartbeats 4000000 in
theorem frX12_digit (l1 : Int32) (l2 : Int32) (l3 : Int32) (h : Hp) : FrO wX12_digit h (fX12_digit l1 l2 l3 h) := by
  have c_h : Fr wX12_digit h h := Fr.rf
  unfold fX12_digit
  refine fro_bnd (frX12_sixes ((l3 - (1 : Int32)) - l2) h) (fun _ a => a.pick [] rfl) c_h (fun x2 h1 c_h1 => ?_)
  refine fro_ck ?_
  exact fro_some c_h1
def wX12_draw : List FE := [(10, some 0, some 60)]
set_option maxHeartbeats 4000000 in
theorem frX12_draw (l1 : Int32) (h : Hp) : FrO wX12_draw h (fX12_draw l1 h) := by
  have c_h : Fr wX12_draw h h := Fr.rf
  unfold fX12_draw
  refine fro_h (fr_wr 0 rfl) c_h (fun h1 c_h1 => ?_)
  refine fro_ck ?_
  exact fro_some c_h1
def wX12_drawDeed : List FE := [(10, some 0, some 60), (63, some 0, none), (10, some 0, some 31), (10, some 0, some 30), (10, some 0, some 35), (10, some 0, some 36), (10, some 0, some 37), (57, some 0, none), (10, some 0, some 32), (56, some 0, none), (10, some 0, some 33), (10, some 0, some 34), (10, some 0, some 29), (54, some 0, none)]
set_option maxHeartbeats 4000000 in
theorem frX12_drawDeed (h : Hp) : FrO wX12_drawDeed h (fX12_drawDeed h) := by
  have c_h : Fr wX12_drawDeed h h := Fr.rf
  unfold fX12_drawDeed
  refine fro_bnd (frX12_draw 10 h) (fun _ a => a.pick [0] rfl) c_h (fun x2 h1 c_h1 => ?_)
  refine fro_if ?_ ?_
  ·
    refine fro_if ?_ ?_
    ·
      exact fro_some c_h1
    ·
      refine fro_jn (fun (k60_2 : Int32 → Hp → Option (Unit × Hp)) => ∀ (z0_2 : Int32) (h4 : Hp), Fr wX12_drawDeed h h4 → FrO wX12_drawDeed h (k60_2 z0_2 h4)) (fun z0_2 h4 c_h4 => ?_) (fun k60_2 Hk60_2 => ?_)
      ·
        refine fro_bnd (frX12_draw (rd h4 10 0 22) h4) (fun _ a => a.pick [0] rfl) c_h4 (fun x6 h5 c_h5 => ?_)
        refine fro_bnd (frX12_does z0_2 x6 h5) (fun _ a => a.pick [1, 2, 3, 4, 5, 6, 7, 8, 9, 10, 11, 12, 13] rfl) c_h5 (fun x8 h7 c_h7 => ?_)
        exact fro_some c_h7
      refine fro_if ?_ ?_
      ·
        refine fro_if ?_ ?_
        ·
          exact Hk60_2 2 h1 c_h1
        ·
          refine fro_if ?_ ?_
          ·
            exact Hk60_2 3 h1 c_h1
          ·
            exact Hk60_2 4 h1 c_h1
      ·
        exact Hk60_2 1 h1 c_h1
  ·
    refine fro_bnd (frX12_does 0 (-1) h1) (fun _ a => a.pick [1, 2, 3, 4, 5, 6, 7, 8, 9, 10, 11, 12, 13] rfl) c_h1 (fun x10 h9 c_h9 => ?_)
    exact fro_some c_h9
def wX12_ofState : List FE := []
set_option maxHeartbeats 4000000 in
theorem frX12_ofState (l1 : Int32) (h : Hp) : FrO wX12_ofState h (fX12_ofState l1 h) := by
  have c_h : Fr wX12_ofState h h := Fr.rf
  unfold fX12_ofState
  refine fro_let (fun x1 => ?_)
  refine fro_if ?_ ?_
  ·
    refine fro_if ?_ ?_
    ·
      exact fro_some c_h
    refine fro_if ?_ ?_
    ·
      exact fro_some c_h
    refine fro_if ?_ ?_
    ·
      refine fro_bnd (frX12_standNow h) (fun _ a => a.pick [] rfl) c_h (fun x6 h5 c_h5 => ?_)
      exact fro_some c_h5
    refine fro_if ?_ ?_
    ·
      exact fro_some c_h
    refine fro_if ?_ ?_
    ·
      exact fro_some c_h
    exact fro_some c_h
  ·
    refine fro_jn (fun (k49_8 : Hp → Option (Int32 × Hp)) => ∀ (h10 : Hp), Fr wX12_ofState h h10 → FrO wX12_ofState h (k49_8 h10)) (fun h10 c_h10 => ?_) (fun k49_8 Hk49_8 => ?_)
    ·
      exact fro_some c_h10
    refine fro_if ?_ ?_
    ·
      exact Hk49_8 h c_h
    ·
      refine fro_bnd (frX12_isPlate x1 h) (fun _ a => a.pick [] rfl) c_h (fun x12 h11 c_h11 => ?_)
      refine fro_if ?_ ?_
      ·
        exact Hk49_8 h11 c_h11
      ·
        refine fro_if ?_ ?_
        ·
          refine fro_ck ?_
          exact fro_some c_h11
        ·
          refine fro_ck ?_
          exact fro_some c_h11
def wX12_drawn : List FE := [(10, some 0, some 0), (10, some 0, some 21), (10, some 0, some 23), (10, some 0, some 24), (10, some 0, some 22), (10, some 0, some 25), (53, some 0, none), (54, some 0, none), (55, some 0, none), (10, some 0, some 29), (10, some 0, some 30), (10, some 0, some 31), (10, some 0, some 32), (10, some 0, some 33), (10, some 0, some 34), (10, some 0, some 35), (10, some 0, some 36), (10, some 0, some 37), (63, some 0, none), (56, some 0, none), (57, some 0, none), (10, some 0, some 60)]
set_option maxHeartbeats 4000000 in
theorem frX12_drawn_l37 (l3 : Int32) (K : Hp → Option (Int32 × Hp)) (h0 : Hp) (hK : ∀ (h : Hp), Fr wX12_drawn h0 h → FrO wX12_drawn h0 (K  h)) : ∀ (n : Nat) (l5 : Int32) (h : Hp), Fr wX12_drawn h0 h → FrO wX12_drawn h0 (itr1 (fX12_drawn_l37 l3 K) n l5 h) := by
  refine fro_itr1 ?_
  intro rec hrec l5 h c_h
  unfold fX12_drawn_l37
  refine fro_if ?_ ?_
  ·
    exact hK h c_h
  ·
    refine fro_bnd (frX12_drawDeed h) (fun _ a => a.pick [21, 18, 11, 10, 15, 16, 17, 20, 12, 19, 13, 14, 9, 7] rfl) c_h (fun _ h8 c_h8 => ?_)
    refine fro_let (fun x9 => ?_)
    exact hrec x9 h8 c_h8
set_option maxHeartbeats 4000000 in
theorem frX12_drawn (l1 : Int32) (l2 : Int32) (l3 : Int32) (l4 : Int32) (h : Hp) : FrO wX12_drawn h (fX12_drawn l1 l2 l3 l4 h) := by
  have c_h : Fr wX12_drawn h h := Fr.rf
  unfold fX12_drawn
  refine fro_h (fr_wr 0 rfl) c_h (fun h1 c_h1 => ?_)
  refine fro_bnd (frX12_in l3 0 60 h1) (fun _ a => a.pick [] rfl) c_h1 (fun x3 h2 c_h2 => ?_)
  refine fro_if ?_ ?_
  ·
    exact fro_some c_h2
  ·
    refine fro_bnd (frX12_hand l1 h2) (fun _ a => a.pick [1, 2, 3, 4, 5, 6, 7, 8] rfl) c_h2 (fun x5 h4 c_h4 => ?_)
    refine fro_if ?_ ?_
    ·
      exact fro_some c_h4
    ·
      refine fro_bnd (frX12_beginShow h4) (fun _ a => a.pick [2, 3, 4, 5, 6, 7, 8, 9, 10, 11, 12, 13, 14, 15, 16, 17, 18, 19, 20] rfl) c_h4 (fun _ h6 c_h6 => ?_)
      refine fro_h (fr_wr 21 rfl) c_h6 (fun h7 c_h7 => ?_)
      refine frX12_drawn_l37 l3 _ _ (fun h10 c_h10 => ?_) FU 0 h7 c_h7
      refine fro_bnd (frX12_ofState l4 h10) (fun _ a => a.pick [] rfl) c_h10 (fun x12 h11 c_h11 => ?_)
      exact fro_some c_h11
def wX12_ones : List FE := []
set_option maxHeartbeats 4000000 in
theorem frX12_ones_l4 (l0 : Int32) (K : Int32 → Hp → Option (Int32 × Hp)) (h0 : Hp) (hK : ∀ (y1 : Int32) (h : Hp), Fr wX12_ones h0 h → FrO wX12_ones h0 (K y1 h)) : ∀ (n : Nat) (l1 l2 : Int32) (h : Hp), Fr wX12_ones h0 h → FrO wX12_ones h0 (itr2 (fX12_ones_l4 l0 K) n l1 l2 h) := by
  refine fro_itr2 ?_
  intro rec hrec l1 l2 h c_h
  unfold fX12_ones_l4
  refine fro_if ?_ ?_
  ·
    exact hK l1 h c_h
  ·
    refine fro_bnd (frX12_has l0 l2 h) (fun _ a => a.pick [] rfl) c_h (fun x2 h1 c_h1 => ?_)
    refine fro_jn (fun (k24_2 : Int32 → Hp → Option (Int32 × Hp)) => ∀ (z0_2 : Int32) (h4 : Hp), Fr wX12_ones h0 h4 → FrO wX12_ones h0 (k24_2 z0_2 h4)) (fun z0_2 h4 c_h4 => ?_) (fun k24_2 Hk24_2 => ?_)
    ·
      refine fro_let (fun x5 => ?_)
      refine fro_let (fun x6 => ?_)
      exact hrec x5 x6 h4 c_h4
    refine fro_if ?_ ?_
    ·
      exact Hk24_2 0 h1 c_h1
    ·
      exact Hk24_2 1 h1 c_h1
set_option maxHeartbeats 4000000 in
theorem frX12_ones (l0 : Int32) (h : Hp) : FrO wX12_ones h (fX12_ones l0 h) := by
  have c_h : Fr wX12_ones h h := Fr.rf
  unfold fX12_ones
  refine frX12_ones_l4 l0 _ _ (fun y7 h8 c_h8 => ?_) FU 0 0 h c_h
  exact fro_some c_h8
def wX12_endOf : List FE := [(10, some 0, some 23), (10, some 0, some 24), (10, some 0, some 22), (10, some 0, some 25), (53, some 0, none), (54, some 0, none), (55, some 0, none), (10, some 0, some 29), (10, some 0, some 30), (10, some 0, some 31), (10, some 0, some 32), (10, some 0, some 33), (10, some 0, some 34), (10, some 0, some 35), (10, some 0, some 36), (10, some 0, some 37), (63, some 0, none), (56, some 0, none), (57, some 0, none)]
set_option maxHeartbeats 4000000 in
theorem frX12_endOf_l6 (l1 : Int32) (l2 : Int32) (K : Hp → Option (Int32 × Hp)) (h0 : Hp) (hK : ∀ (h : Hp), Fr wX12_endOf h0 h → FrO wX12_endOf h0 (K  h)) : ∀ (n : Nat) (l3 : Int32) (h : Hp), Fr wX12_endOf h0 h → FrO wX12_endOf h0 (itr1 (fX12_endOf_l6 l1 l2 K) n l3 h) := by
  refine fro_itr1 ?_
  intro rec hrec l3 h c_h
  unfold fX12_endOf_l6
  refine fro_if ?_ ?_
  ·
    exact hK h c_h
  ·
    refine fro_bnd (frX12_digit l2 l3 l1 h) (fun _ a => a.pick [] rfl) c_h (fun x3 h2 c_h2 => ?_)
    refine fro_jn (fun (k32_3 : Int32 → Hp → Option (Int32 × Hp)) => ∀ (z0_3 : Int32) (h5 : Hp), Fr wX12_endOf h0 h5 → FrO wX12_endOf h0 (k32_3 z0_3 h5)) (fun z0_3 h5 c_h5 => ?_) (fun k32_3 Hk32_3 => ?_)
    ·
      refine fro_jn (fun (k78_5 : Int32 → Hp → Option (Int32 × Hp)) => ∀ (z0_5 : Int32) (h7 : Hp), Fr wX12_endOf h0 h7 → FrO wX12_endOf h0 (k78_5 z0_5 h7)) (fun z0_5 h7 c_h7 => ?_) (fun k78_5 Hk78_5 => ?_)
      ·
        refine fro_if ?_ ?_
        ·
          exact fro_some c_h7
        ·
          refine fro_let (fun x8 => ?_)
          exact hrec x8 h7 c_h7
      refine fro_if ?_ ?_
      ·
        refine fro_jn (fun (k54_8 : Hp → Option (Int32 × Hp)) => ∀ (h10 : Hp), Fr wX12_endOf h0 h10 → FrO wX12_endOf h0 (k54_8 h10)) (fun h10 c_h10 => ?_) (fun k54_8 Hk54_8 => ?_)
        ·
          exact Hk78_5 1 h10 c_h10
        refine fro_if ?_ ?_
        ·
          refine fro_bnd (frX12_does 0 (-1) h5) (fun _ a => a.pick [16, 9, 8, 13, 14, 15, 18, 10, 17, 11, 12, 7, 5] rfl) c_h5 (fun x12 h11 c_h11 => ?_)
          refine fro_if ?_ ?_
          ·
            exact Hk78_5 0 h11 c_h11
          ·
            exact Hk54_8 h11 c_h11
        ·
          exact Hk54_8 h5 c_h5
      ·
        refine fro_jn (fun (k73_12 : Int32 → Hp → Option (Int32 × Hp)) => ∀ (z0_12 : Int32) (h14 : Hp), Fr wX12_endOf h0 h14 → FrO wX12_endOf h0 (k73_12 z0_12 h14)) (fun z0_12 h14 c_h14 => ?_) (fun k73_12 Hk73_12 => ?_)
        ·
          refine fro_bnd (frX12_does z0_12 x3 h14) (fun _ a => a.pick [16, 9, 8, 13, 14, 15, 18, 10, 17, 11, 12, 7, 5] rfl) c_h14 (fun x16 h15 c_h15 => ?_)
          exact Hk78_5 x16 h15 c_h15
        refine fro_if ?_ ?_
        ·
          exact Hk73_12 1 h5 c_h5
        ·
          exact Hk73_12 3 h5 c_h5
    refine fro_if ?_ ?_
    ·
      exact Hk32_3 1 h2 c_h2
    ·
      exact Hk32_3 0 h2 c_h2
set_option maxHeartbeats 4000000 in
theorem frX12_endOf (l1 : Int32) (l2 : Int32) (h : Hp) : FrO wX12_endOf h (fX12_endOf l1 l2 h) := by
  have c_h : Fr wX12_endOf h h := Fr.rf
  unfold fX12_endOf
  refine fro_bnd (frX12_beginShow h) (fun _ a => a.pick [0, 1, 2, 3, 4, 5, 6, 7, 8, 9, 10, 11, 12, 13, 14, 15, 16, 17, 18] rfl) c_h (fun _ h1 c_h1 => ?_)
  refine frX12_endOf_l6 l1 l2 _ _ (fun h17 c_h17 => ?_) FU 0 h1 c_h1
  refine fro_bnd (frX12_standNow h17) (fun _ a => a.pick [] rfl) c_h17 (fun x19 h18 c_h18 => ?_)
  refine fro_bnd (frX12_ones x19 h18) (fun _ a => a.pick [] rfl) c_h18 (fun x21 h20 c_h20 => ?_)
  exact fro_some c_h20
def wX12_fold : List FE := [(10, some 0, some 51)]
set_option maxHeartbeats 4000000 in
theorem frX12_fold_l10 (l1 : Int32) (l2 : Int32) (K : Int32 → Hp → Option (Int32 × Hp)) (h0 : Hp) (hK : ∀ (y3 : Int32) (h : Hp), Fr wX12_fold h0 h → FrO wX12_fold h0 (K y3 h)) : ∀ (n : Nat) (l3 l4 : Int32) (h : Hp), Fr wX12_fold h0 h → FrO wX12_fold h0 (itr2 (fX12_fold_l10 l1 l2 K) n l3 l4 h) := by
  refine fro_itr2 ?_
  intro rec hrec l3 l4 h c_h
  unfold fX12_fold_l10
  refine fro_if ?_ ?_
  ·
    exact hK l3 h c_h
  ·
    refine fro_ck ?_
    refine fro_let (fun x2 => ?_)
    refine fro_jn (fun (k67_2 : Int32 → Hp → Option (Int32 × Hp)) => ∀ (y3_2 : Int32) (h4 : Hp), Fr wX12_fold h0 h4 → FrO wX12_fold h0 (k67_2 y3_2 h4)) (fun y3_2 h4 c_h4 => ?_) (fun k67_2 Hk67_2 => ?_)
    ·
      refine fro_let (fun x5 => ?_)
      exact hrec y3_2 x5 h4 c_h4
    refine fro_if ?_ ?_
    ·
      exact Hk67_2 l3 h c_h
    ·
      refine fro_jn (fun (k58_5 : Hp → Option (Int32 × Hp)) => ∀ (h7 : Hp), Fr wX12_fold h0 h7 → FrO wX12_fold h0 (k58_5 h7)) (fun h7 c_h7 => ?_) (fun k58_5 Hk58_5 => ?_)
      ·
        refine fro_h (fr_wr 0 rfl) c_h7 (fun h8 c_h8 => ?_)
        exact Hk67_2 x2 h8 c_h8
      refine fro_if ?_ ?_
      ·
        exact Hk58_5 h c_h
      ·
        refine fro_if ?_ ?_
        ·
          refine fro_if ?_ ?_
          ·
            exact Hk67_2 l3 h c_h
          ·
            exact Hk58_5 h c_h
        ·
          refine fro_if ?_ ?_
          ·
            exact Hk67_2 l3 h c_h
          ·
            exact Hk58_5 h c_h
set_option maxHeartbeats 4000000 in
theorem frX12_fold (l1 : Int32) (l2 : Int32) (h : Hp) : FrO wX12_fold h (fX12_fold l1 l2 h) := by
  have c_h : Fr wX12_fold h h := Fr.rf
  unfold fX12_fold
  refine fro_h (fr_wr 0 rfl) c_h (fun h1 c_h1 => ?_)
  refine frX12_fold_l10 l1 l2 _ _ (fun y9 h10 c_h10 => ?_) FU (-1) 0 h1 c_h1
  exact fro_some c_h10
def wX12_duel : List FE := [(10, some 0, some 0), (10, some 0, some 21), (10, some 0, some 23), (10, some 0, some 24), (10, some 0, some 22), (10, some 0, some 25), (53, some 0, none), (54, some 0, none), (55, some 0, none), (10, some 0, some 29), (10, some 0, some 30), (10, some 0, some 31), (10, some 0, some 32), (10, some 0, some 33), (10, some 0, some 34), (10, some 0, some 35), (10, some 0, some 36), (10, some 0, some 37), (63, some 0, none), (56, some 0, none), (57, some 0, none), (64, some 0, none), (10, some 0, some 51)]
set_option maxHeartbeats 4000000 in
theorem frX12_duel_l34 (l2 : Int32) (l4 : Int32) (K : Hp → Option (Int32 × Hp)) (h0 : Hp) (hK : ∀ (h : Hp), Fr wX12_duel h0 h → FrO wX12_duel h0 (K  h)) : ∀ (n : Nat) (l5 : Int32) (h : Hp), Fr wX12_duel h0 h → FrO wX12_duel h0 (itr1 (fX12_duel_l34 l2 l4 K) n l5 h) := by
  refine fro_itr1 ?_
  intro rec hrec l5 h c_h
  unfold fX12_duel_l34
  refine fro_if ?_ ?_
  ·
    exact hK h c_h
  ·
    refine fro_bnd (frX12_endOf l2 l5 h) (fun _ a => a.pick [2, 3, 4, 5, 6, 7, 8, 9, 10, 11, 12, 13, 14, 15, 16, 17, 18, 19, 20] rfl) c_h (fun x9 h8 c_h8 => ?_)
    refine fro_ck ?_
    refine fro_h (fr_wa 21 rfl) c_h8 (fun h10 c_h10 => ?_)
    refine fro_let (fun x11 => ?_)
    exact hrec x11 h10 c_h10
set_option maxHeartbeats 4000000 in
theorem frX12_duel_l86 (l4 : Int32) (l5 : Int32) (K : Hp → Option (Int32 × Hp)) (h0 : Hp) (hK : ∀ (h : Hp), Fr wX12_duel h0 h → FrO wX12_duel h0 (K  h)) : ∀ (n : Nat) (l6 : Int32) (h : Hp), Fr wX12_duel h0 h → FrO wX12_duel h0 (itr1 (fX12_duel_l86 l4 l5 K) n l6 h) := by
  refine fro_itr1 ?_
  intro rec hrec l6 h c_h
  unfold fX12_duel_l86
  refine fro_if ?_ ?_
  ·
    exact hK h c_h
  ·
    refine fro_jn (fun (k117_15 : Int32 → Hp → Option (Int32 × Hp)) => ∀ (z0_15 : Int32) (h17 : Hp), Fr wX12_duel h0 h17 → FrO wX12_duel h0 (k117_15 z0_15 h17)) (fun z0_15 h17 c_h17 => ?_) (fun k117_15 Hk117_15 => ?_)
    ·
      refine fro_bnd (frX12_fold ((6 : Int32) * l6) z0_15 h17) (fun _ a => a.pick [22] rfl) c_h17 (fun x19 h18 c_h18 => ?_)
      refine fro_ck ?_
      refine fro_h (fr_wa 21 rfl) c_h18 (fun h20 c_h20 => ?_)
      refine fro_let (fun x21 => ?_)
      exact hrec x21 h20 c_h20
    refine fro_if ?_ ?_
    ·
      exact Hk117_15 1 h c_h
    ·
      exact Hk117_15 0 h c_h
set_option maxHeartbeats 4000000 in
theorem frX12_duel_l71 (K : Hp → Option (Int32 × Hp)) (h0 : Hp) (hK : ∀ (h : Hp), Fr wX12_duel h0 h → FrO wX12_duel h0 (K  h)) : ∀ (n : Nat) (l4 l5 : Int32) (h : Hp), Fr wX12_duel h0 h → FrO wX12_duel h0 (itr2 (fX12_duel_l71 K) n l4 l5 h) := by
  refine fro_itr2 ?_
  intro rec hrec l4 l5 h c_h
  unfold fX12_duel_l71
  refine fro_if ?_ ?_
  ·
    exact hK h c_h
  ·
    refine fro_let (fun x15 => ?_)
    refine frX12_duel_l86 x15 l5 _ _ (fun h22 c_h22 => ?_) FU 0 h c_h
    refine fro_let (fun x23 => ?_)
    exact hrec x15 x23 h22 c_h22
set_option maxHeartbeats 4000000 in
theorem frX12_duel (l1 : Int32) (l2 : Int32) (l3 : Int32) (h : Hp) : FrO wX12_duel h (fX12_duel l1 l2 l3 h) := by
  have c_h : Fr wX12_duel h h := Fr.rf
  unfold fX12_duel
  refine fro_h (fr_wr 0 rfl) c_h (fun h1 c_h1 => ?_)
  refine fro_bnd (frX12_in l2 0 3 h1) (fun _ a => a.pick [] rfl) c_h1 (fun x3 h2 c_h2 => ?_)
  refine fro_if ?_ ?_
  ·
    exact fro_some c_h2
  ·
    refine fro_bnd (frX12_hand l1 h2) (fun _ a => a.pick [1, 2, 3, 4, 5, 6, 7, 8] rfl) c_h2 (fun x5 h4 c_h4 => ?_)
    refine fro_if ?_ ?_
    ·
      exact fro_some c_h4
    ·
      refine fro_bnd (frX12_sixes l2 h4) (fun _ a => a.pick [] rfl) c_h4 (fun x7 h6 c_h6 => ?_)
      refine frX12_duel_l34 l2 x7 _ _ (fun h12 c_h12 => ?_) FU 0 h6 c_h6
      refine fro_h (fr_wr 22 rfl) c_h12 (fun h13 c_h13 => ?_)
      refine fro_let (fun x14 => ?_)
      refine frX12_duel_l71 _ _ (fun h24 c_h24 => ?_) FU x7 x14 h13 c_h13
      refine fro_if ?_ ?_
      ·
        refine fro_ck ?_
        exact fro_some c_h24
      ·
        exact fro_some c_h24
def wX12_end : List FE := [(10, some 0, some 0), (44, some 0, none)]
set_option maxHeartbeats 4000000 in
theorem frX12_end (l1 : Int32) (h : Hp) : FrO wX12_end h (fX12_end l1 h) := by
  have c_h : Fr wX12_end h h := Fr.rf
  unfold fX12_end
  refine fro_h (fr_wr 0 rfl) c_h (fun h1 c_h1 => ?_)
  refine fro_ck ?_
  refine fro_bnd (frX12_in l1 0 (ra h1 44 0 0) h1) (fun _ a => a.pick [] rfl) c_h1 (fun x3 h2 c_h2 => ?_)
  refine fro_if ?_ ?_
  ·
    exact fro_some c_h2
  ·
    refine fro_ck ?_
    refine fro_h (fr_wa 1 rfl) c_h2 (fun h4 c_h4 => ?_)
    exact fro_some c_h4
def wX12_factOf : List FE := []
set_option maxHeartbeats 4000000 in
theorem frX12_factOf (l1 : Int32) (l2 : Int32) (h : Hp) : FrO wX12_factOf h (fX12_factOf l1 l2 h) := by
  have c_h : Fr wX12_factOf h h := Fr.rf
  unfold fX12_factOf
  refine fro_ck ?_
  exact fro_some c_h
def wX12_facts : List FE := []
set_option maxHeartbeats 4000000 in
theorem frX12_facts (h : Hp) : FrO wX12_facts h (fX12_facts h) := by
  have c_h : Fr wX12_facts h h := Fr.rf
  unfold fX12_facts
  refine fro_ck ?_
  exact fro_some c_h
def wX12_fallingOf : List FE := []
set_option maxHeartbeats 4000000 in
theorem frX12_fallingOf_l18 (l2 : Int32) (K : Int32 → Hp → Option (Int32 × Hp)) (h0 : Hp) (hK : ∀ (y3 : Int32) (h : Hp), Fr wX12_fallingOf h0 h → FrO wX12_fallingOf h0 (K y3 h)) : ∀ (n : Nat) (l3 l5 : Int32) (h : Hp), Fr wX12_fallingOf h0 h → FrO wX12_fallingOf h0 (itr2 (fX12_fallingOf_l18 l2 K) n l3 l5 h) := by
  refine fro_itr2 ?_
  intro rec hrec l3 l5 h c_h
  unfold fX12_fallingOf_l18
  refine fro_if ?_ ?_
  ·
    exact hK l3 h c_h
  ·
    refine fro_jn (fun (k53_0 : Int32 → Hp → Option (Int32 × Hp)) => ∀ (z0_0 : Int32) (h2 : Hp), Fr wX12_fallingOf h0 h2 → FrO wX12_fallingOf h0 (k53_0 z0_0 h2)) (fun z0_0 h2 c_h2 => ?_) (fun k53_0 Hk53_0 => ?_)
    ·
      refine fro_bnd (frX12_has l2 l5 h2) (fun _ a => a.pick [] rfl) c_h2 (fun x4 h3 c_h3 => ?_)
      refine fro_jn (fun (k75_4 : Int32 → Hp → Option (Int32 × Hp)) => ∀ (z0_4 : Int32) (h6 : Hp), Fr wX12_fallingOf h0 h6 → FrO wX12_fallingOf h0 (k75_4 z0_4 h6)) (fun z0_4 h6 c_h6 => ?_) (fun k75_4 Hk75_4 => ?_)
      ·
        refine fro_let (fun x7 => ?_)
        exact hrec z0_4 x7 h6 c_h6
      refine fro_jn (fun (k74_7 : Hp → Option (Int32 × Hp)) => ∀ (h9 : Hp), Fr wX12_fallingOf h0 h9 → FrO wX12_fallingOf h0 (k74_7 h9)) (fun h9 c_h9 => ?_) (fun k74_7 Hk74_7 => ?_)
      ·
        exact Hk75_4 l3 h9 c_h9
      refine fro_if ?_ ?_
      ·
        refine fro_if ?_ ?_
        ·
          exact Hk74_7 h3 c_h3
        ·
          exact Hk75_4 l5 h3 c_h3
      ·
        exact Hk74_7 h3 c_h3
    refine fro_jn (fun (k48_9 : Hp → Option (Int32 × Hp)) => ∀ (h11 : Hp), Fr wX12_fallingOf h0 h11 → FrO wX12_fallingOf h0 (k48_9 h11)) (fun h11 c_h11 => ?_) (fun k48_9 Hk48_9 => ?_)
    ·
      exact Hk53_0 1 h11 c_h11
    refine fro_if ?_ ?_
    ·
      exact Hk48_9 h c_h
    ·
      refine fro_ck ?_
      refine fro_ck ?_
      refine fro_if ?_ ?_
      ·
        exact Hk53_0 0 h c_h
      ·
        exact Hk48_9 h c_h
set_option maxHeartbeats 4000000 in
theorem frX12_fallingOf_l7 (l1 : Int32) (K : Int32 → Hp → Option (Int32 × Hp)) (h0 : Hp) (hK : ∀ (y3 : Int32) (h : Hp), Fr wX12_fallingOf h0 h → FrO wX12_fallingOf h0 (K y3 h)) : ∀ (n : Nat) (l2 l3 l4 : Int32) (h : Hp), Fr wX12_fallingOf h0 h → FrO wX12_fallingOf h0 (itr3 (fX12_fallingOf_l7 l1 K) n l2 l3 l4 h) := by
  refine fro_itr3 ?_
  intro rec hrec l2 l3 l4 h c_h
  unfold fX12_fallingOf_l7
  refine fro_if ?_ ?_
  ·
    exact hK l3 h c_h
  ·
    refine frX12_fallingOf_l18 l2 _ _ (fun y12 h13 c_h13 => ?_) FU (-1) 0 h c_h
    refine fro_let (fun x14 => ?_)
    refine fro_let (fun x15 => ?_)
    exact hrec x14 y12 x15 h13 c_h13
set_option maxHeartbeats 4000000 in
theorem frX12_fallingOf (l1 : Int32) (h : Hp) : FrO wX12_fallingOf h (fX12_fallingOf l1 h) := by
  have c_h : Fr wX12_fallingOf h h := Fr.rf
  unfold fX12_fallingOf
  refine frX12_fallingOf_l7 l1 _ _ (fun y16 h17 c_h17 => ?_) FU 0 (-1) 0 h c_h
  exact fro_some c_h17
def wX12_fault : List FE := [(10, some 0, some 0)]
set_option maxHeartbeats 4000000 in
theorem frX12_fault (l1 : Int32) (h : Hp) : FrO wX12_fault h (fX12_fault l1 h) := by
  have c_h : Fr wX12_fault h h := Fr.rf
  unfold fX12_fault
  refine fro_h (fr_wr 0 rfl) c_h (fun h1 c_h1 => ?_)
  refine fro_if ?_ ?_
  ·
    refine fro_ck ?_
    exact fro_some c_h1
  ·
    refine fro_if ?_ ?_
    ·
      refine fro_ck ?_
      exact fro_some c_h1
    ·
      exact fro_some c_h1
def wX12_four : List FE := [(43, some 0, none), (44, some 0, none)]
set_option maxHeartbeats 4000000 in
theorem frX12_four_l3 (l1 : Int32) (K : Hp → Option (Unit × Hp)) (h0 : Hp) (hK : ∀ (h : Hp), Fr wX12_four h0 h → FrO wX12_four h0 (K  h)) : ∀ (n : Nat) (l2 : Int32) (h : Hp), Fr wX12_four h0 h → FrO wX12_four h0 (itr1 (fX12_four_l3 l1 K) n l2 h) := by
  refine fro_itr1 ?_
  intro rec hrec l2 h c_h
  unfold fX12_four_l3
  refine fro_if ?_ ?_
  ·
    exact hK h c_h
  ·
    refine fro_ck ?_
    refine fro_ck ?_
    refine fro_h (fr_wa 0 rfl) c_h (fun h1 c_h1 => ?_)
    refine fro_ck ?_
    refine fro_ck ?_
    refine fro_h (fr_wa 1 rfl) c_h1 (fun h2 c_h2 => ?_)
    refine fro_let (fun x3 => ?_)
    exact hrec x3 h2 c_h2
set_option maxHeartbeats 4000000 in
theorem frX12_four (l1 : Int32) (h : Hp) : FrO wX12_four h (fX12_four l1 h) := by
  have c_h : Fr wX12_four h h := Fr.rf
  unfold fX12_four
  refine frX12_four_l3 l1 _ _ (fun h4 c_h4 => ?_) FU 24 h c_h
  exact fro_some c_h4
def wX12_feed : List FE := [(10, some 0, some 0), (43, some 0, none), (44, some 0, none)]
set_option maxHeartbeats 4000000 in
theorem frX12_feed (l1 : Int32) (l2 : Int32) (l3 : Int32) (l4 : Int32) (l5 : Int32) (h : Hp) : FrO wX12_feed h (fX12_feed l1 l2 l3 l4 l5 h) := by
  have c_h : Fr wX12_feed h h := Fr.rf
  unfold fX12_feed
  refine fro_h (fr_wr 0 rfl) c_h (fun h1 c_h1 => ?_)
  refine fro_ck ?_
  refine fro_if ?_ ?_
  ·
    refine fro_bnd (frX12_four l1 h1) (fun _ a => a.pick [1, 2] rfl) c_h1 (fun _ h2 c_h2 => ?_)
    refine fro_bnd (frX12_four l2 h2) (fun _ a => a.pick [1, 2] rfl) c_h2 (fun _ h3 c_h3 => ?_)
    refine fro_bnd (frX12_four l3 h3) (fun _ a => a.pick [1, 2] rfl) c_h3 (fun _ h4 c_h4 => ?_)
    refine fro_bnd (frX12_four l4 h4) (fun _ a => a.pick [1, 2] rfl) c_h4 (fun _ h5 c_h5 => ?_)
    refine fro_bnd (frX12_four l5 h5) (fun _ a => a.pick [1, 2] rfl) c_h5 (fun _ h6 c_h6 => ?_)
    refine fro_ck ?_
    exact fro_some c_h6
  ·
    exact fro_some c_h1
def wX12_times : List FE := []
set_option maxHeartbeats 4000000 in
theorem frX12_times_l4 (l0 : Int32) (l1 : Int32) (K : Int32 → Hp → Option (Int32 × Hp)) (h0 : Hp) (hK : ∀ (y2 : Int32) (h : Hp), Fr wX12_times h0 h → FrO wX12_times h0 (K y2 h)) : ∀ (n : Nat) (l2 l3 : Int32) (h : Hp), Fr wX12_times h0 h → FrO wX12_times h0 (itr2 (fX12_times_l4 l0 l1 K) n l2 l3 h) := by
  refine fro_itr2 ?_
  intro rec hrec l2 l3 h c_h
  unfold fX12_times_l4
  refine fro_if ?_ ?_
  ·
    exact hK l2 h c_h
  ·
    refine fro_let (fun x1 => ?_)
    refine fro_let (fun x2 => ?_)
    exact hrec x1 x2 h c_h
set_option maxHeartbeats 4000000 in
theorem frX12_times (l0 : Int32) (l1 : Int32) (h : Hp) : FrO wX12_times h (fX12_times l0 l1 h) := by
  have c_h : Fr wX12_times h h := Fr.rf
  unfold fX12_times
  refine frX12_times_l4 l0 l1 _ _ (fun y3 h4 c_h4 => ?_) FU 1 0 h c_h
  exact fro_some c_h4
def wX12_fives : List FE := []
set_option maxHeartbeats 4000000 in
theorem frX12_fives (l1 : Int32) (h : Hp) : FrO wX12_fives h (fX12_fives l1 h) := by
  have c_h : Fr wX12_fives h h := Fr.rf
  unfold fX12_fives
  refine fro_bnd (frX12_times 5 l1 h) (fun _ a => a.pick [] rfl) c_h (fun x2 h1 c_h1 => ?_)
  exact fro_some c_h1
def wX12_isSo : List FE := []
set_option maxHeartbeats 4000000 in
theorem frX12_isSo_l2 (K : Hp → Option (Int32 × Hp)) (h0 : Hp) (hK : ∀ (h : Hp), Fr wX12_isSo h0 h → FrO wX12_isSo h0 (K  h)) : ∀ (n : Nat) (l1 : Int32) (h : Hp), Fr wX12_isSo h0 h → FrO wX12_isSo h0 (itr1 (fX12_isSo_l2 K) n l1 h) := by
  refine fro_itr1 ?_
  intro rec hrec l1 h c_h
  unfold fX12_isSo_l2
  refine fro_bnd (frX12_facts h) (fun _ a => a.pick [] rfl) c_h (fun x2 h1 c_h1 => ?_)
  refine fro_if ?_ ?_
  ·
    exact hK h1 c_h1
  ·
    refine fro_bnd (frX12_factOf l1 1 h1) (fun _ a => a.pick [] rfl) c_h1 (fun x4 h3 c_h3 => ?_)
    refine fro_bnd (frX12_isPlate x4 h3) (fun _ a => a.pick [] rfl) c_h3 (fun x6 h5 c_h5 => ?_)
    refine fro_if ?_ ?_
    ·
      refine fro_ck ?_
      exact fro_some c_h5
    ·
      refine fro_bnd (frX12_factOf l1 2 h5) (fun _ a => a.pick [] rfl) c_h5 (fun x8 h7 c_h7 => ?_)
      refine fro_ck ?_
      refine fro_bnd (frX12_has (ra h7 57 0 x8) x4 h7) (fun _ a => a.pick [] rfl) c_h7 (fun x10 h9 c_h9 => ?_)
      refine fro_bnd (frX12_factOf l1 0 h9) (fun _ a => a.pick [] rfl) c_h9 (fun x12 h11 c_h11 => ?_)
      refine fro_jn (fun (k55_12 : Int32 → Hp → Option (Int32 × Hp)) => ∀ (z0_12 : Int32) (h14 : Hp), Fr wX12_isSo h0 h14 → FrO wX12_isSo h0 (k55_12 z0_12 h14)) (fun z0_12 h14 c_h14 => ?_) (fun k55_12 Hk55_12 => ?_)
      ·
        refine fro_if ?_ ?_
        ·
          refine fro_let (fun x15 => ?_)
          exact hrec x15 h14 c_h14
        ·
          refine fro_ck ?_
          exact fro_some c_h14
      refine fro_if ?_ ?_
      ·
        exact Hk55_12 1 h11 c_h11
      ·
        exact Hk55_12 0 h11 c_h11
set_option maxHeartbeats 4000000 in
theorem frX12_isSo (h : Hp) : FrO wX12_isSo h (fX12_isSo h) := by
  have c_h : Fr wX12_isSo h h := Fr.rf
  unfold fX12_isSo
  refine frX12_isSo_l2 _ _ (fun h16 c_h16 => ?_) FU 0 h c_h
  refine fro_ck ?_
  exact fro_some c_h16
def wX12_runs : List FE := []
set_option maxHeartbeats 4000000 in
theorem frX12_runs (h : Hp) : FrO wX12_runs h (fX12_runs h) := by
  have c_h : Fr wX12_runs h h := Fr.rf
  unfold fX12_runs
  refine fro_ck ?_
  exact fro_some c_h
def wX12_rowCode : List FE := []
set_option maxHeartbeats 4000000 in
theorem frX12_rowCode_l4 (l1 : Int32) (K : Int32 → Hp → Option (Int32 × Hp)) (h0 : Hp) (hK : ∀ (y2 : Int32) (h : Hp), Fr wX12_rowCode h0 h → FrO wX12_rowCode h0 (K y2 h)) : ∀ (n : Nat) (l2 l3 : Int32) (h : Hp), Fr wX12_rowCode h0 h → FrO wX12_rowCode h0 (itr2 (fX12_rowCode_l4 l1 K) n l2 l3 h) := by
  refine fro_itr2 ?_
  intro rec hrec l2 l3 h c_h
  unfold fX12_rowCode_l4
  refine fro_bnd (frX12_runs h) (fun _ a => a.pick [] rfl) c_h (fun x2 h1 c_h1 => ?_)
  refine fro_if ?_ ?_
  ·
    exact hK l2 h1 c_h1
  ·
    refine fro_bnd (frX12_runs h1) (fun _ a => a.pick [] rfl) c_h1 (fun x4 h3 c_h3 => ?_)
    refine fro_bnd (frX12_fives ((x4 - (1 : Int32)) - l3) h3) (fun _ a => a.pick [] rfl) c_h3 (fun x6 h5 c_h5 => ?_)
    refine fro_ck ?_
    refine fro_let (fun x7 => ?_)
    refine fro_let (fun x8 => ?_)
    exact hrec x7 x8 h5 c_h5
set_option maxHeartbeats 4000000 in
theorem frX12_rowCode (l1 : Int32) (h : Hp) : FrO wX12_rowCode h (fX12_rowCode l1 h) := by
  have c_h : Fr wX12_rowCode h h := Fr.rf
  unfold fX12_rowCode
  refine frX12_rowCode_l4 l1 _ _ (fun y9 h10 c_h10 => ?_) FU 1 0 h c_h
  exact fro_some c_h10
def wX12_noteFit : List FE := [(10, some 0, some 54), (10, some 0, some 55), (10, some 0, some 56), (10, some 0, some 57), (10, some 0, some 53), (65, some 0, none), (66, some 0, none)]
set_option maxHeartbeats 4000000 in
theorem frX12_noteFit_l74 (l1 : Int32) (K : Hp → Option (Unit × Hp)) (h0 : Hp) (hK : ∀ (h : Hp), Fr wX12_noteFit h0 h → FrO wX12_noteFit h0 (K  h)) : ∀ (n : Nat) (l5 : Int32) (h : Hp), Fr wX12_noteFit h0 h → FrO wX12_noteFit h0 (itr1 (fX12_noteFit_l74 l1 K) n l5 h) := by
  refine fro_itr1 ?_
  intro rec hrec l5 h c_h
  unfold fX12_noteFit_l74
  refine fro_bnd (frX12_runs h) (fun _ a => a.pick [] rfl) c_h (fun x15 h14 c_h14 => ?_)
  refine fro_if ?_ ?_
  ·
    exact hK h14 c_h14
  ·
    refine fro_ck ?_
    refine fro_bnd (frX12_runs h14) (fun _ a => a.pick [] rfl) c_h14 (fun x17 h16 c_h16 => ?_)
    refine fro_bnd (frX12_fives ((x17 - (1 : Int32)) - l5) h16) (fun _ a => a.pick [] rfl) c_h16 (fun x19 h18 c_h18 => ?_)
    refine fro_ck ?_
    refine fro_ck ?_
    refine fro_h (fr_wa 5 rfl) c_h18 (fun h20 c_h20 => ?_)
    refine fro_let (fun x21 => ?_)
    exact hrec x21 h20 c_h20
set_option maxHeartbeats 4000000 in
theorem frX12_noteFit_l121 (K : Hp → Option (Unit × Hp)) (h0 : Hp) (hK : ∀ (h : Hp), Fr wX12_noteFit h0 h → FrO wX12_noteFit h0 (K  h)) : ∀ (n : Nat) (l5 : Int32) (h : Hp), Fr wX12_noteFit h0 h → FrO wX12_noteFit h0 (itr1 (fX12_noteFit_l121 K) n l5 h) := by
  refine fro_itr1 ?_
  intro rec hrec l5 h c_h
  unfold fX12_noteFit_l121
  refine fro_if ?_ ?_
  ·
    exact hK h c_h
  ·
    refine fro_ck ?_
    refine fro_ck ?_
    refine fro_bnd (frX12_has (ra h 57 0 (l5 / 5)) (irm l5 5) h) (fun _ a => a.pick [] rfl) c_h (fun x24 h23 c_h23 => ?_)
    refine fro_jn (fun (k160_24 : Int32 → Hp → Option (Unit × Hp)) => ∀ (z0_24 : Int32) (h26 : Hp), Fr wX12_noteFit h0 h26 → FrO wX12_noteFit h0 (k160_24 z0_24 h26)) (fun z0_24 h26 c_h26 => ?_) (fun k160_24 Hk160_24 => ?_)
    ·
      refine fro_ck ?_
      refine fro_h (fr_wa 6 rfl) c_h26 (fun h27 c_h27 => ?_)
      refine fro_let (fun x28 => ?_)
      exact hrec x28 h27 c_h27
    refine fro_if ?_ ?_
    ·
      exact Hk160_24 0 h23 c_h23
    ·
      exact Hk160_24 1 h23 c_h23
set_option maxHeartbeats 4000000 in
theorem frX12_noteFit (l1 : Int32) (l2 : Int32) (l3 : Int32) (l4 : Int32) (h : Hp) : FrO wX12_noteFit h (fX12_noteFit l1 l2 l3 l4 h) := by
  have c_h : Fr wX12_noteFit h h := Fr.rf
  unfold fX12_noteFit
  refine fro_jn (fun (k21_0 : Int32 → Hp → Option (Unit × Hp)) => ∀ (z0_0 : Int32) (h2 : Hp), Fr wX12_noteFit h h2 → FrO wX12_noteFit h (k21_0 z0_0 h2)) (fun z0_0 h2 c_h2 => ?_) (fun k21_0 Hk21_0 => ?_)
  ·
    refine fro_h (fr_wr 0 rfl) c_h2 (fun h3 c_h3 => ?_)
    refine fro_bnd (frX12_lesser (rd h3 10 0 55) l3 h3) (fun _ a => a.pick [] rfl) c_h3 (fun x5 h4 c_h4 => ?_)
    refine fro_h (fr_wr 1 rfl) c_h4 (fun h6 c_h6 => ?_)
    refine fro_bnd (frX12_greater (rd h6 10 0 56) l3 h6) (fun _ a => a.pick [] rfl) c_h6 (fun x8 h7 c_h7 => ?_)
    refine fro_h (fr_wr 2 rfl) c_h7 (fun h9 c_h9 => ?_)
    refine fro_bnd (frX12_greater (rd h9 10 0 57) l4 h9) (fun _ a => a.pick [] rfl) c_h9 (fun x11 h10 c_h10 => ?_)
    refine fro_h (fr_wr 3 rfl) c_h10 (fun h12 c_h12 => ?_)
    refine fro_h (fr_wr 4 rfl) c_h12 (fun h13 c_h13 => ?_)
    refine frX12_noteFit_l74 l1 _ _ (fun h22 c_h22 => ?_) FU 0 h13 c_h13
    refine frX12_noteFit_l121 _ _ (fun h29 c_h29 => ?_) FU 0 h22 c_h22
    exact fro_some c_h29
  refine fro_if ?_ ?_
  ·
    refine fro_bnd (frX12_rowCode l1 h) (fun _ a => a.pick [] rfl) c_h (fun x31 h30 c_h30 => ?_)
    exact Hk21_0 x31 h30 c_h30
  ·
    exact Hk21_0 (rd h 10 0 54) h c_h
def wX12_runsAll : List FE := [(10, some 0, some 23), (10, some 0, some 24), (10, some 0, some 22), (10, some 0, some 25), (53, some 0, none), (54, some 0, none), (55, some 0, none), (10, some 0, some 29), (10, some 0, some 30), (10, some 0, some 31), (10, some 0, some 32), (10, some 0, some 33), (10, some 0, some 34), (10, some 0, some 35), (10, some 0, some 36), (10, some 0, some 37), (63, some 0, none), (56, some 0, none), (57, some 0, none)]
set_option maxHeartbeats 4000000 in
theorem frX12_runsAll_l6 (l1 : Int32) (K : Hp → Option (Int32 × Hp)) (h0 : Hp) (hK : ∀ (h : Hp), Fr wX12_runsAll h0 h → FrO wX12_runsAll h0 (K  h)) : ∀ (n : Nat) (l2 : Int32) (h : Hp), Fr wX12_runsAll h0 h → FrO wX12_runsAll h0 (itr1 (fX12_runsAll_l6 l1 K) n l2 h) := by
  refine fro_itr1 ?_
  intro rec hrec l2 h c_h
  unfold fX12_runsAll_l6
  refine fro_bnd (frX12_runs h) (fun _ a => a.pick [] rfl) c_h (fun x3 h2 c_h2 => ?_)
  refine fro_if ?_ ?_
  ·
    exact hK h2 c_h2
  ·
    refine fro_bnd (frX12_runs h2) (fun _ a => a.pick [] rfl) c_h2 (fun x5 h4 c_h4 => ?_)
    refine fro_bnd (frX12_fives ((x5 - (1 : Int32)) - l2) h4) (fun _ a => a.pick [] rfl) c_h4 (fun x7 h6 c_h6 => ?_)
    refine fro_ck ?_
    refine fro_let (fun x8 => ?_)
    refine fro_bnd (frX12_isPlate x8 h6) (fun _ a => a.pick [] rfl) c_h6 (fun x10 h9 c_h9 => ?_)
    refine fro_if ?_ ?_
    ·
      refine fro_ck ?_
      exact fro_some c_h9
    ·
      refine fro_bnd (frX12_run x8 h9) (fun _ a => a.pick [16, 9, 8, 13, 14, 15, 18, 10, 17, 11, 12, 7] rfl) c_h9 (fun x12 h11 c_h11 => ?_)
      refine fro_if ?_ ?_
      ·
        refine fro_ck ?_
        exact fro_some c_h11
      ·
        refine fro_let (fun x13 => ?_)
        exact hrec x13 h11 c_h11
set_option maxHeartbeats 4000000 in
theorem frX12_runsAll (l1 : Int32) (h : Hp) : FrO wX12_runsAll h (fX12_runsAll l1 h) := by
  have c_h : Fr wX12_runsAll h h := Fr.rf
  unfold fX12_runsAll
  refine fro_bnd (frX12_beginShow h) (fun _ a => a.pick [0, 1, 2, 3, 4, 5, 6, 7, 8, 9, 10, 11, 12, 13, 14, 15, 16, 17, 18] rfl) c_h (fun _ h1 c_h1 => ?_)
  refine frX12_runsAll_l6 l1 _ _ (fun h14 c_h14 => ?_) FU 0 h1 c_h1
  refine fro_ck ?_
  exact fro_some c_h14
def wX12_findRows : List FE := [(10, some 0, some 53), (10, some 0, some 54), (10, some 0, some 55), (10, some 0, some 56), (10, some 0, some 57), (65, some 0, none), (66, some 0, none), (10, some 0, some 23), (10, some 0, some 24), (10, some 0, some 22), (10, some 0, some 25), (53, some 0, none), (54, some 0, none), (55, some 0, none), (10, some 0, some 29), (10, some 0, some 30), (10, some 0, some 31), (10, some 0, some 32), (10, some 0, some 33), (10, some 0, some 34), (10, some 0, some 35), (10, some 0, some 36), (10, some 0, some 37), (63, some 0, none), (56, some 0, none), (57, some 0, none)]
set_option maxHeartbeats 4000000 in
theorem frX12_findRows_l30 (K : Hp → Option (Unit × Hp)) (h0 : Hp) (hK : ∀ (h : Hp), Fr wX12_findRows h0 h → FrO wX12_findRows h0 (K  h)) : ∀ (n : Nat) (l2 : Int32) (h : Hp), Fr wX12_findRows h0 h → FrO wX12_findRows h0 (itr1 (fX12_findRows_l30 K) n l2 h) := by
  refine fro_itr1 ?_
  intro rec hrec l2 h c_h
  unfold fX12_findRows_l30
  refine fro_if ?_ ?_
  ·
    exact hK h c_h
  ·
    refine fro_ck ?_
    refine fro_h (fr_wa 5 rfl) c_h (fun h6 c_h6 => ?_)
    refine fro_let (fun x7 => ?_)
    exact hrec x7 h6 c_h6
set_option maxHeartbeats 4000000 in
theorem frX12_findRows_l50 (K : Hp → Option (Unit × Hp)) (h0 : Hp) (hK : ∀ (h : Hp), Fr wX12_findRows h0 h → FrO wX12_findRows h0 (K  h)) : ∀ (n : Nat) (l2 : Int32) (h : Hp), Fr wX12_findRows h0 h → FrO wX12_findRows h0 (itr1 (fX12_findRows_l50 K) n l2 h) := by
  refine fro_itr1 ?_
  intro rec hrec l2 h c_h
  unfold fX12_findRows_l50
  refine fro_if ?_ ?_
  ·
    exact hK h c_h
  ·
    refine fro_ck ?_
    refine fro_h (fr_wa 6 rfl) c_h (fun h9 c_h9 => ?_)
    refine fro_let (fun x10 => ?_)
    exact hrec x10 h9 c_h9
set_option maxHeartbeats 4000000 in
theorem frX12_findRows_l105 (K : Hp → Option (Unit × Hp)) (h0 : Hp) (hK : ∀ (h : Hp), Fr wX12_findRows h0 h → FrO wX12_findRows h0 (K  h)) : ∀ (n : Nat) (h : Hp), Fr wX12_findRows h0 h → FrO wX12_findRows h0 (itr0 (fX12_findRows_l105 K) n  h) := by
  refine fro_itr0 ?_
  intro rec hrec  h c_h
  unfold fX12_findRows_l105
  refine fro_if ?_ ?_
  ·
    exact hK h c_h
  ·
    refine fro_bnd (frX12_beat (-1) h) (fun _ a => a.pick [23, 16, 15, 20, 21, 22, 25] rfl) c_h (fun _ h26 c_h26 => ?_)
    exact hrec h26 c_h26
set_option maxHeartbeats 4000000 in
theorem frX12_findRows_l71 (l1 : Int32) (K : Hp → Option (Unit × Hp)) (h0 : Hp) (hK : ∀ (h : Hp), Fr wX12_findRows h0 h → FrO wX12_findRows h0 (K  h)) : ∀ (n : Nat) (l2 : Int32) (h : Hp), Fr wX12_findRows h0 h → FrO wX12_findRows h0 (itr1 (fX12_findRows_l71 l1 K) n l2 h) := by
  refine fro_itr1 ?_
  intro rec hrec l2 h c_h
  unfold fX12_findRows_l71
  refine fro_bnd (frX12_runs h) (fun _ a => a.pick [] rfl) c_h (fun x13 h12 c_h12 => ?_)
  refine fro_bnd (frX12_fives x13 h12) (fun _ a => a.pick [] rfl) c_h12 (fun x15 h14 c_h14 => ?_)
  refine fro_if ?_ ?_
  ·
    exact hK h14 c_h14
  ·
    refine fro_bnd (frX12_runsAll l2 h14) (fun _ a => a.pick [7, 8, 9, 10, 11, 12, 13, 14, 15, 16, 17, 18, 19, 20, 21, 22, 23, 24, 25] rfl) c_h14 (fun x17 h16 c_h16 => ?_)
    refine fro_jn (fun (k138_17 : Hp → Option (Unit × Hp)) => ∀ (h19 : Hp), Fr wX12_findRows h0 h19 → FrO wX12_findRows h0 (k138_17 h19)) (fun h19 c_h19 => ?_) (fun k138_17 Hk138_17 => ?_)
    ·
      refine fro_let (fun x20 => ?_)
      exact hrec x20 h19 c_h19
    refine fro_if ?_ ?_
    ·
      exact Hk138_17 h16 c_h16
    ·
      refine fro_let (fun x21 => ?_)
      refine fro_bnd (frX12_standNow h16) (fun _ a => a.pick [] rfl) c_h16 (fun x23 h22 c_h22 => ?_)
      refine fro_bnd (frX12_ones x23 h22) (fun _ a => a.pick [] rfl) c_h22 (fun x25 h24 c_h24 => ?_)
      refine frX12_findRows_l105 _ _ (fun h27 c_h27 => ?_) FU h24 c_h24
      refine fro_bnd (frX12_isSo h27) (fun _ a => a.pick [] rfl) c_h27 (fun x29 h28 c_h28 => ?_)
      refine fro_if ?_ ?_
      ·
        exact Hk138_17 h28 c_h28
      ·
        refine fro_bnd (frX12_noteFit l2 l1 x21 x25 h28) (fun _ a => a.pick [1, 2, 3, 4, 0, 5, 6] rfl) c_h28 (fun _ h30 c_h30 => ?_)
        exact Hk138_17 h30 c_h30
set_option maxHeartbeats 4000000 in
theorem frX12_findRows (l1 : Int32) (h : Hp) : FrO wX12_findRows h (fX12_findRows l1 h) := by
  have c_h : Fr wX12_findRows h h := Fr.rf
  unfold fX12_findRows
  refine fro_h (fr_wr 0 rfl) c_h (fun h1 c_h1 => ?_)
  refine fro_h (fr_wr 1 rfl) c_h1 (fun h2 c_h2 => ?_)
  refine fro_h (fr_wr 2 rfl) c_h2 (fun h3 c_h3 => ?_)
  refine fro_h (fr_wr 3 rfl) c_h3 (fun h4 c_h4 => ?_)
  refine fro_h (fr_wr 4 rfl) c_h4 (fun h5 c_h5 => ?_)
  refine frX12_findRows_l30 _ _ (fun h8 c_h8 => ?_) FU 0 h5 c_h5
  refine frX12_findRows_l50 _ _ (fun h11 c_h11 => ?_) FU 0 h8 c_h8
  refine frX12_findRows_l71 l1 _ _ (fun h31 c_h31 => ?_) FU 0 h11 c_h11
  exact fro_some c_h31
def wX12_hasLog : List FE := [(10, some 0, some 52)]
set_option maxHeartbeats 4000000 in
theorem frX12_hasLog (l1 : Int32) (h : Hp) : FrO wX12_hasLog h (fX12_hasLog l1 h) := by
  have c_h : Fr wX12_hasLog h h := Fr.rf
  unfold fX12_hasLog
  refine fro_h (fr_wr 0 rfl) c_h (fun h1 c_h1 => ?_)
  refine fro_bnd (frX12_is 2 l1 h1) (fun _ a => a.pick [] rfl) c_h1 (fun x3 h2 c_h2 => ?_)
  refine fro_ck ?_
  exact fro_some c_h2
def wX12_sure : List FE := []
set_option maxHeartbeats 4000000 in
theorem frX12_sure_l2 (l1 : Int32) (K : Hp → Option (Int32 × Hp)) (h0 : Hp) (hK : ∀ (h : Hp), Fr wX12_sure h0 h → FrO wX12_sure h0 (K  h)) : ∀ (n : Nat) (l2 : Int32) (h : Hp), Fr wX12_sure h0 h → FrO wX12_sure h0 (itr1 (fX12_sure_l2 l1 K) n l2 h) := by
  refine fro_itr1 ?_
  intro rec hrec l2 h c_h
  unfold fX12_sure_l2
  refine fro_if ?_ ?_
  ·
    exact hK h c_h
  ·
    refine fro_ck ?_
    refine fro_if ?_ ?_
    ·
      exact fro_some c_h
    ·
      refine fro_let (fun x1 => ?_)
      exact hrec x1 h c_h
set_option maxHeartbeats 4000000 in
theorem frX12_sure (l1 : Int32) (h : Hp) : FrO wX12_sure h (fX12_sure l1 h) := by
  have c_h : Fr wX12_sure h h := Fr.rf
  unfold fX12_sure
  refine frX12_sure_l2 l1 _ _ (fun h2 c_h2 => ?_) FU 0 h c_h
  exact fro_some c_h2
def wX12_fits : List FE := [(10, some 0, some 0), (10, some 0, some 52), (10, some 0, some 21), (10, some 0, some 23), (10, some 0, some 24), (10, some 0, some 22), (10, some 0, some 25), (53, some 0, none), (54, some 0, none), (55, some 0, none), (10, some 0, some 53), (10, some 0, some 54), (10, some 0, some 55), (10, some 0, some 56), (10, some 0, some 57), (65, some 0, none), (66, some 0, none), (10, some 0, some 29), (10, some 0, some 30), (10, some 0, some 31), (10, some 0, some 32), (10, some 0, some 33), (10, some 0, some 34), (10, some 0, some 35), (10, some 0, some 36), (10, some 0, some 37), (63, some 0, none), (56, some 0, none), (57, some 0, none)]
set_option maxHeartbeats 4000000 in
theorem frX12_fits (l1 : Int32) (l2 : Int32) (l3 : Int32) (h : Hp) : FrO wX12_fits h (fX12_fits l1 l2 l3 h) := by
  have c_h : Fr wX12_fits h h := Fr.rf
  unfold fX12_fits
  refine fro_h (fr_wr 0 rfl) c_h (fun h1 c_h1 => ?_)
  refine fro_bnd (frX12_hasLog l2 h1) (fun _ a => a.pick [1] rfl) c_h1 (fun x3 h2 c_h2 => ?_)
  refine fro_if ?_ ?_
  ·
    exact fro_some c_h2
  ·
    refine fro_bnd (frX12_hand l1 h2) (fun _ a => a.pick [2, 3, 4, 5, 6, 7, 8, 9] rfl) c_h2 (fun x5 h4 c_h4 => ?_)
    refine fro_if ?_ ?_
    ·
      exact fro_some c_h4
    ·
      refine fro_bnd (frX12_findRows (l3 - (10 : Int32)) h4) (fun _ a => a.pick [10, 11, 12, 13, 14, 15, 16, 3, 4, 5, 6, 7, 8, 9, 17, 18, 19, 20, 21, 22, 23, 24, 25, 26, 27, 28] rfl) c_h4 (fun _ h6 c_h6 => ?_)
      refine fro_if ?_ ?_
      ·
        refine fro_bnd (frX12_in l3 2 5 h6) (fun _ a => a.pick [] rfl) c_h6 (fun x8 h7 c_h7 => ?_)
        refine fro_if ?_ ?_
        ·
          refine fro_if ?_ ?_
          ·
            exact fro_some c_h7
          ·
            refine fro_if ?_ ?_
            ·
              refine fro_bnd (frX12_askWhat h7) (fun _ a => a.pick [] rfl) c_h7 (fun x10 h9 c_h9 => ?_)
              exact fro_some c_h9
            ·
              exact fro_some c_h7
        ·
          refine fro_bnd (frX12_sure (l3 - (2 : Int32)) h7) (fun _ a => a.pick [] rfl) c_h7 (fun x12 h11 c_h11 => ?_)
          exact fro_some c_h11
      ·
        exact fro_some c_h6
def wX12_image : List FE := [(10, some 0, some 0), (43, some 0, none), (44, some 0, none), (45, some 0, none), (46, some 0, none), (47, some 0, none), (48, some 0, none), (49, some 0, none), (50, some 0, none), (67, some 0, none)]
set_option maxHeartbeats 4000000 in
theorem frX12_image (l1 : Int32) (h : Hp) : FrO wX12_image h (fX12_image l1 h) := by
  have c_h : Fr wX12_image h h := Fr.rf
  unfold fX12_image
  refine fro_h (fr_wr 0 rfl) c_h (fun h1 c_h1 => ?_)
  refine fro_bnd (frX12_in l1 0 2 h1) (fun _ a => a.pick [] rfl) c_h1 (fun x3 h2 c_h2 => ?_)
  refine fro_if ?_ ?_
  ·
    refine fro_ck ?_
    exact fro_some c_h2
  ·
    refine fro_bnd (frX12_copyAll 0 (l1 + (1 : Int32)) h2) (fun _ a => a.pick [1, 2, 3, 4, 5, 6, 7, 8] rfl) c_h2 (fun _ h4 c_h4 => ?_)
    refine fro_ck ?_
    refine fro_h (fr_wa 9 rfl) c_h4 (fun h5 c_h5 => ?_)
    refine fro_ck ?_
    exact fro_some c_h5
def wX12_inRow : List FE := [(10, some 0, some 47), (63, some 0, none)]
set_option maxHeartbeats 4000000 in
theorem frX12_inRow_l6 (K : Int32 → Hp → Option (Int32 × Hp)) (h0 : Hp) (hK : ∀ (y1 : Int32) (h : Hp), Fr wX12_inRow h0 h → FrO wX12_inRow h0 (K y1 h)) : ∀ (n : Nat) (l1 : Int32) (h : Hp), Fr wX12_inRow h0 h → FrO wX12_inRow h0 (itr1 (fX12_inRow_l6 K) n l1 h) := by
  refine fro_itr1 ?_
  intro rec hrec l1 h c_h
  unfold fX12_inRow_l6
  refine fro_if ?_ ?_
  ·
    exact hK l1 h c_h
  ·
    refine fro_if ?_ ?_
    ·
      exact hK l1 h c_h
    ·
      refine fro_ck ?_
      refine fro_bnd (frX12_isKept (irm l1 (rd h 10 0 22)) h) (fun _ a => a.pick [] rfl) c_h (fun x3 h2 c_h2 => ?_)
      refine fro_if ?_ ?_
      ·
        exact hK l1 h2 c_h2
      ·
        refine fro_ck ?_
        refine fro_bnd (frX12_behindRun (irm l1 (rd h2 10 0 22)) h2) (fun _ a => a.pick [1, 0] rfl) c_h2 (fun x5 h4 c_h4 => ?_)
        refine fro_let (fun x6 => ?_)
        exact hrec x6 h4 c_h4
set_option maxHeartbeats 4000000 in
theorem frX12_inRow (h : Hp) : FrO wX12_inRow h (fX12_inRow h) := by
  have c_h : Fr wX12_inRow h h := Fr.rf
  unfold fX12_inRow
  refine fro_bnd (frX12_openFirst h) (fun _ a => a.pick [0, 1] rfl) c_h (fun _ h1 c_h1 => ?_)
  refine frX12_inRow_l6 _ _ (fun y7 h8 c_h8 => ?_) FU 0 h1 c_h1
  exact fro_some c_h8
def wX12_nextRun : List FE := [(10, some 0, some 47), (63, some 0, none)]
set_option maxHeartbeats 4000000 in
theorem frX12_nextRun_l37 (l1 : Int32) (K : Int32 → Hp → Option (Int32 × Hp)) (h0 : Hp) (hK : ∀ (y2 : Int32) (h : Hp), Fr wX12_nextRun h0 h → FrO wX12_nextRun h0 (K y2 h)) : ∀ (n : Nat) (l2 : Int32) (h : Hp), Fr wX12_nextRun h0 h → FrO wX12_nextRun h0 (itr1 (fX12_nextRun_l37 l1 K) n l2 h) := by
  refine fro_itr1 ?_
  intro rec hrec l2 h c_h
  unfold fX12_nextRun_l37
  refine fro_if ?_ ?_
  ·
    exact fro_some c_h
  ·
    refine fro_ck ?_
    refine fro_bnd (frX12_open (ra h 58 0 l1) h) (fun _ a => a.pick [0, 1] rfl) c_h (fun _ h4 c_h4 => ?_)
    refine fro_bnd (frX12_isKept l2 h4) (fun _ a => a.pick [] rfl) c_h4 (fun x6 h5 c_h5 => ?_)
    refine fro_jn (fun (k119_6 : Hp → Option (Int32 × Hp)) => ∀ (h8 : Hp), Fr wX12_nextRun h0 h8 → FrO wX12_nextRun h0 (k119_6 h8)) (fun h8 c_h8 => ?_) (fun k119_6 Hk119_6 => ?_)
    ·
      refine fro_let (fun x9 => ?_)
      exact hrec x9 h8 c_h8
    refine fro_if ?_ ?_
    ·
      exact Hk119_6 h5 c_h5
    ·
      refine fro_bnd (frX12_beatsTo l2 h5) (fun _ a => a.pick [] rfl) c_h5 (fun x11 h10 c_h10 => ?_)
      refine fro_bnd (frX12_behindRun l2 h10) (fun _ a => a.pick [1, 0] rfl) c_h10 (fun x13 h12 c_h12 => ?_)
      refine fro_ck ?_
      refine fro_ck ?_
      refine fro_let (fun x14 => ?_)
      refine fro_ck ?_
      refine fro_if ?_ ?_
      ·
        refine fro_if ?_ ?_
        ·
          exact hK l2 h12 c_h12
        ·
          exact Hk119_6 h12 c_h12
      ·
        refine fro_ck ?_
        refine fro_if ?_ ?_
        ·
          exact fro_some c_h12
        ·
          exact Hk119_6 h12 c_h12
set_option maxHeartbeats 4000000 in
theorem frX12_nextRun (l1 : Int32) (h : Hp) : FrO wX12_nextRun h (fX12_nextRun l1 h) := by
  have c_h : Fr wX12_nextRun h h := Fr.rf
  unfold fX12_nextRun
  refine fro_ck ?_
  refine fro_bnd (frX12_open (ra h 58 0 l1) h) (fun _ a => a.pick [0, 1] rfl) c_h (fun _ h1 c_h1 => ?_)
  refine fro_ck ?_
  refine fro_jn (fun (k35_1 : Hp → Option (Int32 × Hp)) => ∀ (h3 : Hp), Fr wX12_nextRun h h3 → FrO wX12_nextRun h (k35_1 h3)) (fun h3 c_h3 => ?_) (fun k35_1 Hk35_1 => ?_)
  ·
    refine frX12_nextRun_l37 l1 _ _ (fun y15 h16 c_h16 => ?_) FU 0 h3 c_h3
    exact fro_some c_h16
  refine fro_if ?_ ?_
  ·
    exact Hk35_1 h1 c_h1
  ·
    refine fro_bnd (frX12_leastLeft h1) (fun _ a => a.pick [] rfl) c_h1 (fun x18 h17 c_h17 => ?_)
    refine fro_ck ?_
    refine fro_if ?_ ?_
    ·
      exact fro_some c_h17
    ·
      exact Hk35_1 h17 c_h17
def wX12_standBehind : List FE := [(10, some 0, some 47), (63, some 0, none), (10, some 0, some 49)]
set_option maxHeartbeats 4000000 in
theorem frX12_standBehind (l1 : Int32) (l2 : Int32) (h : Hp) : FrO wX12_standBehind h (fX12_standBehind l1 l2 h) := by
  have c_h : Fr wX12_standBehind h h := Fr.rf
  unfold fX12_standBehind
  refine fro_ck ?_
  refine fro_bnd (frX12_open (ra h 58 0 l1) h) (fun _ a => a.pick [0, 1] rfl) c_h (fun _ h1 c_h1 => ?_)
  refine fro_bnd (frX12_beatsTo l2 h1) (fun _ a => a.pick [] rfl) c_h1 (fun x3 h2 c_h2 => ?_)
  refine fro_h (fr_wr 2 rfl) c_h2 (fun h4 c_h4 => ?_)
  refine fro_bnd (frX12_behindRun l2 h4) (fun _ a => a.pick [1, 0] rfl) c_h4 (fun x6 h5 c_h5 => ?_)
  refine fro_ck ?_
  exact fro_some c_h5
def wX12_manyRuns : List FE := [(10, some 0, some 47), (63, some 0, none), (10, some 0, some 49)]
set_option maxHeartbeats 4000000 in
theorem frX12_manyRuns_l10 (K : Int32 → Hp → Option (Int32 × Hp)) (h0 : Hp) (hK : ∀ (y1 : Int32) (h : Hp), Fr wX12_manyRuns h0 h → FrO wX12_manyRuns h0 (K y1 h)) : ∀ (n : Nat) (l1 l2 l3 : Int32) (h : Hp), Fr wX12_manyRuns h0 h → FrO wX12_manyRuns h0 (itr3 (fX12_manyRuns_l10 K) n l1 l2 l3 h) := by
  refine fro_itr3 ?_
  intro rec hrec l1 l2 l3 h c_h
  unfold fX12_manyRuns_l10
  refine fro_if ?_ ?_
  ·
    exact hK l1 h c_h
  ·
    refine fro_bnd (frX12_standBehind l2 l3 h) (fun _ a => a.pick [0, 1, 2] rfl) c_h (fun x4 h3 c_h3 => ?_)
    refine fro_let (fun x5 => ?_)
    refine fro_bnd (frX12_nextRun x4 h3) (fun _ a => a.pick [0, 1] rfl) c_h3 (fun x7 h6 c_h6 => ?_)
    exact hrec x5 x4 x7 h6 c_h6
set_option maxHeartbeats 4000000 in
theorem frX12_manyRuns (h : Hp) : FrO wX12_manyRuns h (fX12_manyRuns h) := by
  have c_h : Fr wX12_manyRuns h h := Fr.rf
  unfold fX12_manyRuns
  refine fro_bnd (frX12_nextRun 0 h) (fun _ a => a.pick [0, 1] rfl) c_h (fun x2 h1 c_h1 => ?_)
  refine frX12_manyRuns_l10 _ _ (fun y8 h9 c_h9 => ?_) FU 0 0 x2 h1 c_h1
  exact fro_some c_h9
def wX12_roundBy : List FE := [(61, some 0, none), (10, some 0, some 49), (62, some 0, none), (10, some 0, some 47), (63, some 0, none)]
set_option maxHeartbeats 4000000 in
theorem frX12_roundBy_l2 (K : Hp → Option (Int32 × Hp)) (h0 : Hp) (hK : ∀ (h : Hp), Fr wX12_roundBy h0 h → FrO wX12_roundBy h0 (K  h)) : ∀ (n : Nat) (l2 : Int32) (h : Hp), Fr wX12_roundBy h0 h → FrO wX12_roundBy h0 (itr1 (fX12_roundBy_l2 K) n l2 h) := by
  refine fro_itr1 ?_
  intro rec hrec l2 h c_h
  unfold fX12_roundBy_l2
  refine fro_if ?_ ?_
  ·
    exact hK h c_h
  ·
    refine fro_ck ?_
    refine fro_h (fr_wa 0 rfl) c_h (fun h1 c_h1 => ?_)
    refine fro_let (fun x2 => ?_)
    exact hrec x2 h1 c_h1
set_option maxHeartbeats 4000000 in
theorem frX12_roundBy_l32 (K : Int32 → Int32 → Hp → Option (Int32 × Hp)) (h0 : Hp) (hK : ∀ (y2 y3 : Int32) (h : Hp), Fr wX12_roundBy h0 h → FrO wX12_roundBy h0 (K y2 y3 h)) : ∀ (n : Nat) (l2 l3 : Int32) (h : Hp), Fr wX12_roundBy h0 h → FrO wX12_roundBy h0 (itr2 (fX12_roundBy_l32 K) n l2 l3 h) := by
  refine fro_itr2 ?_
  intro rec hrec l2 l3 h c_h
  unfold fX12_roundBy_l32
  refine fro_ck ?_
  refine fro_if ?_ ?_
  ·
    refine fro_ck ?_
    refine fro_h (fr_wa 0 rfl) c_h (fun h5 c_h5 => ?_)
    refine fro_ck ?_
    refine fro_h (fr_wa 2 rfl) c_h5 (fun h6 c_h6 => ?_)
    refine fro_bnd (frX12_nextRun l3 h6) (fun _ a => a.pick [3, 4] rfl) c_h6 (fun x8 h7 c_h7 => ?_)
    refine fro_bnd (frX12_standBehind l3 x8 h7) (fun _ a => a.pick [3, 4, 1] rfl) c_h7 (fun x10 h9 c_h9 => ?_)
    refine fro_let (fun x11 => ?_)
    exact hrec x11 x10 h9 c_h9
  ·
    exact hK l2 l3 h c_h
set_option maxHeartbeats 4000000 in
theorem frX12_roundBy (l1 : Int32) (h : Hp) : FrO wX12_roundBy h (fX12_roundBy l1 h) := by
  have c_h : Fr wX12_roundBy h h := Fr.rf
  unfold fX12_roundBy
  refine frX12_roundBy_l2 _ _ (fun h3 c_h3 => ?_) FU 0 h c_h
  refine fro_h (fr_wr 1 rfl) c_h3 (fun h4 c_h4 => ?_)
  refine frX12_roundBy_l32 _ _ (fun y12 y13 h14 c_h14 => ?_) FU 0 0 h4 c_h4
  refine fro_if ?_ ?_
  ·
    refine fro_ck ?_
    exact fro_some c_h14
  ·
    refine fro_if ?_ ?_
    ·
      refine fro_ck ?_
      exact fro_some c_h14
    ·
      refine fro_ck ?_
      exact fro_some c_h14
def wX12_runAt : List FE := [(10, some 0, some 47), (63, some 0, none), (10, some 0, some 49)]
set_option maxHeartbeats 4000000 in
theorem frX12_runAt_l4 (l1 : Int32) (K : Int32 → Hp → Option (Int32 × Hp)) (h0 : Hp) (hK : ∀ (y2 : Int32) (h : Hp), Fr wX12_runAt h0 h → FrO wX12_runAt h0 (K y2 h)) : ∀ (n : Nat) (l2 l3 : Int32) (h : Hp), Fr wX12_runAt h0 h → FrO wX12_runAt h0 (itr2 (fX12_runAt_l4 l1 K) n l2 l3 h) := by
  refine fro_itr2 ?_
  intro rec hrec l2 l3 h c_h
  unfold fX12_runAt_l4
  refine fro_if ?_ ?_
  ·
    exact hK l2 h c_h
  ·
    refine fro_bnd (frX12_nextRun l2 h) (fun _ a => a.pick [0, 1] rfl) c_h (fun x2 h1 c_h1 => ?_)
    refine fro_if ?_ ?_
    ·
      exact fro_some c_h1
    ·
      refine fro_bnd (frX12_standBehind l2 x2 h1) (fun _ a => a.pick [0, 1, 2] rfl) c_h1 (fun x4 h3 c_h3 => ?_)
      refine fro_let (fun x5 => ?_)
      exact hrec x4 x5 h3 c_h3
set_option maxHeartbeats 4000000 in
theorem frX12_runAt (l1 : Int32) (h : Hp) : FrO wX12_runAt h (fX12_runAt l1 h) := by
  have c_h : Fr wX12_runAt h h := Fr.rf
  unfold fX12_runAt
  refine frX12_runAt_l4 l1 _ _ (fun y6 h7 c_h7 => ?_) FU 0 0 h c_h
  refine fro_bnd (frX12_nextRun y6 h7) (fun _ a => a.pick [0, 1] rfl) c_h7 (fun x9 h8 c_h8 => ?_)
  exact fro_some c_h8
def wX12_keep : List FE := [(10, some 0, some 0), (10, some 0, some 21), (10, some 0, some 23), (10, some 0, some 24), (10, some 0, some 22), (10, some 0, some 25), (53, some 0, none), (54, some 0, none), (55, some 0, none), (59, some 0, none), (10, some 0, some 46), (10, some 0, some 47), (63, some 0, none), (58, some 0, none), (60, some 0, none), (61, some 0, none), (10, some 0, some 49), (62, some 0, none)]
set_option maxHeartbeats 4000000 in
theorem frX12_keep (l1 : Int32) (l2 : Int32) (h : Hp) : FrO wX12_keep h (fX12_keep l1 l2 h) := by
  have c_h : Fr wX12_keep h h := Fr.rf
  unfold fX12_keep
  refine fro_h (fr_wr 0 rfl) c_h (fun h1 c_h1 => ?_)
  refine fro_bnd (frX12_hand l1 h1) (fun _ a => a.pick [1, 2, 3, 4, 5, 6, 7, 8] rfl) c_h1 (fun x3 h2 c_h2 => ?_)
  refine fro_if ?_ ?_
  ·
    exact fro_some c_h2
  ·
    refine fro_bnd (frX12_isForever h2) (fun _ a => a.pick [9, 10, 11, 12, 13, 14] rfl) c_h2 (fun x5 h4 c_h4 => ?_)
    refine fro_if ?_ ?_
    ·
      refine fro_if ?_ ?_
      ·
        refine fro_if ?_ ?_
        ·
          exact fro_some c_h4
        ·
          exact fro_some c_h4
      refine fro_if ?_ ?_
      ·
        refine fro_if ?_ ?_
        ·
          refine fro_ck ?_
          exact fro_some c_h4
        ·
          exact fro_some c_h4
      refine fro_if ?_ ?_
      ·
        refine fro_jn (fun (k140_8 : Hp → Option (Int32 × Hp)) => ∀ (h10 : Hp), Fr wX12_keep h h10 → FrO wX12_keep h (k140_8 h10)) (fun h10 c_h10 => ?_) (fun k140_8 Hk140_8 => ?_)
        ·
          exact fro_some c_h10
        refine fro_if ?_ ?_
        ·
          exact Hk140_8 h4 c_h4
        ·
          refine fro_if ?_ ?_
          ·
            exact Hk140_8 h4 c_h4
          ·
            refine fro_bnd (frX12_roundBy l2 h4) (fun _ a => a.pick [15, 16, 17, 11, 12] rfl) c_h4 (fun x12 h11 c_h11 => ?_)
            exact fro_some c_h11
      refine fro_if ?_ ?_
      ·
        refine fro_jn (fun (k140_13 : Hp → Option (Int32 × Hp)) => ∀ (h15 : Hp), Fr wX12_keep h h15 → FrO wX12_keep h (k140_13 h15)) (fun h15 c_h15 => ?_) (fun k140_13 Hk140_13 => ?_)
        ·
          exact fro_some c_h15
        refine fro_if ?_ ?_
        ·
          exact Hk140_13 h4 c_h4
        ·
          refine fro_if ?_ ?_
          ·
            exact Hk140_13 h4 c_h4
          ·
            refine fro_bnd (frX12_roundBy l2 h4) (fun _ a => a.pick [15, 16, 17, 11, 12] rfl) c_h4 (fun x17 h16 c_h16 => ?_)
            exact fro_some c_h16
      refine fro_if ?_ ?_
      ·
        refine fro_jn (fun (k140_18 : Hp → Option (Int32 × Hp)) => ∀ (h20 : Hp), Fr wX12_keep h h20 → FrO wX12_keep h (k140_18 h20)) (fun h20 c_h20 => ?_) (fun k140_18 Hk140_18 => ?_)
        ·
          exact fro_some c_h20
        refine fro_if ?_ ?_
        ·
          exact Hk140_18 h4 c_h4
        ·
          refine fro_if ?_ ?_
          ·
            exact Hk140_18 h4 c_h4
          ·
            refine fro_bnd (frX12_roundBy l2 h4) (fun _ a => a.pick [15, 16, 17, 11, 12] rfl) c_h4 (fun x22 h21 c_h21 => ?_)
            exact fro_some c_h21
      refine fro_if ?_ ?_
      ·
        refine fro_if ?_ ?_
        ·
          refine fro_bnd (frX12_manyRuns h4) (fun _ a => a.pick [11, 12, 16] rfl) c_h4 (fun x25 h24 c_h24 => ?_)
          exact fro_some c_h24
        ·
          exact fro_some c_h4
      exact fro_some c_h4
    ·
      refine fro_if ?_ ?_
      ·
        refine fro_if ?_ ?_
        ·
          exact fro_some c_h4
        ·
          refine fro_bnd (frX12_runAt (l2 - (10 : Int32)) h4) (fun _ a => a.pick [11, 12, 16] rfl) c_h4 (fun x27 h26 c_h26 => ?_)
          exact fro_some c_h26
      ·
        exact fro_some c_h4
def wX12_late : List FE := []
set_option maxHeartbeats 4000000 in
theorem frX12_late_l4 (K : Int32 → Hp → Option (Int32 × Hp)) (h0 : Hp) (hK : ∀ (y1 : Int32) (h : Hp), Fr wX12_late h0 h → FrO wX12_late h0 (K y1 h)) : ∀ (n : Nat) (l1 l2 : Int32) (h : Hp), Fr wX12_late h0 h → FrO wX12_late h0 (itr2 (fX12_late_l4 K) n l1 l2 h) := by
  refine fro_itr2 ?_
  intro rec hrec l1 l2 h c_h
  unfold fX12_late_l4
  refine fro_if ?_ ?_
  ·
    exact hK l1 h c_h
  ·
    refine fro_ck ?_
    refine fro_ck ?_
    refine fro_bnd (frX12_way (rd h 10 0 24) (ra h 53 0 l2) h) (fun _ a => a.pick [] rfl) c_h (fun x2 h1 c_h1 => ?_)
    refine fro_jn (fun (k45_2 : Int32 → Hp → Option (Int32 × Hp)) => ∀ (z0_2 : Int32) (h4 : Hp), Fr wX12_late h0 h4 → FrO wX12_late h0 (k45_2 z0_2 h4)) (fun z0_2 h4 c_h4 => ?_) (fun k45_2 Hk45_2 => ?_)
    ·
      refine fro_let (fun x5 => ?_)
      refine fro_let (fun x6 => ?_)
      exact hrec x5 x6 h4 c_h4
    refine fro_if ?_ ?_
    ·
      exact Hk45_2 0 h1 c_h1
    ·
      exact Hk45_2 ((1 : Int32) <<< (l2 &&& 31)) h1 c_h1
set_option maxHeartbeats 4000000 in
theorem frX12_late (h : Hp) : FrO wX12_late h (fX12_late h) := by
  have c_h : Fr wX12_late h h := Fr.rf
  unfold fX12_late
  refine frX12_late_l4 _ _ (fun y7 h8 c_h8 => ?_) FU 0 0 h c_h
  exact fro_some c_h8
def wX12_least : List FE := [(10, some 0, some 0), (10, some 0, some 52), (10, some 0, some 21), (10, some 0, some 23), (10, some 0, some 24), (10, some 0, some 22), (10, some 0, some 25), (53, some 0, none), (54, some 0, none), (55, some 0, none), (10, some 0, some 53), (10, some 0, some 54), (10, some 0, some 55), (10, some 0, some 56), (10, some 0, some 57), (65, some 0, none), (66, some 0, none), (10, some 0, some 29), (10, some 0, some 30), (10, some 0, some 31), (10, some 0, some 32), (10, some 0, some 33), (10, some 0, some 34), (10, some 0, some 35), (10, some 0, some 36), (10, some 0, some 37), (63, some 0, none), (56, some 0, none), (57, some 0, none)]
set_option maxHeartbeats 4000000 in
theorem frX12_least (l1 : Int32) (l2 : Int32) (l3 : Int32) (h : Hp) : FrO wX12_least h (fX12_least l1 l2 l3 h) := by
  have c_h : Fr wX12_least h h := Fr.rf
  unfold fX12_least
  refine fro_h (fr_wr 0 rfl) c_h (fun h1 c_h1 => ?_)
  refine fro_bnd (frX12_hasLog l2 h1) (fun _ a => a.pick [1] rfl) c_h1 (fun x3 h2 c_h2 => ?_)
  refine fro_if ?_ ?_
  ·
    exact fro_some c_h2
  ·
    refine fro_bnd (frX12_hand l1 h2) (fun _ a => a.pick [2, 3, 4, 5, 6, 7, 8, 9] rfl) c_h2 (fun x5 h4 c_h4 => ?_)
    refine fro_if ?_ ?_
    ·
      exact fro_some c_h4
    ·
      refine fro_bnd (frX12_in l3 0 2 h4) (fun _ a => a.pick [] rfl) c_h4 (fun x7 h6 c_h6 => ?_)
      refine fro_if ?_ ?_
      ·
        exact fro_some c_h6
      ·
        refine fro_bnd (frX12_findRows (-1) h6) (fun _ a => a.pick [10, 11, 12, 13, 14, 15, 16, 3, 4, 5, 6, 7, 8, 9, 17, 18, 19, 20, 21, 22, 23, 24, 25, 26, 27, 28] rfl) c_h6 (fun _ h8 c_h8 => ?_)
        refine fro_if ?_ ?_
        ·
          exact fro_some c_h8
        ·
          refine fro_if ?_ ?_
          ·
            exact fro_some c_h8
          ·
            refine fro_if ?_ ?_
            ·
              exact fro_some c_h8
            ·
              exact fro_some c_h8
def wX12_leave : List FE := [(10, some 0, some 25), (59, some 0, none), (10, some 0, some 46), (10, some 0, some 47), (63, some 0, none), (58, some 0, none), (60, some 0, none)]
set_option maxHeartbeats 4000000 in
theorem frX12_leave_l4 (K : Int32 → Hp → Option (Int32 × Hp)) (h0 : Hp) (hK : ∀ (y1 : Int32) (h : Hp), Fr wX12_leave h0 h → FrO wX12_leave h0 (K y1 h)) : ∀ (n : Nat) (l1 l2 : Int32) (h : Hp), Fr wX12_leave h0 h → FrO wX12_leave h0 (itr2 (fX12_leave_l4 K) n l1 l2 h) := by
  refine fro_itr2 ?_
  intro rec hrec l1 l2 h c_h
  unfold fX12_leave_l4
  refine fro_if ?_ ?_
  ·
    exact hK l1 h c_h
  ·
    refine fro_h (fr_wr 0 rfl) c_h (fun h1 c_h1 => ?_)
    refine fro_bnd (frX12_ones l2 h1) (fun _ a => a.pick [] rfl) c_h1 (fun x3 h2 c_h2 => ?_)
    refine fro_bnd (frX12_ones l1 h2) (fun _ a => a.pick [] rfl) c_h2 (fun x5 h4 c_h4 => ?_)
    refine fro_jn (fun (k42_5 : Int32 → Hp → Option (Int32 × Hp)) => ∀ (z0_5 : Int32) (h7 : Hp), Fr wX12_leave h0 h7 → FrO wX12_leave h0 (k42_5 z0_5 h7)) (fun z0_5 h7 c_h7 => ?_) (fun k42_5 Hk42_5 => ?_)
    ·
      refine fro_let (fun x8 => ?_)
      exact hrec z0_5 x8 h7 c_h7
    refine fro_jn (fun (k41_8 : Hp → Option (Int32 × Hp)) => ∀ (h10 : Hp), Fr wX12_leave h0 h10 → FrO wX12_leave h0 (k41_8 h10)) (fun h10 c_h10 => ?_) (fun k41_8 Hk41_8 => ?_)
    ·
      exact Hk42_5 l1 h10 c_h10
    refine fro_if ?_ ?_
    ·
      exact Hk41_8 h4 c_h4
    ·
      refine fro_bnd (frX12_isForever h4) (fun _ a => a.pick [1, 2, 3, 4, 5, 6] rfl) c_h4 (fun x12 h11 c_h11 => ?_)
      refine fro_if ?_ ?_
      ·
        exact Hk41_8 h11 c_h11
      ·
        exact Hk42_5 l2 h11 c_h11
set_option maxHeartbeats 4000000 in
theorem frX12_leave (h : Hp) : FrO wX12_leave h (fX12_leave h) := by
  have c_h : Fr wX12_leave h h := Fr.rf
  unfold fX12_leave
  refine frX12_leave_l4 _ _ (fun y13 h14 c_h14 => ?_) FU 0 1 h c_h
  exact fro_some c_h14
def wX12_loadOf : List FE := []
set_option maxHeartbeats 4000000 in
theorem frX12_loadOf_l4 (K : Int32 → Hp → Option (Int32 × Hp)) (h0 : Hp) (hK : ∀ (y1 : Int32) (h : Hp), Fr wX12_loadOf h0 h → FrO wX12_loadOf h0 (K y1 h)) : ∀ (n : Nat) (l1 l2 : Int32) (h : Hp), Fr wX12_loadOf h0 h → FrO wX12_loadOf h0 (itr2 (fX12_loadOf_l4 K) n l1 l2 h) := by
  refine fro_itr2 ?_
  intro rec hrec l1 l2 h c_h
  unfold fX12_loadOf_l4
  refine fro_if ?_ ?_
  ·
    exact hK l1 h c_h
  ·
    refine fro_ck ?_
    refine fro_ck ?_
    refine fro_let (fun x1 => ?_)
    refine fro_let (fun x2 => ?_)
    exact hrec x1 x2 h c_h
set_option maxHeartbeats 4000000 in
theorem frX12_loadOf (h : Hp) : FrO wX12_loadOf h (fX12_loadOf h) := by
  have c_h : Fr wX12_loadOf h h := Fr.rf
  unfold fX12_loadOf
  refine frX12_loadOf_l4 _ _ (fun y3 h4 c_h4 => ?_) FU 0 0 h c_h
  exact fro_some c_h4
def wX12_span : List FE := []
set_option maxHeartbeats 4000000 in
theorem frX12_span_l8 (K : Int32 → Int32 → Hp → Option (Int32 × Hp)) (h0 : Hp) (hK : ∀ (y1 y2 : Int32) (h : Hp), Fr wX12_span h0 h → FrO wX12_span h0 (K y1 y2 h)) : ∀ (n : Nat) (l1 l2 l3 : Int32) (h : Hp), Fr wX12_span h0 h → FrO wX12_span h0 (itr3 (fX12_span_l8 K) n l1 l2 l3 h) := by
  refine fro_itr3 ?_
  intro rec hrec l1 l2 l3 h c_h
  unfold fX12_span_l8
  refine fro_if ?_ ?_
  ·
    exact hK l1 l2 h c_h
  ·
    refine fro_ck ?_
    refine fro_bnd (frX12_lesser l1 (ra h 53 0 l3) h) (fun _ a => a.pick [] rfl) c_h (fun x2 h1 c_h1 => ?_)
    refine fro_ck ?_
    refine fro_bnd (frX12_greater l2 (ra h1 53 0 l3) h1) (fun _ a => a.pick [] rfl) c_h1 (fun x4 h3 c_h3 => ?_)
    refine fro_let (fun x5 => ?_)
    exact hrec x2 x4 x5 h3 c_h3
set_option maxHeartbeats 4000000 in
theorem frX12_span (h : Hp) : FrO wX12_span h (fX12_span h) := by
  have c_h : Fr wX12_span h h := Fr.rf
  unfold fX12_span
  refine frX12_span_l8 _ _ (fun y6 y7 h8 c_h8 => ?_) FU 1000000 0 0 h c_h
  refine fro_if ?_ ?_
  ·
    exact fro_some c_h8
  ·
    exact fro_some c_h8
def wX12_ofLoad : List FE := [(10, some 0, some 25), (59, some 0, none), (10, some 0, some 46), (10, some 0, some 47), (63, some 0, none), (58, some 0, none), (60, some 0, none)]
set_option maxHeartbeats 4000000 in
theorem frX12_ofLoad (l1 : Int32) (h : Hp) : FrO wX12_ofLoad h (fX12_ofLoad l1 h) := by
  have c_h : Fr wX12_ofLoad h h := Fr.rf
  unfold fX12_ofLoad
  refine fro_if ?_ ?_
  ·
    refine fro_if ?_ ?_
    ·
      exact fro_some c_h
    ·
      refine fro_bnd (frX12_fallingOf 0 h) (fun _ a => a.pick [] rfl) c_h (fun x3 h2 c_h2 => ?_)
      refine fro_ck ?_
      exact fro_some c_h2
  refine fro_if ?_ ?_
  ·
    refine fro_bnd (frX12_span h) (fun _ a => a.pick [] rfl) c_h (fun x6 h5 c_h5 => ?_)
    exact fro_some c_h5
  refine fro_if ?_ ?_
  ·
    refine fro_bnd (frX12_couples 0 h) (fun _ a => a.pick [0, 1, 2, 3, 4, 5, 6] rfl) c_h (fun x9 h8 c_h8 => ?_)
    exact fro_some c_h8
  refine fro_if ?_ ?_
  ·
    refine fro_bnd (frX12_aloneOf h) (fun _ a => a.pick [0, 1, 2, 3, 4, 5, 6] rfl) c_h (fun x12 h11 c_h11 => ?_)
    exact fro_some c_h11
  refine fro_if ?_ ?_
  ·
    refine fro_bnd (frX12_couples 1 h) (fun _ a => a.pick [0, 1, 2, 3, 4, 5, 6] rfl) c_h (fun x15 h14 c_h14 => ?_)
    exact fro_some c_h14
  refine fro_bnd (frX12_late h) (fun _ a => a.pick [] rfl) c_h (fun x17 h16 c_h16 => ?_)
  exact fro_some c_h16
def wX12_part : List FE := []
set_option maxHeartbeats 4000000 in
theorem frX12_part (l0 : Int32) (l1 : Int32) (l2 : Int32) (h : Hp) : FrO wX12_part h (fX12_part l0 l1 l2 h) := by
  have c_h : Fr wX12_part h h := Fr.rf
  unfold fX12_part
  refine fro_jn (fun (k9_0 : Int32 → Hp → Option (Int32 × Hp)) => ∀ (z0_0 : Int32) (h2 : Hp), Fr wX12_part h h2 → FrO wX12_part h (k9_0 z0_0 h2)) (fun z0_0 h2 c_h2 => ?_) (fun k9_0 Hk9_0 => ?_)
  ·
    refine fro_bnd (frX12_common l1 l0 h2) (fun _ a => a.pick [] rfl) c_h2 (fun x4 h3 c_h3 => ?_)
    refine fro_ck ?_
    exact fro_some c_h3
  refine fro_if ?_ ?_
  ·
    exact Hk9_0 l0 h c_h
  ·
    exact Hk9_0 l1 h c_h
def wX12_swapTwo : List FE := [(59, some 0, none), (10, some 0, some 46), (10, some 0, some 47), (63, some 0, none), (58, some 0, none), (60, some 0, none), (10, some 0, some 23), (10, some 0, some 24), (10, some 0, some 22), (10, some 0, some 25), (53, some 0, none), (54, some 0, none), (55, some 0, none)]
set_option maxHeartbeats 4000000 in
theorem frX12_swapTwo_l23 (l1 : Int32) (K : Hp → Option (Int32 × Hp)) (h0 : Hp) (hK : ∀ (h : Hp), Fr wX12_swapTwo h0 h → FrO wX12_swapTwo h0 (K  h)) : ∀ (n : Nat) (l2 : Int32) (h : Hp), Fr wX12_swapTwo h0 h → FrO wX12_swapTwo h0 (itr1 (fX12_swapTwo_l23 l1 K) n l2 h) := by
  refine fro_itr1 ?_
  intro rec hrec l2 h c_h
  unfold fX12_swapTwo_l23
  refine fro_if ?_ ?_
  ·
    exact hK h c_h
  ·
    refine fro_bnd (frX12_asTold h) (fun _ a => a.pick [6, 7, 8, 9, 10, 11, 12] rfl) c_h (fun _ h4 c_h4 => ?_)
    refine fro_bnd (frX12_of ((3 : Int32) + l2) h4) (fun _ a => a.pick [] rfl) c_h4 (fun x6 h5 c_h5 => ?_)
    refine fro_ck ?_
    refine fro_h (fr_wa 10 rfl) c_h5 (fun h7 c_h7 => ?_)
    refine fro_bnd (frX12_of ((3 : Int32) + l1) h7) (fun _ a => a.pick [] rfl) c_h7 (fun x9 h8 c_h8 => ?_)
    refine fro_ck ?_
    refine fro_h (fr_wa 10 rfl) c_h8 (fun h10 c_h10 => ?_)
    refine fro_bnd (frX12_isForever h10) (fun _ a => a.pick [0, 1, 2, 3, 4, 5] rfl) c_h10 (fun x12 h11 c_h11 => ?_)
    refine fro_if ?_ ?_
    ·
      refine fro_let (fun x13 => ?_)
      exact hrec x13 h11 c_h11
    ·
      exact fro_some c_h11
set_option maxHeartbeats 4000000 in
theorem frX12_swapTwo_l11 (K : Int32 → Int32 → Hp → Option (Int32 × Hp)) (h0 : Hp) (hK : ∀ (y1 y2 : Int32) (h : Hp), Fr wX12_swapTwo h0 h → FrO wX12_swapTwo h0 (K y1 y2 h)) : ∀ (n : Nat) (l1 : Int32) (h : Hp), Fr wX12_swapTwo h0 h → FrO wX12_swapTwo h0 (itr1 (fX12_swapTwo_l11 K) n l1 h) := by
  refine fro_itr1 ?_
  intro rec hrec l1 h c_h
  unfold fX12_swapTwo_l11
  refine fro_if ?_ ?_
  ·
    exact fro_some c_h
  ·
    refine fro_let (fun x3 => ?_)
    refine frX12_swapTwo_l23 l1 _ _ (fun h14 c_h14 => ?_) FU x3 h c_h
    refine fro_let (fun x15 => ?_)
    exact hrec x15 h14 c_h14
set_option maxHeartbeats 4000000 in
theorem frX12_swapTwo (h : Hp) : FrO wX12_swapTwo h (fX12_swapTwo h) := by
  have c_h : Fr wX12_swapTwo h h := Fr.rf
  unfold fX12_swapTwo
  refine fro_bnd (frX12_isForever h) (fun _ a => a.pick [0, 1, 2, 3, 4, 5] rfl) c_h (fun x2 h1 c_h1 => ?_)
  refine fro_if ?_ ?_
  ·
    refine frX12_swapTwo_l11 _ _ (fun y16 y17 h18 c_h18 => ?_) FU 0 h1 c_h1
    exact fro_some c_h18
  ·
    exact fro_some c_h1
def wX12_load : List FE := [(10, some 0, some 0), (10, some 0, some 21), (10, some 0, some 23), (10, some 0, some 24), (10, some 0, some 22), (10, some 0, some 25), (53, some 0, none), (54, some 0, none), (55, some 0, none), (10, some 0, some 47), (63, some 0, none), (59, some 0, none), (10, some 0, some 46), (58, some 0, none), (60, some 0, none)]
set_option maxHeartbeats 4000000 in
theorem frX12_load (l1 : Int32) (l2 : Int32) (h : Hp) : FrO wX12_load h (fX12_load l1 l2 h) := by
  have c_h : Fr wX12_load h h := Fr.rf
  unfold fX12_load
  refine fro_h (fr_wr 0 rfl) c_h (fun h1 c_h1 => ?_)
  refine fro_bnd (frX12_hand l1 h1) (fun _ a => a.pick [1, 2, 3, 4, 5, 6, 7, 8] rfl) c_h1 (fun x3 h2 c_h2 => ?_)
  refine fro_if ?_ ?_
  ·
    exact fro_some c_h2
  ·
    refine fro_if ?_ ?_
    ·
      refine fro_bnd (frX12_in l2 2 7 h2) (fun _ a => a.pick [] rfl) c_h2 (fun x5 h4 c_h4 => ?_)
      refine fro_if ?_ ?_
      ·
        refine fro_if ?_ ?_
        ·
          refine fro_bnd (frX12_loadOf h4) (fun _ a => a.pick [] rfl) c_h4 (fun x8 h7 c_h7 => ?_)
          refine fro_jn (fun (k144_8 : Int32 → Hp → Option (Int32 × Hp)) => ∀ (z0_8 : Int32) (h10 : Hp), Fr wX12_load h h10 → FrO wX12_load h (k144_8 z0_8 h10)) (fun z0_8 h10 c_h10 => ?_) (fun k144_8 Hk144_8 => ?_)
          ·
            refine fro_bnd (frX12_part x8 60 z0_8 h10) (fun _ a => a.pick [] rfl) c_h10 (fun x12 h11 c_h11 => ?_)
            exact fro_some c_h11
          refine fro_if ?_ ?_
          ·
            exact Hk144_8 1 h7 c_h7
          ·
            exact Hk144_8 0 h7 c_h7
        refine fro_if ?_ ?_
        ·
          refine fro_bnd (frX12_loadOf h4) (fun _ a => a.pick [] rfl) c_h4 (fun x15 h14 c_h14 => ?_)
          refine fro_jn (fun (k144_15 : Int32 → Hp → Option (Int32 × Hp)) => ∀ (z0_15 : Int32) (h17 : Hp), Fr wX12_load h h17 → FrO wX12_load h (k144_15 z0_15 h17)) (fun z0_15 h17 c_h17 => ?_) (fun k144_15 Hk144_15 => ?_)
          ·
            refine fro_bnd (frX12_part x15 60 z0_15 h17) (fun _ a => a.pick [] rfl) c_h17 (fun x19 h18 c_h18 => ?_)
            exact fro_some c_h18
          refine fro_if ?_ ?_
          ·
            exact Hk144_15 1 h14 c_h14
          ·
            exact Hk144_15 0 h14 c_h14
        refine fro_if ?_ ?_
        ·
          exact fro_some c_h4
        refine fro_if ?_ ?_
        ·
          exact fro_some c_h4
        refine fro_if ?_ ?_
        ·
          exact fro_some c_h4
        refine fro_if ?_ ?_
        ·
          exact fro_some c_h4
        refine fro_if ?_ ?_
        ·
          exact fro_some c_h4
        refine fro_if ?_ ?_
        ·
          exact fro_some c_h4
        refine fro_if ?_ ?_
        ·
          refine fro_jn (fun (k164_26 : Hp → Option (Int32 × Hp)) => ∀ (h28 : Hp), Fr wX12_load h h28 → FrO wX12_load h (k164_26 h28)) (fun h28 c_h28 => ?_) (fun k164_26 Hk164_26 => ?_)
          ·
            exact fro_some c_h28
          refine fro_if ?_ ?_
          ·
            exact Hk164_26 h4 c_h4
          ·
            refine fro_bnd (frX12_inRow h4) (fun _ a => a.pick [9, 10] rfl) c_h4 (fun x30 h29 c_h29 => ?_)
            refine fro_if ?_ ?_
            ·
              exact Hk164_26 h29 c_h29
            ·
              exact fro_some c_h29
        refine fro_if ?_ ?_
        ·
          refine fro_bnd (frX12_inRow h4) (fun _ a => a.pick [9, 10] rfl) c_h4 (fun x33 h32 c_h32 => ?_)
          exact fro_some c_h32
        refine fro_if ?_ ?_
        ·
          refine fro_bnd (frX12_centre h4) (fun _ a => a.pick [] rfl) c_h4 (fun x36 h35 c_h35 => ?_)
          exact fro_some c_h35
        refine fro_if ?_ ?_
        ·
          refine fro_bnd (frX12_centre h4) (fun _ a => a.pick [] rfl) c_h4 (fun x39 h38 c_h38 => ?_)
          refine fro_bnd (frX12_waysFrom x39 h38) (fun _ a => a.pick [] rfl) c_h38 (fun x41 h40 c_h40 => ?_)
          exact fro_some c_h40
        refine fro_if ?_ ?_
        ·
          refine fro_bnd (frX12_swapTwo h4) (fun _ a => a.pick [11, 12, 9, 10, 13, 14, 2, 3, 4, 5, 6, 7, 8] rfl) c_h4 (fun x44 h43 c_h43 => ?_)
          exact fro_some c_h43
        exact fro_some c_h4
      ·
        refine fro_bnd (frX12_ofLoad l2 h4) (fun _ a => a.pick [5, 11, 12, 9, 10, 13, 14] rfl) c_h4 (fun x46 h45 c_h45 => ?_)
        exact fro_some c_h45
    ·
      refine fro_if ?_ ?_
      ·
        exact fro_some c_h2
      ·
        refine fro_bnd (frX12_fallingOf (l2 - (20 : Int32)) h2) (fun _ a => a.pick [] rfl) c_h2 (fun x48 h47 c_h47 => ?_)
        exact fro_some c_h47
def wX12_log : List FE := [(10, some 0, some 0), (10, some 0, some 52)]
set_option maxHeartbeats 4000000 in
theorem frX12_log (l1 : Int32) (l2 : Int32) (h : Hp) : FrO wX12_log h (fX12_log l1 l2 h) := by
  have c_h : Fr wX12_log h h := Fr.rf
  unfold fX12_log
  refine fro_h (fr_wr 0 rfl) c_h (fun h1 c_h1 => ?_)
  refine fro_bnd (frX12_hasLog l1 h1) (fun _ a => a.pick [1] rfl) c_h1 (fun x3 h2 c_h2 => ?_)
  refine fro_if ?_ ?_
  ·
    exact fro_some c_h2
  ·
    refine fro_let (fun x4 => ?_)
    refine fro_if ?_ ?_
    ·
      refine fro_jn (fun (k79_4 : Hp → Option (Int32 × Hp)) => ∀ (h6 : Hp), Fr wX12_log h h6 → FrO wX12_log h (k79_4 h6)) (fun h6 c_h6 => ?_) (fun k79_4 Hk79_4 => ?_)
      ·
        exact fro_some c_h6
      refine fro_if ?_ ?_
      ·
        exact Hk79_4 h2 c_h2
      ·
        refine fro_bnd (frX12_facts h2) (fun _ a => a.pick [] rfl) c_h2 (fun x8 h7 c_h7 => ?_)
        refine fro_if ?_ ?_
        ·
          exact Hk79_4 h7 c_h7
        ·
          refine fro_bnd (frX12_factOf x4 ((l2 / 10) - (1 : Int32)) h7) (fun _ a => a.pick [] rfl) c_h7 (fun x10 h9 c_h9 => ?_)
          exact fro_some c_h9
    ·
      refine fro_if ?_ ?_
      ·
        refine fro_bnd (frX12_runs h2) (fun _ a => a.pick [] rfl) c_h2 (fun x12 h11 c_h11 => ?_)
        exact fro_some c_h11
      ·
        refine fro_if ?_ ?_
        ·
          refine fro_bnd (frX12_facts h2) (fun _ a => a.pick [] rfl) c_h2 (fun x14 h13 c_h13 => ?_)
          exact fro_some c_h13
        ·
          exact fro_some c_h2
def wX12_movesOf : List FE := [(53, some 0, none), (59, some 0, none), (10, some 0, some 46), (10, some 0, some 47), (63, some 0, none), (58, some 0, none), (60, some 0, none)]
set_option maxHeartbeats 4000000 in
theorem frX12_movesOf_l4 (l1 : Int32) (K : Int32 → Hp → Option (Int32 × Hp)) (h0 : Hp) (hK : ∀ (y2 : Int32) (h : Hp), Fr wX12_movesOf h0 h → FrO wX12_movesOf h0 (K y2 h)) : ∀ (n : Nat) (l2 l3 : Int32) (h : Hp), Fr wX12_movesOf h0 h → FrO wX12_movesOf h0 (itr2 (fX12_movesOf_l4 l1 K) n l2 l3 h) := by
  refine fro_itr2 ?_
  intro rec hrec l2 l3 h c_h
  unfold fX12_movesOf_l4
  refine fro_if ?_ ?_
  ·
    exact hK l2 h c_h
  ·
    refine fro_ck ?_
    refine fro_h (fr_wa 0 rfl) c_h (fun h1 c_h1 => ?_)
    refine fro_bnd (frX12_isForever h1) (fun _ a => a.pick [1, 2, 3, 4, 5, 6] rfl) c_h1 (fun x3 h2 c_h2 => ?_)
    refine fro_jn (fun (k32_3 : Int32 → Hp → Option (Int32 × Hp)) => ∀ (z0_3 : Int32) (h5 : Hp), Fr wX12_movesOf h0 h5 → FrO wX12_movesOf h0 (k32_3 z0_3 h5)) (fun z0_3 h5 c_h5 => ?_) (fun k32_3 Hk32_3 => ?_)
    ·
      refine fro_let (fun x6 => ?_)
      refine fro_let (fun x7 => ?_)
      exact hrec x6 x7 h5 c_h5
    refine fro_if ?_ ?_
    ·
      exact Hk32_3 0 h2 c_h2
    ·
      exact Hk32_3 ((1 : Int32) <<< (l3 &&& 31)) h2 c_h2
set_option maxHeartbeats 4000000 in
theorem frX12_movesOf (l1 : Int32) (h : Hp) : FrO wX12_movesOf h (fX12_movesOf l1 h) := by
  have c_h : Fr wX12_movesOf h h := Fr.rf
  unfold fX12_movesOf
  refine frX12_movesOf_l4 l1 _ _ (fun y8 h9 c_h9 => ?_) FU 0 0 h c_h
  exact fro_some c_h9
def wX12_needOf : List FE := [(54, some 0, none), (55, some 0, none), (59, some 0, none), (10, some 0, some 46), (10, some 0, some 47), (63, some 0, none), (58, some 0, none), (60, some 0, none)]
set_option maxHeartbeats 4000000 in
theorem frX12_needOf_l2 (l1 : Int32) (K : Hp → Option (Int32 × Hp)) (h0 : Hp) (hK : ∀ (h : Hp), Fr wX12_needOf h0 h → FrO wX12_needOf h0 (K  h)) : ∀ (n : Nat) (l2 : Int32) (h : Hp), Fr wX12_needOf h0 h → FrO wX12_needOf h0 (itr1 (fX12_needOf_l2 l1 K) n l2 h) := by
  refine fro_itr1 ?_
  intro rec hrec l2 h c_h
  unfold fX12_needOf_l2
  refine fro_if ?_ ?_
  ·
    exact hK h c_h
  ·
    refine fro_ck ?_
    refine fro_h (fr_wa 0 rfl) c_h (fun h1 c_h1 => ?_)
    refine fro_bnd (frX12_of ((13 : Int32) + l1) h1) (fun _ a => a.pick [] rfl) c_h1 (fun x3 h2 c_h2 => ?_)
    refine fro_bnd (frX12_lesser x3 l2 h2) (fun _ a => a.pick [] rfl) c_h2 (fun x5 h4 c_h4 => ?_)
    refine fro_ck ?_
    refine fro_h (fr_wa 1 rfl) c_h4 (fun h6 c_h6 => ?_)
    refine fro_bnd (frX12_isForever h6) (fun _ a => a.pick [2, 3, 4, 5, 6, 7] rfl) c_h6 (fun x8 h7 c_h7 => ?_)
    refine fro_if ?_ ?_
    ·
      refine fro_let (fun x9 => ?_)
      exact hrec x9 h7 c_h7
    ·
      exact fro_some c_h7
set_option maxHeartbeats 4000000 in
theorem frX12_needOf (l1 : Int32) (h : Hp) : FrO wX12_needOf h (fX12_needOf l1 h) := by
  have c_h : Fr wX12_needOf h h := Fr.rf
  unfold fX12_needOf
  refine frX12_needOf_l2 l1 _ _ (fun h10 c_h10 => ?_) FU 1 h c_h
  exact fro_some c_h10
def wX12_reachedStands : List FE := [(59, some 0, none), (10, some 0, some 46), (10, some 0, some 47), (63, some 0, none), (58, some 0, none), (60, some 0, none)]
set_option maxHeartbeats 4000000 in
theorem frX12_reachedStands_l9 (l1 : Int32) (K : Int32 → Hp → Option (Int32 × Hp)) (h0 : Hp) (hK : ∀ (y2 : Int32) (h : Hp), Fr wX12_reachedStands h0 h → FrO wX12_reachedStands h0 (K y2 h)) : ∀ (n : Nat) (l2 l3 : Int32) (h : Hp), Fr wX12_reachedStands h0 h → FrO wX12_reachedStands h0 (itr2 (fX12_reachedStands_l9 l1 K) n l2 l3 h) := by
  refine fro_itr2 ?_
  intro rec hrec l2 l3 h c_h
  unfold fX12_reachedStands_l9
  refine fro_if ?_ ?_
  ·
    exact hK l2 h c_h
  ·
    refine fro_jn (fun (k44_2 : Int32 → Hp → Option (Int32 × Hp)) => ∀ (z0_2 : Int32) (h4 : Hp), Fr wX12_reachedStands h0 h4 → FrO wX12_reachedStands h0 (k44_2 z0_2 h4)) (fun z0_2 h4 c_h4 => ?_) (fun k44_2 Hk44_2 => ?_)
    ·
      refine fro_let (fun x5 => ?_)
      refine fro_let (fun x6 => ?_)
      exact hrec x5 x6 h4 c_h4
    refine fro_jn (fun (k39_6 : Hp → Option (Int32 × Hp)) => ∀ (h8 : Hp), Fr wX12_reachedStands h0 h8 → FrO wX12_reachedStands h0 (k39_6 h8)) (fun h8 c_h8 => ?_) (fun k39_6 Hk39_6 => ?_)
    ·
      exact Hk44_2 1 h8 c_h8
    refine fro_if ?_ ?_
    ·
      exact Hk39_6 h c_h
    ·
      refine fro_if ?_ ?_
      ·
        exact Hk39_6 h c_h
      ·
        refine fro_ck ?_
        refine fro_if ?_ ?_
        ·
          exact Hk39_6 h c_h
        ·
          exact Hk44_2 0 h c_h
set_option maxHeartbeats 4000000 in
theorem frX12_reachedStands (l1 : Int32) (h : Hp) : FrO wX12_reachedStands h (fX12_reachedStands l1 h) := by
  have c_h : Fr wX12_reachedStands h h := Fr.rf
  unfold fX12_reachedStands
  refine fro_bnd (frX12_isForever h) (fun _ a => a.pick [0, 1, 2, 3, 4, 5] rfl) c_h (fun x2 h1 c_h1 => ?_)
  refine frX12_reachedStands_l9 l1 _ _ (fun y9 h10 c_h10 => ?_) FU 0 0 h1 c_h1
  exact fro_some c_h10
def wX12_spare : List FE := [(10, some 0, some 25), (59, some 0, none), (10, some 0, some 46), (10, some 0, some 47), (63, some 0, none), (58, some 0, none), (60, some 0, none)]
set_option maxHeartbeats 4000000 in
theorem frX12_spare_l4 (K : Int32 → Hp → Option (Int32 × Hp)) (h0 : Hp) (hK : ∀ (y1 : Int32) (h : Hp), Fr wX12_spare h0 h → FrO wX12_spare h0 (K y1 h)) : ∀ (n : Nat) (l1 l2 : Int32) (h : Hp), Fr wX12_spare h0 h → FrO wX12_spare h0 (itr2 (fX12_spare_l4 K) n l1 l2 h) := by
  refine fro_itr2 ?_
  intro rec hrec l1 l2 h c_h
  unfold fX12_spare_l4
  refine fro_if ?_ ?_
  ·
    exact hK l1 h c_h
  ·
    refine fro_h (fr_wr 0 rfl) c_h (fun h1 c_h1 => ?_)
    refine fro_bnd (frX12_isForever h1) (fun _ a => a.pick [1, 2, 3, 4, 5, 6] rfl) c_h1 (fun x3 h2 c_h2 => ?_)
    refine fro_jn (fun (k45_3 : Int32 → Hp → Option (Int32 × Hp)) => ∀ (z0_3 : Int32) (h5 : Hp), Fr wX12_spare h0 h5 → FrO wX12_spare h0 (k45_3 z0_3 h5)) (fun z0_3 h5 c_h5 => ?_) (fun k45_3 Hk45_3 => ?_)
    ·
      refine fro_let (fun x6 => ?_)
      refine fro_let (fun x7 => ?_)
      exact hrec x6 x7 h5 c_h5
    refine fro_if ?_ ?_
    ·
      exact Hk45_3 0 h2 c_h2
    ·
      exact Hk45_3 ((1 : Int32) <<< (l2 &&& 31)) h2 c_h2
set_option maxHeartbeats 4000000 in
theorem frX12_spare (h : Hp) : FrO wX12_spare h (fX12_spare h) := by
  have c_h : Fr wX12_spare h h := Fr.rf
  unfold fX12_spare
  refine frX12_spare_l4 _ _ (fun y8 h9 c_h9 => ?_) FU 0 0 h c_h
  exact fro_some c_h9
def wX12_speeds : List FE := [(10, some 0, some 23), (59, some 0, none), (10, some 0, some 46), (10, some 0, some 47), (63, some 0, none), (58, some 0, none), (60, some 0, none)]
set_option maxHeartbeats 4000000 in
theorem frX12_speeds_l2 (K : Hp → Option (Int32 × Hp)) (h0 : Hp) (hK : ∀ (h : Hp), Fr wX12_speeds h0 h → FrO wX12_speeds h0 (K  h)) : ∀ (n : Nat) (l1 : Int32) (h : Hp), Fr wX12_speeds h0 h → FrO wX12_speeds h0 (itr1 (fX12_speeds_l2 K) n l1 h) := by
  refine fro_itr1 ?_
  intro rec hrec l1 h c_h
  unfold fX12_speeds_l2
  refine fro_if ?_ ?_
  ·
    exact hK h c_h
  ·
    refine fro_h (fr_wr 0 rfl) c_h (fun h1 c_h1 => ?_)
    refine fro_bnd (frX12_isForever h1) (fun _ a => a.pick [1, 2, 3, 4, 5, 6] rfl) c_h1 (fun x3 h2 c_h2 => ?_)
    refine fro_if ?_ ?_
    ·
      refine fro_let (fun x4 => ?_)
      exact hrec x4 h2 c_h2
    ·
      exact fro_some c_h2
set_option maxHeartbeats 4000000 in
theorem frX12_speeds (h : Hp) : FrO wX12_speeds h (fX12_speeds h) := by
  have c_h : Fr wX12_speeds h h := Fr.rf
  unfold fX12_speeds
  refine frX12_speeds_l2 _ _ (fun h5 c_h5 => ?_) FU 1 h c_h
  exact fro_some c_h5
def wX12_starts : List FE := [(10, some 0, some 24), (59, some 0, none), (10, some 0, some 46), (10, some 0, some 47), (63, some 0, none), (58, some 0, none), (60, some 0, none)]
set_option maxHeartbeats 4000000 in
theorem frX12_starts_l4 (K : Int32 → Hp → Option (Int32 × Hp)) (h0 : Hp) (hK : ∀ (y1 : Int32) (h : Hp), Fr wX12_starts h0 h → FrO wX12_starts h0 (K y1 h)) : ∀ (n : Nat) (l1 l2 : Int32) (h : Hp), Fr wX12_starts h0 h → FrO wX12_starts h0 (itr2 (fX12_starts_l4 K) n l1 l2 h) := by
  refine fro_itr2 ?_
  intro rec hrec l1 l2 h c_h
  unfold fX12_starts_l4
  refine fro_if ?_ ?_
  ·
    exact hK l1 h c_h
  ·
    refine fro_h (fr_wr 0 rfl) c_h (fun h1 c_h1 => ?_)
    refine fro_bnd (frX12_isForever h1) (fun _ a => a.pick [1, 2, 3, 4, 5, 6] rfl) c_h1 (fun x3 h2 c_h2 => ?_)
    refine fro_jn (fun (k30_3 : Int32 → Hp → Option (Int32 × Hp)) => ∀ (z0_3 : Int32) (h5 : Hp), Fr wX12_starts h0 h5 → FrO wX12_starts h0 (k30_3 z0_3 h5)) (fun z0_3 h5 c_h5 => ?_) (fun k30_3 Hk30_3 => ?_)
    ·
      refine fro_let (fun x6 => ?_)
      refine fro_let (fun x7 => ?_)
      exact hrec x6 x7 h5 c_h5
    refine fro_if ?_ ?_
    ·
      exact Hk30_3 0 h2 c_h2
    ·
      exact Hk30_3 ((1 : Int32) <<< (l2 &&& 31)) h2 c_h2
set_option maxHeartbeats 4000000 in
theorem frX12_starts (h : Hp) : FrO wX12_starts h (fX12_starts h) := by
  have c_h : Fr wX12_starts h h := Fr.rf
  unfold fX12_starts
  refine frX12_starts_l4 _ _ (fun y8 h9 c_h9 => ?_) FU 0 0 h c_h
  exact fro_some c_h9
def wX12_need : List FE := [(10, some 0, some 0), (10, some 0, some 21), (10, some 0, some 23), (10, some 0, some 24), (10, some 0, some 22), (10, some 0, some 25), (53, some 0, none), (54, some 0, none), (55, some 0, none), (59, some 0, none), (10, some 0, some 46), (10, some 0, some 47), (63, some 0, none), (58, some 0, none), (60, some 0, none)]
set_option maxHeartbeats 4000000 in
theorem frX12_need (l1 : Int32) (l2 : Int32) (h : Hp) : FrO wX12_need h (fX12_need l1 l2 h) := by
  have c_h : Fr wX12_need h h := Fr.rf
  unfold fX12_need
  refine fro_h (fr_wr 0 rfl) c_h (fun h1 c_h1 => ?_)
  refine fro_bnd (frX12_hand l1 h1) (fun _ a => a.pick [1, 2, 3, 4, 5, 6, 7, 8] rfl) c_h1 (fun x3 h2 c_h2 => ?_)
  refine fro_if ?_ ?_
  ·
    exact fro_some c_h2
  ·
    refine fro_if ?_ ?_
    ·
      refine fro_if ?_ ?_
      ·
        refine fro_bnd (frX12_speeds h2) (fun _ a => a.pick [2, 9, 10, 11, 12, 13, 14] rfl) c_h2 (fun x6 h5 c_h5 => ?_)
        exact fro_some c_h5
      refine fro_if ?_ ?_
      ·
        refine fro_bnd (frX12_starts h2) (fun _ a => a.pick [3, 9, 10, 11, 12, 13, 14] rfl) c_h2 (fun x9 h8 c_h8 => ?_)
        exact fro_some c_h8
      refine fro_if ?_ ?_
      ·
        refine fro_bnd (frX12_leave h2) (fun _ a => a.pick [5, 9, 10, 11, 12, 13, 14] rfl) c_h2 (fun x12 h11 c_h11 => ?_)
        refine fro_bnd (frX12_ones x12 h11) (fun _ a => a.pick [] rfl) c_h11 (fun x14 h13 c_h13 => ?_)
        exact fro_some c_h13
      refine fro_if ?_ ?_
      ·
        refine fro_bnd (frX12_leave h2) (fun _ a => a.pick [5, 9, 10, 11, 12, 13, 14] rfl) c_h2 (fun x17 h16 c_h16 => ?_)
        exact fro_some c_h16
      refine fro_if ?_ ?_
      ·
        refine fro_bnd (frX12_spare h2) (fun _ a => a.pick [5, 9, 10, 11, 12, 13, 14] rfl) c_h2 (fun x20 h19 c_h19 => ?_)
        exact fro_some c_h19
      refine fro_if ?_ ?_
      ·
        refine fro_jn (fun (k152_21 : Int32 → Hp → Option (Int32 × Hp)) => ∀ (z0_21 : Int32) (h23 : Hp), Fr wX12_need h h23 → FrO wX12_need h (k152_21 z0_21 h23)) (fun z0_21 h23 c_h23 => ?_) (fun k152_21 Hk152_21 => ?_)
        ·
          refine fro_bnd (frX12_reachedStands z0_21 h23) (fun _ a => a.pick [9, 10, 11, 12, 13, 14] rfl) c_h23 (fun x25 h24 c_h24 => ?_)
          exact fro_some c_h24
        refine fro_if ?_ ?_
        ·
          exact Hk152_21 1 h2 c_h2
        ·
          exact Hk152_21 0 h2 c_h2
      refine fro_if ?_ ?_
      ·
        refine fro_jn (fun (k152_26 : Int32 → Hp → Option (Int32 × Hp)) => ∀ (z0_26 : Int32) (h28 : Hp), Fr wX12_need h h28 → FrO wX12_need h (k152_26 z0_26 h28)) (fun z0_26 h28 c_h28 => ?_) (fun k152_26 Hk152_26 => ?_)
        ·
          refine fro_bnd (frX12_reachedStands z0_26 h28) (fun _ a => a.pick [9, 10, 11, 12, 13, 14] rfl) c_h28 (fun x30 h29 c_h29 => ?_)
          exact fro_some c_h29
        refine fro_if ?_ ?_
        ·
          exact Hk152_26 1 h2 c_h2
        ·
          exact Hk152_26 0 h2 c_h2
      exact fro_some c_h2
    ·
      refine fro_jn (fun (k67_30 : Hp → Option (Int32 × Hp)) => ∀ (h32 : Hp), Fr wX12_need h h32 → FrO wX12_need h (k67_30 h32)) (fun h32 c_h32 => ?_) (fun k67_30 Hk67_30 => ?_)
      ·
        exact fro_some c_h32
      refine fro_if ?_ ?_
      ·
        exact Hk67_30 h2 c_h2
      ·
        refine fro_bnd (frX12_isPlate (irm l2 10) h2) (fun _ a => a.pick [] rfl) c_h2 (fun x34 h33 c_h33 => ?_)
        refine fro_if ?_ ?_
        ·
          exact Hk67_30 h33 c_h33
        ·
          refine fro_if ?_ ?_
          ·
            refine fro_bnd (frX12_movesOf (l2 - (20 : Int32)) h33) (fun _ a => a.pick [6, 9, 10, 11, 12, 13, 14] rfl) c_h33 (fun x36 h35 c_h35 => ?_)
            exact fro_some c_h35
          ·
            refine fro_bnd (frX12_needOf (l2 - (10 : Int32)) h33) (fun _ a => a.pick [7, 8, 9, 10, 11, 12, 13, 14] rfl) c_h33 (fun x38 h37 c_h37 => ?_)
            exact fro_some c_h37
def wX12_odds : List FE := [(10, some 0, some 0), (10, some 0, some 21), (10, some 0, some 23), (10, some 0, some 24), (10, some 0, some 22), (10, some 0, some 25), (53, some 0, none), (54, some 0, none), (55, some 0, none)]
set_option maxHeartbeats 4000000 in
theorem frX12_odds_l53 (l2 : Int32) (l3 : Int32) (l4 : Int32) (K : Int32 → Hp → Option (Int32 × Hp)) (h0 : Hp) (hK : ∀ (y6 : Int32) (h : Hp), Fr wX12_odds h0 h → FrO wX12_odds h0 (K y6 h)) : ∀ (n : Nat) (l6 l7 l8 : Int32) (h : Hp), Fr wX12_odds h0 h → FrO wX12_odds h0 (itr3 (fX12_odds_l53 l2 l3 l4 K) n l6 l7 l8 h) := by
  refine fro_itr3 ?_
  intro rec hrec l6 l7 l8 h c_h
  unfold fX12_odds_l53
  refine fro_if ?_ ?_
  ·
    exact hK l6 h c_h
  ·
    refine fro_ck ?_
    refine fro_jn (fun (k102_9 : Int32 → Hp → Option (Int32 × Hp)) => ∀ (z0_9 : Int32) (h11 : Hp), Fr wX12_odds h0 h11 → FrO wX12_odds h0 (k102_9 z0_9 h11)) (fun z0_9 h11 c_h11 => ?_) (fun k102_9 Hk102_9 => ?_)
    ·
      refine fro_let (fun x12 => ?_)
      refine fro_ck ?_
      refine fro_let (fun x13 => ?_)
      refine fro_let (fun x14 => ?_)
      exact hrec x12 x13 x14 h11 c_h11
    refine fro_if ?_ ?_
    ·
      exact Hk102_9 0 h c_h
    ·
      refine fro_bnd (frX12_times l3 l8 h) (fun _ a => a.pick [] rfl) c_h (fun x16 h15 c_h15 => ?_)
      refine fro_bnd (frX12_times ((10 : Int32) - l3) (l4 - l8) h15) (fun _ a => a.pick [] rfl) c_h15 (fun x18 h17 c_h17 => ?_)
      exact Hk102_9 ((l7 * x16) * x18) h17 c_h17
set_option maxHeartbeats 4000000 in
theorem frX12_odds (l1 : Int32) (l2 : Int32) (l3 : Int32) (l4 : Int32) (l5 : Int32) (h : Hp) : FrO wX12_odds h (fX12_odds l1 l2 l3 l4 l5 h) := by
  have c_h : Fr wX12_odds h h := Fr.rf
  unfold fX12_odds
  refine fro_h (fr_wr 0 rfl) c_h (fun h1 c_h1 => ?_)
  refine fro_bnd (frX12_in l3 0 10 h1) (fun _ a => a.pick [] rfl) c_h1 (fun x3 h2 c_h2 => ?_)
  refine fro_if ?_ ?_
  ·
    exact fro_some c_h2
  ·
    refine fro_bnd (frX12_in l4 0 6 h2) (fun _ a => a.pick [] rfl) c_h2 (fun x5 h4 c_h4 => ?_)
    refine fro_if ?_ ?_
    ·
      exact fro_some c_h4
    ·
      refine fro_bnd (frX12_hand l1 h4) (fun _ a => a.pick [1, 2, 3, 4, 5, 6, 7, 8] rfl) c_h4 (fun x7 h6 c_h6 => ?_)
      refine fro_if ?_ ?_
      ·
        exact fro_some c_h6
      ·
        refine fro_bnd (frX12_isPlate l2 h6) (fun _ a => a.pick [] rfl) c_h6 (fun x9 h8 c_h8 => ?_)
        refine fro_if ?_ ?_
        ·
          exact fro_some c_h8
        ·
          refine frX12_odds_l53 l2 l3 l4 _ _ (fun y19 h20 c_h20 => ?_) FU 0 1 0 h8 c_h8
          refine fro_bnd (frX12_times 10 l4 h20) (fun _ a => a.pick [] rfl) c_h20 (fun x22 h21 c_h21 => ?_)
          refine fro_bnd (frX12_part y19 x22 l5 h21) (fun _ a => a.pick [] rfl) c_h21 (fun x24 h23 c_h23 => ?_)
          exact fro_some c_h23
def wX12_play : List FE := [(63, some 0, none), (10, some 0, some 31), (10, some 0, some 30), (10, some 0, some 35), (10, some 0, some 36), (10, some 0, some 37), (57, some 0, none), (10, some 0, some 32), (56, some 0, none), (10, some 0, some 33), (10, some 0, some 34), (10, some 0, some 29), (54, some 0, none)]
set_option maxHeartbeats 4000000 in
theorem frX12_play_l2 (l1 : Int32) (K : Int32 → Hp → Option (Int32 × Hp)) (h0 : Hp) (hK : ∀ (y2 : Int32) (h : Hp), Fr wX12_play h0 h → FrO wX12_play h0 (K y2 h)) : ∀ (n : Nat) (l2 : Int32) (h : Hp), Fr wX12_play h0 h → FrO wX12_play h0 (itr1 (fX12_play_l2 l1 K) n l2 h) := by
  refine fro_itr1 ?_
  intro rec hrec l2 h c_h
  unfold fX12_play_l2
  refine fro_if ?_ ?_
  ·
    exact hK l2 h c_h
  ·
    refine fro_bnd (frX12_doesDeed l2 h) (fun _ a => a.pick [0, 1, 2, 3, 4, 5, 6, 7, 8, 9, 10, 11, 12] rfl) c_h (fun x2 h1 c_h1 => ?_)
    refine fro_if ?_ ?_
    ·
      exact hK l2 h1 c_h1
    ·
      refine fro_let (fun x3 => ?_)
      exact hrec x3 h1 c_h1
set_option maxHeartbeats 4000000 in
theorem frX12_play (l1 : Int32) (h : Hp) : FrO wX12_play h (fX12_play l1 h) := by
  have c_h : Fr wX12_play h h := Fr.rf
  unfold fX12_play
  refine frX12_play_l2 l1 _ _ (fun y4 h5 c_h5 => ?_) FU 0 h c_h
  exact fro_some c_h5
def wX12_readText : List FE := [(51, some 0, none), (10, some 0, some 9), (10, some 0, some 16), (10, some 0, some 11), (10, some 0, some 12), (10, some 0, some 13), (10, some 0, some 20), (10, some 0, some 15), (10, some 0, some 17), (52, some 0, none), (45, some 0, none), (46, some 0, none)]
set_option maxHeartbeats 4000000 in
theorem frX12_readText_l2 (K : Hp → Option (Int32 × Hp)) (h0 : Hp) (hK : ∀ (h : Hp), Fr wX12_readText h0 h → FrO wX12_readText h0 (K  h)) : ∀ (n : Nat) (l2 : Int32) (h : Hp), Fr wX12_readText h0 h → FrO wX12_readText h0 (itr1 (fX12_readText_l2 K) n l2 h) := by
  refine fro_itr1 ?_
  intro rec hrec l2 h c_h
  unfold fX12_readText_l2
  refine fro_if ?_ ?_
  ·
    exact hK h c_h
  ·
    refine fro_ck ?_
    refine fro_h (fr_wa 0 rfl) c_h (fun h1 c_h1 => ?_)
    refine fro_let (fun x2 => ?_)
    exact hrec x2 h1 c_h1
set_option maxHeartbeats 4000000 in
theorem frX12_readText (l1 : Int32) (h : Hp) : FrO wX12_readText h (fX12_readText l1 h) := by
  have c_h : Fr wX12_readText h h := Fr.rf
  unfold fX12_readText
  refine frX12_readText_l2 _ _ (fun h3 c_h3 => ?_) FU 0 h c_h
  refine fro_jn (fun (k44_3 : Int32 → Hp → Option (Int32 × Hp)) => ∀ (z0_3 : Int32) (h5 : Hp), Fr wX12_readText h h5 → FrO wX12_readText h (k44_3 z0_3 h5)) (fun z0_3 h5 c_h5 => ?_) (fun k44_3 Hk44_3 => ?_)
  ·
    refine fro_ck ?_
    refine fro_h (fr_wa 0 rfl) c_h5 (fun h6 c_h6 => ?_)
    refine fro_h (fr_wr 1 rfl) c_h6 (fun h7 c_h7 => ?_)
    refine fro_h (fr_wr 2 rfl) c_h7 (fun h8 c_h8 => ?_)
    refine fro_bnd (frX12_token h8) (fun _ a => a.pick [1, 3, 4, 5] rfl) c_h8 (fun _ h9 c_h9 => ?_)
    refine fro_bnd (frX12_allLines l1 h9) (fun _ a => a.pick [6, 1, 3, 4, 5, 7, 2, 8, 9, 0] rfl) c_h9 (fun x11 h10 c_h10 => ?_)
    refine fro_jn (fun (k82_11 : Int32 → Hp → Option (Int32 × Hp)) => ∀ (z0_11 : Int32) (h13 : Hp), Fr wX12_readText h h13 → FrO wX12_readText h (k82_11 z0_11 h13)) (fun z0_11 h13 c_h13 => ?_) (fun k82_11 Hk82_11 => ?_)
    ·
      refine fro_ck ?_
      refine fro_h (fr_wa 10 rfl) c_h13 (fun h14 c_h14 => ?_)
      refine fro_jn (fun (k114_14 : Int32 → Hp → Option (Int32 × Hp)) => ∀ (z0_14 : Int32) (h16 : Hp), Fr wX12_readText h h16 → FrO wX12_readText h (k114_14 z0_14 h16)) (fun z0_14 h16 c_h16 => ?_) (fun k114_14 Hk114_14 => ?_)
      ·
        refine fro_ck ?_
        refine fro_h (fr_wa 11 rfl) c_h16 (fun h17 c_h17 => ?_)
        refine fro_ck ?_
        refine fro_if ?_ ?_
        ·
          refine fro_ck ?_
          exact fro_some c_h17
        ·
          refine fro_ck ?_
          exact fro_some c_h17
      refine fro_if ?_ ?_
      ·
        exact Hk114_14 (rd h14 10 0 15) h14 c_h14
      ·
        refine fro_if ?_ ?_
        ·
          exact Hk114_14 (-1) h14 c_h14
        ·
          exact Hk114_14 (rd h14 10 0 17) h14 c_h14
    refine fro_if ?_ ?_
    ·
      exact Hk82_11 1 h10 c_h10
    ·
      exact Hk82_11 (rd h10 10 0 16) h10 c_h10
  refine fro_if ?_ ?_
  ·
    exact Hk44_3 2 h3 c_h3
  ·
    refine fro_if ?_ ?_
    ·
      exact Hk44_3 1 h3 c_h3
    ·
      exact Hk44_3 0 h3 c_h3
def wX12_saved : List FE := [(10, some 0, some 23), (10, some 0, some 24), (10, some 0, some 22), (10, some 0, some 25), (53, some 0, none), (54, some 0, none), (55, some 0, none), (10, some 0, some 29), (10, some 0, some 30), (10, some 0, some 31), (10, some 0, some 32), (10, some 0, some 33), (10, some 0, some 34), (10, some 0, some 35), (10, some 0, some 36), (10, some 0, some 37), (63, some 0, none), (56, some 0, none), (57, some 0, none)]
set_option maxHeartbeats 4000000 in
theorem frX12_saved_l63 (l1 : Int32) (l2 : Int32) (K : Hp → Option (Int32 × Hp)) (h0 : Hp) (hK : ∀ (h : Hp), Fr wX12_saved h0 h → FrO wX12_saved h0 (K  h)) : ∀ (n : Nat) (l5 : Int32) (h : Hp), Fr wX12_saved h0 h → FrO wX12_saved h0 (itr1 (fX12_saved_l63 l1 l2 K) n l5 h) := by
  refine fro_itr1 ?_
  intro rec hrec l5 h c_h
  unfold fX12_saved_l63
  refine fro_if ?_ ?_
  ·
    exact hK h c_h
  ·
    refine fro_bnd (frX12_digit l1 l5 l2 h) (fun _ a => a.pick [] rfl) c_h (fun x8 h7 c_h7 => ?_)
    refine fro_if ?_ ?_
    ·
      refine fro_let (fun x9 => ?_)
      exact hrec x9 h7 c_h7
    ·
      exact fro_some c_h7
set_option maxHeartbeats 4000000 in
theorem frX12_saved_l6 (l1 : Int32) (l2 : Int32) (K : Hp → Option (Int32 × Hp)) (h0 : Hp) (hK : ∀ (h : Hp), Fr wX12_saved h0 h → FrO wX12_saved h0 (K  h)) : ∀ (n : Nat) (l3 : Int32) (h : Hp), Fr wX12_saved h0 h → FrO wX12_saved h0 (itr1 (fX12_saved_l6 l1 l2 K) n l3 h) := by
  refine fro_itr1 ?_
  intro rec hrec l3 h c_h
  unfold fX12_saved_l6
  refine fro_if ?_ ?_
  ·
    exact hK h c_h
  ·
    refine fro_bnd (frX12_digit l1 l3 l2 h) (fun _ a => a.pick [] rfl) c_h (fun x3 h2 c_h2 => ?_)
    refine fro_jn (fun (k48_3 : Hp → Option (Int32 × Hp)) => ∀ (h5 : Hp), Fr wX12_saved h0 h5 → FrO wX12_saved h0 (k48_3 h5)) (fun h5 c_h5 => ?_) (fun k48_3 Hk48_3 => ?_)
    ·
      refine fro_if ?_ ?_
      ·
        refine fro_let (fun x6 => ?_)
        refine frX12_saved_l63 l1 l2 _ _ (fun h10 c_h10 => ?_) FU x6 h5 c_h5
        refine fro_let (fun x11 => ?_)
        exact hrec x11 h10 c_h10
      ·
        exact fro_some c_h5
    refine fro_if ?_ ?_
    ·
      refine fro_bnd (frX12_does 0 (-1) h2) (fun _ a => a.pick [16, 9, 8, 13, 14, 15, 18, 10, 17, 11, 12, 7, 5] rfl) c_h2 (fun x13 h12 c_h12 => ?_)
      refine fro_if ?_ ?_
      ·
        exact fro_some c_h12
      ·
        exact Hk48_3 h12 c_h12
    ·
      refine fro_bnd (frX12_does 1 x3 h2) (fun _ a => a.pick [16, 9, 8, 13, 14, 15, 18, 10, 17, 11, 12, 7, 5] rfl) c_h2 (fun x15 h14 c_h14 => ?_)
      refine fro_if ?_ ?_
      ·
        exact fro_some c_h14
      ·
        exact Hk48_3 h14 c_h14
set_option maxHeartbeats 4000000 in
theorem frX12_saved (l1 : Int32) (l2 : Int32) (h : Hp) : FrO wX12_saved h (fX12_saved l1 l2 h) := by
  have c_h : Fr wX12_saved h h := Fr.rf
  unfold fX12_saved
  refine fro_bnd (frX12_beginShow h) (fun _ a => a.pick [0, 1, 2, 3, 4, 5, 6, 7, 8, 9, 10, 11, 12, 13, 14, 15, 16, 17, 18] rfl) c_h (fun _ h1 c_h1 => ?_)
  refine frX12_saved_l6 l1 l2 _ _ (fun h16 c_h16 => ?_) FU 0 h1 c_h1
  refine fro_bnd (frX12_standNow h16) (fun _ a => a.pick [] rfl) c_h16 (fun x18 h17 c_h17 => ?_)
  refine fro_bnd (frX12_ones x18 h17) (fun _ a => a.pick [] rfl) c_h17 (fun x20 h19 c_h19 => ?_)
  exact fro_some c_h19
def wX12_save : List FE := [(10, some 0, some 0), (10, some 0, some 21), (10, some 0, some 23), (10, some 0, some 24), (10, some 0, some 22), (10, some 0, some 25), (53, some 0, none), (54, some 0, none), (55, some 0, none), (10, some 0, some 29), (10, some 0, some 30), (10, some 0, some 31), (10, some 0, some 32), (10, some 0, some 33), (10, some 0, some 34), (10, some 0, some 35), (10, some 0, some 36), (10, some 0, some 37), (63, some 0, none), (56, some 0, none), (57, some 0, none)]
set_option maxHeartbeats 4000000 in
theorem frX12_save_l35 (l2 : Int32) (K : Int32 → Int32 → Hp → Option (Int32 × Hp)) (h0 : Hp) (hK : ∀ (y4 y5 : Int32) (h : Hp), Fr wX12_save h0 h → FrO wX12_save h0 (K y4 y5 h)) : ∀ (n : Nat) (l4 l5 l6 : Int32) (h : Hp), Fr wX12_save h0 h → FrO wX12_save h0 (itr3 (fX12_save_l35 l2 K) n l4 l5 l6 h) := by
  refine fro_itr3 ?_
  intro rec hrec l4 l5 l6 h c_h
  unfold fX12_save_l35
  refine fro_bnd (frX12_sixes l2 h) (fun _ a => a.pick [] rfl) c_h (fun x7 h6 c_h6 => ?_)
  refine fro_if ?_ ?_
  ·
    exact hK l4 l5 h6 c_h6
  ·
    refine fro_bnd (frX12_saved l6 l2 h6) (fun _ a => a.pick [2, 3, 4, 5, 6, 7, 8, 9, 10, 11, 12, 13, 14, 15, 16, 17, 18, 19, 20] rfl) c_h6 (fun x9 h8 c_h8 => ?_)
    refine fro_jn (fun (k77_9 : Int32 → Hp → Option (Int32 × Hp)) => ∀ (z0_9 : Int32) (h11 : Hp), Fr wX12_save h0 h11 → FrO wX12_save h0 (k77_9 z0_9 h11)) (fun z0_9 h11 c_h11 => ?_) (fun k77_9 Hk77_9 => ?_)
    ·
      refine fro_bnd (frX12_greater l4 x9 h11) (fun _ a => a.pick [] rfl) c_h11 (fun x13 h12 c_h12 => ?_)
      refine fro_let (fun x14 => ?_)
      exact hrec x13 z0_9 x14 h12 c_h12
    refine fro_jn (fun (k75_14 : Hp → Option (Int32 × Hp)) => ∀ (h16 : Hp), Fr wX12_save h0 h16 → FrO wX12_save h0 (k75_14 h16)) (fun h16 c_h16 => ?_) (fun k75_14 Hk75_14 => ?_)
    ·
      exact Hk77_9 l5 h16 c_h16
    refine fro_if ?_ ?_
    ·
      exact Hk75_14 h8 c_h8
    ·
      refine fro_if ?_ ?_
      ·
        exact Hk75_14 h8 c_h8
      ·
        refine fro_bnd (frX12_digit l6 0 l2 h8) (fun _ a => a.pick [] rfl) c_h8 (fun x18 h17 c_h17 => ?_)
        exact Hk77_9 x18 h17 c_h17
set_option maxHeartbeats 4000000 in
theorem frX12_save (l1 : Int32) (l2 : Int32) (l3 : Int32) (h : Hp) : FrO wX12_save h (fX12_save l1 l2 l3 h) := by
  have c_h : Fr wX12_save h h := Fr.rf
  unfold fX12_save
  refine fro_h (fr_wr 0 rfl) c_h (fun h1 c_h1 => ?_)
  refine fro_bnd (frX12_in l2 0 6 h1) (fun _ a => a.pick [] rfl) c_h1 (fun x3 h2 c_h2 => ?_)
  refine fro_if ?_ ?_
  ·
    exact fro_some c_h2
  ·
    refine fro_bnd (frX12_hand l1 h2) (fun _ a => a.pick [1, 2, 3, 4, 5, 6, 7, 8] rfl) c_h2 (fun x5 h4 c_h4 => ?_)
    refine fro_if ?_ ?_
    ·
      exact fro_some c_h4
    ·
      refine frX12_save_l35 l2 _ _ (fun y19 y20 h21 c_h21 => ?_) FU (-1) (-1) 0 h4 c_h4
      refine fro_if ?_ ?_
      ·
        exact fro_some c_h21
      ·
        exact fro_some c_h21
def wX12_stage : List FE := [(10, some 0, some 0), (10, some 0, some 21), (10, some 0, some 23), (10, some 0, some 24), (10, some 0, some 22), (10, some 0, some 25), (53, some 0, none), (54, some 0, none), (55, some 0, none)]
set_option maxHeartbeats 4000000 in
theorem frX12_stage (l1 : Int32) (l2 : Int32) (h : Hp) : FrO wX12_stage h (fX12_stage l1 l2 h) := by
  have c_h : Fr wX12_stage h h := Fr.rf
  unfold fX12_stage
  refine fro_h (fr_wr 0 rfl) c_h (fun h1 c_h1 => ?_)
  refine fro_bnd (frX12_hand l1 h1) (fun _ a => a.pick [1, 2, 3, 4, 5, 6, 7, 8] rfl) c_h1 (fun x3 h2 c_h2 => ?_)
  refine fro_if ?_ ?_
  ·
    exact fro_some c_h2
  ·
    refine fro_let (fun x4 => ?_)
    refine fro_if ?_ ?_
    ·
      refine fro_jn (fun (k78_4 : Hp → Option (Int32 × Hp)) => ∀ (h6 : Hp), Fr wX12_stage h h6 → FrO wX12_stage h (k78_4 h6)) (fun h6 c_h6 => ?_) (fun k78_4 Hk78_4 => ?_)
      ·
        exact fro_some c_h6
      refine fro_if ?_ ?_
      ·
        exact Hk78_4 h2 c_h2
      ·
        refine fro_bnd (frX12_isPlate x4 h2) (fun _ a => a.pick [] rfl) c_h2 (fun x8 h7 c_h7 => ?_)
        refine fro_if ?_ ?_
        ·
          exact Hk78_4 h7 c_h7
        ·
          refine fro_bnd (frX12_of (((3 : Int32) + ((5 : Int32) * ((l2 / 10) - (1 : Int32)))) + x4) h7) (fun _ a => a.pick [] rfl) c_h7 (fun x10 h9 c_h9 => ?_)
          exact fro_some c_h9
    ·
      refine fro_bnd (frX12_in l2 0 2 h2) (fun _ a => a.pick [] rfl) c_h2 (fun x12 h11 c_h11 => ?_)
      refine fro_if ?_ ?_
      ·
        exact fro_some c_h11
      ·
        refine fro_bnd (frX12_of l2 h11) (fun _ a => a.pick [] rfl) c_h11 (fun x14 h13 c_h13 => ?_)
        exact fro_some c_h13
def wX12_state : List FE := [(10, some 0, some 0), (10, some 0, some 40), (10, some 0, some 21), (10, some 0, some 23), (10, some 0, some 24), (10, some 0, some 22), (10, some 0, some 25), (53, some 0, none), (54, some 0, none), (55, some 0, none), (10, some 0, some 29), (10, some 0, some 30), (10, some 0, some 31), (10, some 0, some 32), (10, some 0, some 33), (10, some 0, some 34), (10, some 0, some 35), (10, some 0, some 36), (10, some 0, some 37), (63, some 0, none), (56, some 0, none), (57, some 0, none)]
set_option maxHeartbeats 4000000 in
theorem frX12_state (l1 : Int32) (l2 : Int32) (l3 : Int32) (l4 : Int32) (h : Hp) : FrO wX12_state h (fX12_state l1 l2 l3 l4 h) := by
  have c_h : Fr wX12_state h h := Fr.rf
  unfold fX12_state
  refine fro_h (fr_wr 0 rfl) c_h (fun h1 c_h1 => ?_)
  refine fro_bnd (frX12_layAll l1 l2 h1) (fun _ a => a.pick [1, 2, 3, 4, 5, 6, 7, 8, 9, 10, 11, 12, 13, 14, 15, 16, 17, 18, 19, 20, 21] rfl) c_h1 (fun x3 h2 c_h2 => ?_)
  refine fro_jn (fun (k44_3 : Hp → Option (Int32 × Hp)) => ∀ (h5 : Hp), Fr wX12_state h h5 → FrO wX12_state h (k44_3 h5)) (fun h5 c_h5 => ?_) (fun k44_3 Hk44_3 => ?_)
  ·
    exact fro_some c_h5
  refine fro_if ?_ ?_
  ·
    exact Hk44_3 h2 c_h2
  ·
    refine fro_bnd (frX12_deeds h2) (fun _ a => a.pick [] rfl) c_h2 (fun x7 h6 c_h6 => ?_)
    refine fro_bnd (frX12_in l3 0 x7 h6) (fun _ a => a.pick [] rfl) c_h6 (fun x9 h8 c_h8 => ?_)
    refine fro_if ?_ ?_
    ·
      exact Hk44_3 h8 c_h8
    ·
      refine fro_bnd (frX12_play l3 h8) (fun _ a => a.pick [19, 12, 11, 16, 17, 18, 21, 13, 20, 14, 15, 10, 8] rfl) c_h8 (fun x11 h10 c_h10 => ?_)
      refine fro_if ?_ ?_
      ·
        refine fro_bnd (frX12_ofState l4 h10) (fun _ a => a.pick [] rfl) c_h10 (fun x13 h12 c_h12 => ?_)
        exact fro_some c_h12
      ·
        exact Hk44_3 h10 c_h10
def wX12_stop : List FE := [(10, some 0, some 0), (10, some 0, some 40), (10, some 0, some 21), (10, some 0, some 23), (10, some 0, some 24), (10, some 0, some 22), (10, some 0, some 25), (53, some 0, none), (54, some 0, none), (55, some 0, none), (10, some 0, some 29), (10, some 0, some 30), (10, some 0, some 31), (10, some 0, some 32), (10, some 0, some 33), (10, some 0, some 34), (10, some 0, some 35), (10, some 0, some 36), (10, some 0, some 37), (63, some 0, none), (56, some 0, none), (57, some 0, none)]
set_option maxHeartbeats 4000000 in
theorem frX12_stop (l1 : Int32) (l2 : Int32) (h : Hp) : FrO wX12_stop h (fX12_stop l1 l2 h) := by
  have c_h : Fr wX12_stop h h := Fr.rf
  unfold fX12_stop
  refine fro_h (fr_wr 0 rfl) c_h (fun h1 c_h1 => ?_)
  refine fro_bnd (frX12_layAll l1 l2 h1) (fun _ a => a.pick [1, 2, 3, 4, 5, 6, 7, 8, 9, 10, 11, 12, 13, 14, 15, 16, 17, 18, 19, 20, 21] rfl) c_h1 (fun x3 h2 c_h2 => ?_)
  refine fro_if ?_ ?_
  ·
    exact fro_some c_h2
  ·
    refine fro_bnd (frX12_deeds h2) (fun _ a => a.pick [] rfl) c_h2 (fun x5 h4 c_h4 => ?_)
    refine fro_bnd (frX12_play x5 h4) (fun _ a => a.pick [19, 12, 11, 16, 17, 18, 21, 13, 20, 14, 15, 10, 8] rfl) c_h4 (fun x7 h6 c_h6 => ?_)
    exact fro_some c_h6
def wX12_store_48 : List FE := [(48, some 0, none)]
set_option maxHeartbeats 4000000 in
theorem frX12_store_48_l3 (l2 : Int32) (l3 : Int32) (K : Hp → Option (Unit × Hp)) (h0 : Hp) (hK : ∀ (h : Hp), Fr wX12_store_48 h0 h → FrO wX12_store_48 h0 (K  h)) : ∀ (n : Nat) (l4 : Int32) (h : Hp), Fr wX12_store_48 h0 h → FrO wX12_store_48 h0 (itr1 (fX12_store_48_l3 l2 l3 K) n l4 h) := by
  refine fro_itr1 ?_
  intro rec hrec l4 h c_h
  unfold fX12_store_48_l3
  refine fro_if ?_ ?_
  ·
    exact hK h c_h
  ·
    refine fro_ck ?_
    refine fro_ck ?_
    refine fro_h (fr_wa 0 rfl) c_h (fun h1 c_h1 => ?_)
    refine fro_let (fun x2 => ?_)
    exact hrec x2 h1 c_h1
set_option maxHeartbeats 4000000 in
theorem frX12_store_48 (l2 : Int32) (l3 : Int32) (h : Hp) : FrO wX12_store_48 h (fX12_store_48 l2 l3 h) := by
  have c_h : Fr wX12_store_48 h h := Fr.rf
  unfold fX12_store_48
  refine frX12_store_48_l3 l2 l3 _ _ (fun h3 c_h3 => ?_) FU 0 h c_h
  exact fro_some c_h3
def wX12_store_49 : List FE := [(49, some 0, none)]
set_option maxHeartbeats 4000000 in
theorem frX12_store_49_l3 (l2 : Int32) (l3 : Int32) (K : Hp → Option (Unit × Hp)) (h0 : Hp) (hK : ∀ (h : Hp), Fr wX12_store_49 h0 h → FrO wX12_store_49 h0 (K  h)) : ∀ (n : Nat) (l4 : Int32) (h : Hp), Fr wX12_store_49 h0 h → FrO wX12_store_49 h0 (itr1 (fX12_store_49_l3 l2 l3 K) n l4 h) := by
  refine fro_itr1 ?_
  intro rec hrec l4 h c_h
  unfold fX12_store_49_l3
  refine fro_if ?_ ?_
  ·
    exact hK h c_h
  ·
    refine fro_ck ?_
    refine fro_ck ?_
    refine fro_h (fr_wa 0 rfl) c_h (fun h1 c_h1 => ?_)
    refine fro_let (fun x2 => ?_)
    exact hrec x2 h1 c_h1
set_option maxHeartbeats 4000000 in
theorem frX12_store_49 (l2 : Int32) (l3 : Int32) (h : Hp) : FrO wX12_store_49 h (fX12_store_49 l2 l3 h) := by
  have c_h : Fr wX12_store_49 h h := Fr.rf
  unfold fX12_store_49
  refine frX12_store_49_l3 l2 l3 _ _ (fun h3 c_h3 => ?_) FU 0 h c_h
  exact fro_some c_h3
def wX12_store_50 : List FE := [(50, some 0, none)]
set_option maxHeartbeats 4000000 in
theorem frX12_store_50_l3 (l2 : Int32) (l3 : Int32) (K : Hp → Option (Unit × Hp)) (h0 : Hp) (hK : ∀ (h : Hp), Fr wX12_store_50 h0 h → FrO wX12_store_50 h0 (K  h)) : ∀ (n : Nat) (l4 : Int32) (h : Hp), Fr wX12_store_50 h0 h → FrO wX12_store_50 h0 (itr1 (fX12_store_50_l3 l2 l3 K) n l4 h) := by
  refine fro_itr1 ?_
  intro rec hrec l4 h c_h
  unfold fX12_store_50_l3
  refine fro_if ?_ ?_
  ·
    exact hK h c_h
  ·
    refine fro_ck ?_
    refine fro_ck ?_
    refine fro_h (fr_wa 0 rfl) c_h (fun h1 c_h1 => ?_)
    refine fro_let (fun x2 => ?_)
    exact hrec x2 h1 c_h1
set_option maxHeartbeats 4000000 in
theorem frX12_store_50 (l2 : Int32) (l3 : Int32) (h : Hp) : FrO wX12_store_50 h (fX12_store_50 l2 l3 h) := by
  have c_h : Fr wX12_store_50 h h := Fr.rf
  unfold fX12_store_50
  refine frX12_store_50_l3 l2 l3 _ _ (fun h3 c_h3 => ?_) FU 0 h c_h
  exact fro_some c_h3
def wX12_text : List FE := [(10, some 0, some 0), (10, some 0, some 10), (44, some 0, none), (45, some 0, none), (46, some 0, none), (51, some 0, none), (10, some 0, some 9), (10, some 0, some 16), (10, some 0, some 11), (10, some 0, some 12), (10, some 0, some 13), (10, some 0, some 20), (10, some 0, some 15), (10, some 0, some 17), (52, some 0, none), (47, some 0, none), (48, some 0, none), (49, some 0, none), (50, some 0, none)]
set_option maxHeartbeats 4000000 in
theorem frX12_text (l1 : Int32) (l2 : Int32) (h : Hp) : FrO wX12_text h (fX12_text l1 l2 h) := by
  have c_h : Fr wX12_text h h := Fr.rf
  unfold fX12_text
  refine fro_h (fr_wr 0 rfl) c_h (fun h1 c_h1 => ?_)
  refine fro_ck ?_
  refine fro_h (fr_wr 1 rfl) c_h1 (fun h2 c_h2 => ?_)
  refine fro_ck ?_
  refine fro_h (fr_wa 2 rfl) c_h2 (fun h3 c_h3 => ?_)
  refine fro_ck ?_
  refine fro_h (fr_wa 3 rfl) c_h3 (fun h4 c_h4 => ?_)
  refine fro_ck ?_
  refine fro_h (fr_wa 4 rfl) c_h4 (fun h5 c_h5 => ?_)
  refine fro_bnd (frX12_in l1 0 2 h5) (fun _ a => a.pick [] rfl) c_h5 (fun x7 h6 c_h6 => ?_)
  refine fro_if ?_ ?_
  ·
    exact fro_some c_h6
  ·
    refine fro_jn (fun (k75_7 : Hp → Option (Int32 × Hp)) => ∀ (h9 : Hp), Fr wX12_text h h9 → FrO wX12_text h (k75_7 h9)) (fun h9 c_h9 => ?_) (fun k75_7 Hk75_7 => ?_)
    ·
      refine fro_bnd (frX12_readText l1 h9) (fun _ a => a.pick [5, 6, 7, 8, 9, 10, 11, 12, 13, 14, 3, 4] rfl) c_h9 (fun x11 h10 c_h10 => ?_)
      refine fro_if ?_ ?_
      ·
        exact fro_some c_h10
      ·
        refine fro_jn (fun (k100_11 : Int32 → Hp → Option (Int32 × Hp)) => ∀ (z0_11 : Int32) (h13 : Hp), Fr wX12_text h h13 → FrO wX12_text h (k100_11 z0_11 h13)) (fun z0_11 h13 c_h13 => ?_) (fun k100_11 Hk100_11 => ?_)
        ·
          refine fro_ck ?_
          refine fro_jn (fun (k118_13 : Int32 → Hp → Option (Int32 × Hp)) => ∀ (z0_13 : Int32) (h15 : Hp), Fr wX12_text h h15 → FrO wX12_text h (k118_13 z0_13 h15)) (fun z0_13 h15 c_h15 => ?_) (fun k118_13 Hk118_13 => ?_)
          ·
            refine fro_ck ?_
            refine fro_h (fr_wa 15 rfl) c_h15 (fun h16 c_h16 => ?_)
            refine fro_if ?_ ?_
            ·
              refine fro_bnd (frX12_store_48 18 z0_11 h16) (fun _ a => a.pick [16] rfl) c_h16 (fun _ h17 c_h17 => ?_)
              exact fro_some c_h17
            ·
              refine fro_if ?_ ?_
              ·
                refine fro_bnd (frX12_store_49 81 z0_11 h16) (fun _ a => a.pick [17] rfl) c_h16 (fun _ h18 c_h18 => ?_)
                exact fro_some c_h18
              ·
                refine fro_bnd (frX12_store_50 26 z0_11 h16) (fun _ a => a.pick [18] rfl) c_h16 (fun _ h19 c_h19 => ?_)
                exact fro_some c_h19
          refine fro_if ?_ ?_
          ·
            exact Hk118_13 1 h13 c_h13
          ·
            exact Hk118_13 0 h13 c_h13
        refine fro_if ?_ ?_
        ·
          refine fro_ck ?_
          exact Hk100_11 (ra h10 47 0 l1) h10 c_h10
        ·
          exact Hk100_11 l2 h10 c_h10
    refine fro_if ?_ ?_
    ·
      refine fro_ck ?_
      refine fro_if ?_ ?_
      ·
        exact fro_some c_h6
      ·
        exact Hk75_7 h6 c_h6
    ·
      refine fro_bnd (frX12_is l1 l2 h6) (fun _ a => a.pick [] rfl) c_h6 (fun x21 h20 c_h20 => ?_)
      refine fro_if ?_ ?_
      ·
        exact fro_some c_h20
      ·
        exact Hk75_7 h20 c_h20
