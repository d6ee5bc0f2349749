def wJ6_bitCount_0f7a4 : List FE := []
set_option maxHeartbeats 4000000 in
theorem frJ6_bitCount_0f7a4 (l0 : Int32) (h : Hp) : FrO wJ6_bitCount_0f7a4 h (fJ6_bitCount_0f7a4 l0 h) := by
  have c_h : Fr wJ6_bitCount_0f7a4 h h := Fr.rf
  unfold fJ6_bitCount_0f7a4
  refine fro_let (fun x1 => ?_)
  refine fro_let (fun x2 => ?_)
  refine fro_let (fun x3 => ?_)
  refine fro_let (fun x4 => ?_)
  refine fro_let (fun x5 => ?_)
  exact fro_some c_h
def wX0_leftOf : List FE := []
set_option maxHeartbeats 4000000 in
theorem frX0_leftOf (l0 : Int32) (l1 : Int32) (h : Hp) : FrO wX0_leftOf h (fX0_leftOf l0 l1 h) := by
  have c_h : Fr wX0_leftOf h h := Fr.rf
  unfold fX0_leftOf
  exact fro_some c_h
def wX0_passed : List FE := []
set_option maxHeartbeats 4000000 in
theorem frX0_passed_l4 (l0 : Int32) (l1 : Int32) (K : Int32 → Hp → Option (Int32 × Hp)) (h0 : Hp) (hK : ∀ (y2 : Int32) (h : Hp), Fr wX0_passed h0 h → FrO wX0_passed h0 (K y2 h)) : ∀ (n : Nat) (l2 l3 : Int32) (h : Hp), Fr wX0_passed h0 h → FrO wX0_passed h0 (itr2 (fX0_passed_l4 l0 l1 K) n l2 l3 h) := by
  refine fro_itr2 ?_
  intro rec hrec l2 l3 h c_h
  unfold fX0_passed_l4
  refine fro_if ?_ ?_
  ·
    exact hK l2 h c_h
  ·
    refine fro_bnd (frX0_leftOf l0 l3 h) (fun _ a => a.pick [] rfl) c_h (fun x2 h1 c_h1 => ?_)
    refine fro_let (fun x3 => ?_)
    refine fro_let (fun x4 => ?_)
    refine fro_let (fun x5 => ?_)
    exact hrec x4 x5 h1 c_h1
set_option maxHeartbeats 4000000 in
theorem frX0_passed (l0 : Int32) (l1 : Int32) (h : Hp) : FrO wX0_passed h (fX0_passed l0 l1 h) := by
  have c_h : Fr wX0_passed h h := Fr.rf
  unfold fX0_passed
  refine frX0_passed_l4 l0 l1 _ _ (fun y6 h7 c_h7 => ?_) FU 0 0 h c_h
  exact fro_some c_h7
def wX0_with : List FE := []
set_option maxHeartbeats 4000000 in
theorem frX0_with (l0 : Int32) (l1 : Int32) (l2 : Int32) (h : Hp) : FrO wX0_with h (fX0_with l0 l1 l2 h) := by
  have c_h : Fr wX0_with h h := Fr.rf
  unfold fX0_with
  exact fro_some c_h
def wX8_way (a0 : Nat) : List FE := []
set_option maxHeartbeats 4000000 in
theorem frX8_way (a0 : Nat) (l1 : Int32) (l2 : Int32) (h : Hp) : FrO (wX8_way a0) h (fX8_way a0 l1 l2 h) := by
  have c_h : Fr (wX8_way a0) h h := Fr.rf
  unfold fX8_way
  refine fro_let (fun x1 => ?_)
  refine fro_let (fun x2 => ?_)
  refine fro_ck ?_
  exact fro_some c_h
def wX0_behindRun (a0 : Nat) : List FE := []
set_option maxHeartbeats 4000000 in
theorem frX0_behindRun (a0 : Nat) (l1 : Int32) (l2 : Int32) (l3 : Int32) (h : Hp) : FrO (wX0_behindRun a0) h (fX0_behindRun a0 l1 l2 l3 h) := by
  have c_h : Fr (wX0_behindRun a0) h h := Fr.rf
  unfold fX0_behindRun
  refine fro_ck ?_
  refine fro_bnd (frX8_way a0 l1 (ra h 33 a0 l3) h) (fun _ a => a.pick [] rfl) c_h (fun x2 h1 c_h1 => ?_)
  refine fro_bnd (frX0_passed l2 (x2 + (1 : Int32)) h1) (fun _ a => a.pick [] rfl) c_h1 (fun x4 h3 c_h3 => ?_)
  refine fro_bnd (frX0_leftOf l2 l3 h3) (fun _ a => a.pick [] rfl) c_h3 (fun x6 h5 c_h5 => ?_)
  refine fro_if ?_ ?_
  ·
    exact fro_some c_h5
  ·
    refine fro_ck ?_
    refine fro_bnd (frX0_with x4 l3 (ra h5 34 a0 l3) h5) (fun _ a => a.pick [] rfl) c_h5 (fun x8 h7 c_h7 => ?_)
    exact fro_some c_h7
def wX0_isKept (a0 : Nat) : List FE := []
set_option maxHeartbeats 4000000 in
theorem frX0_isKept_l16 (a0 : Nat) (l2 : Int32) (l3 : Int32) (l4 : Int32) (K : Hp → Option (Int32 × Hp)) (h0 : Hp) (hK : ∀ (h : Hp), Fr (wX0_isKept a0) h0 h → FrO (wX0_isKept a0) h0 (K  h)) : ∀ (n : Nat) (l5 : Int32) (h : Hp), Fr (wX0_isKept a0) h0 h → FrO (wX0_isKept a0) h0 (itr1 (fX0_isKept_l16 a0 l2 l3 l4 K) n l5 h) := by
  refine fro_itr1 ?_
  intro rec hrec l5 h c_h
  unfold fX0_isKept_l16
  refine fro_if ?_ ?_
  ·
    exact hK h c_h
  ·
    refine fro_bnd (frX0_leftOf l2 l5 h) (fun _ a => a.pick [] rfl) c_h (fun x4 h3 c_h3 => ?_)
    refine fro_jn (fun (k46_4 : Int32 → Hp → Option (Int32 × Hp)) => ∀ (z0_4 : Int32) (h6 : Hp), Fr (wX0_isKept a0) h0 h6 → FrO (wX0_isKept a0) h0 (k46_4 z0_4 h6)) (fun z0_4 h6 c_h6 => ?_) (fun k46_4 Hk46_4 => ?_)
    ·
      refine fro_if ?_ ?_
      ·
        refine fro_let (fun x7 => ?_)
        exact hrec x7 h6 c_h6
      ·
        refine fro_ck ?_
        exact fro_some c_h6
    refine fro_if ?_ ?_
    ·
      exact Hk46_4 l4 h3 c_h3
    ·
      exact Hk46_4 (l4 + (1 : Int32)) h3 c_h3
set_option maxHeartbeats 4000000 in
theorem frX0_isKept (a0 : Nat) (l1 : Int32) (l2 : Int32) (l3 : Int32) (h : Hp) : FrO (wX0_isKept a0) h (fX0_isKept a0 l1 l2 l3 h) := by
  have c_h : Fr (wX0_isKept a0) h h := Fr.rf
  unfold fX0_isKept
  refine fro_ck ?_
  refine fro_bnd (frX8_way a0 l1 (ra h 33 a0 l3) h) (fun _ a => a.pick [] rfl) c_h (fun x2 h1 c_h1 => ?_)
  refine frX0_isKept_l16 a0 l2 l3 x2 _ _ (fun h8 c_h8 => ?_) FU 0 h1 c_h1
  refine fro_ck ?_
  exact fro_some c_h8
def wX8_packed (a0 : Nat) : List FE := []
set_option maxHeartbeats 4000000 in
theorem frX8_packed_l4 (a0 : Nat) (K : Int32 → Hp → Option (Int32 × Hp)) (h0 : Hp) (hK : ∀ (y1 : Int32) (h : Hp), Fr (wX8_packed a0) h0 h → FrO (wX8_packed a0) h0 (K y1 h)) : ∀ (n : Nat) (l1 l2 : Int32) (h : Hp), Fr (wX8_packed a0) h0 h → FrO (wX8_packed a0) h0 (itr2 (fX8_packed_l4 a0 K) n l1 l2 h) := by
  refine fro_itr2 ?_
  intro rec hrec l1 l2 h c_h
  unfold fX8_packed_l4
  refine fro_if ?_ ?_
  ·
    exact hK l1 h c_h
  ·
    refine fro_ck ?_
    refine fro_bnd (frX0_with l1 l2 (ra h 35 a0 l2) h) (fun _ a => a.pick [] rfl) c_h (fun x2 h1 c_h1 => ?_)
    refine fro_let (fun x3 => ?_)
    exact hrec x2 x3 h1 c_h1
set_option maxHeartbeats 4000000 in
theorem frX8_packed (a0 : Nat) (h : Hp) : FrO (wX8_packed a0) h (fX8_packed a0 h) := by
  have c_h : Fr (wX8_packed a0) h h := Fr.rf
  unfold fX8_packed
  refine frX8_packed_l4 a0 _ _ (fun y4 h5 c_h5 => ?_) FU 0 0 h c_h
  exact fro_some c_h5
def wX0_inRow (a0 : Nat) : List FE := []
set_option maxHeartbeats 4000000 in
theorem frX0_inRow_l21 (a0 : Nat) (K : Hp → Option (Int32 × Hp)) (h0 : Hp) (hK : ∀ (h : Hp), Fr (wX0_inRow a0) h0 h → FrO (wX0_inRow a0) h0 (K  h)) : ∀ (n : Nat) (l1 l2 l3 : Int32) (h : Hp), Fr (wX0_inRow a0) h0 h → FrO (wX0_inRow a0) h0 (itr3 (fX0_inRow_l21 a0 K) n l1 l2 l3 h) := by
  refine fro_itr3 ?_
  intro rec hrec l1 l2 l3 h c_h
  unfold fX0_inRow_l21
  refine fro_if ?_ ?_
  ·
    exact hK h c_h
  ·
    refine fro_ck ?_
    refine fro_let (fun x4 => ?_)
    refine fro_bnd (frX0_isKept a0 l1 l2 x4 h) (fun _ a => a.pick [] rfl) c_h (fun x6 h5 c_h5 => ?_)
    refine fro_if ?_ ?_
    ·
      exact fro_some c_h5
    ·
      refine fro_bnd (frX0_behindRun a0 l1 l2 x4 h5) (fun _ a => a.pick [] rfl) c_h5 (fun x8 h7 c_h7 => ?_)
      refine fro_ck ?_
      refine fro_let (fun x9 => ?_)
      refine fro_let (fun x10 => ?_)
      exact hrec x9 x8 x10 h7 c_h7
set_option maxHeartbeats 4000000 in
theorem frX0_inRow (a0 : Nat) (h : Hp) : FrO (wX0_inRow a0) h (fX0_inRow a0 h) := by
  have c_h : Fr (wX0_inRow a0) h h := Fr.rf
  unfold fX0_inRow
  refine fro_if ?_ ?_
  ·
    exact fro_some c_h
  ·
    refine fro_let (fun x1 => ?_)
    refine fro_bnd (frX8_packed a0 h) (fun _ a => a.pick [] rfl) c_h (fun x3 h2 c_h2 => ?_)
    refine frX0_inRow_l21 a0 _ _ (fun h11 c_h11 => ?_) FU x1 x3 0 h2 c_h2
    exact fro_some c_h11
def wX0_soonest (a0 : Nat) : List FE := []
set_option maxHeartbeats 4000000 in
theorem frX0_soonest_l5 (a0 : Nat) (l1 : Int32) (K : Int32 → Hp → Option (Int32 × Hp)) (h0 : Hp) (hK : ∀ (y2 : Int32) (h : Hp), Fr (wX0_soonest a0) h0 h → FrO (wX0_soonest a0) h0 (K y2 h)) : ∀ (n : Nat) (l2 l3 : Int32) (h : Hp), Fr (wX0_soonest a0) h0 h → FrO (wX0_soonest a0) h0 (itr2 (fX0_soonest_l5 a0 l1 K) n l2 l3 h) := by
  refine fro_itr2 ?_
  intro rec hrec l2 l3 h c_h
  unfold fX0_soonest_l5
  refine fro_if ?_ ?_
  ·
    exact hK l2 h c_h
  ·
    refine fro_bnd (frX0_leftOf l1 l3 h) (fun _ a => a.pick [] rfl) c_h (fun x2 h1 c_h1 => ?_)
    refine fro_let (fun x3 => ?_)
    refine fro_let (fun x4 => ?_)
    exact hrec x3 x4 h1 c_h1
set_option maxHeartbeats 4000000 in
theorem frX0_soonest (a0 : Nat) (l1 : Int32) (h : Hp) : FrO (wX0_soonest a0) h (fX0_soonest a0 l1 h) := by
  have c_h : Fr (wX0_soonest a0) h h := Fr.rf
  unfold fX0_soonest
  refine frX0_soonest_l5 a0 l1 _ _ (fun y5 h6 c_h6 => ?_) FU 6 0 h c_h
  exact fro_some c_h6
def wX0_standing : List FE := []
set_option maxHeartbeats 4000000 in
theorem frX0_standing_l4 (l0 : Int32) (K : Int32 → Hp → Option (Int32 × Hp)) (h0 : Hp) (hK : ∀ (y1 : Int32) (h : Hp), Fr wX0_standing h0 h → FrO wX0_standing h0 (K y1 h)) : ∀ (n : Nat) (l1 l2 : Int32) (h : Hp), Fr wX0_standing h0 h → FrO wX0_standing h0 (itr2 (fX0_standing_l4 l0 K) n l1 l2 h) := by
  refine fro_itr2 ?_
  intro rec hrec l1 l2 h c_h
  unfold fX0_standing_l4
  refine fro_if ?_ ?_
  ·
    exact hK l1 h c_h
  ·
    refine fro_bnd (frX0_leftOf l0 l2 h) (fun _ a => a.pick [] rfl) c_h (fun x2 h1 c_h1 => ?_)
    refine fro_jn (fun (k20_2 : Int32 → Hp → Option (Int32 × Hp)) => ∀ (y1_2 : Int32) (h4 : Hp), Fr wX0_standing h0 h4 → FrO wX0_standing h0 (k20_2 y1_2 h4)) (fun y1_2 h4 c_h4 => ?_) (fun k20_2 Hk20_2 => ?_)
    ·
      refine fro_let (fun x5 => ?_)
      exact hrec y1_2 x5 h4 c_h4
    refine fro_if ?_ ?_
    ·
      exact Hk20_2 l1 h1 c_h1
    ·
      refine fro_let (fun x6 => ?_)
      exact Hk20_2 x6 h1 c_h1
set_option maxHeartbeats 4000000 in
theorem frX0_standing (l0 : Int32) (h : Hp) : FrO wX0_standing h (fX0_standing l0 h) := by
  have c_h : Fr wX0_standing h h := Fr.rf
  unfold fX0_standing
  refine frX0_standing_l4 l0 _ _ (fun y7 h8 c_h8 => ?_) FU 0 0 h c_h
  exact fro_some c_h8
def wX2_slotOf : List FE := []
set_option maxHeartbeats 4000000 in
theorem frX2_slotOf_l16 (l1 : Int32) (l2 : Int32) (K : Int32 → Hp → Option (Int32 × Hp)) (h0 : Hp) (hK : ∀ (y3 : Int32) (h : Hp), Fr wX2_slotOf h0 h → FrO wX2_slotOf h0 (K y3 h)) : ∀ (n : Nat) (l3 l4 : Int32) (h : Hp), Fr wX2_slotOf h0 h → FrO wX2_slotOf h0 (itr2 (fX2_slotOf_l16 l1 l2 K) n l3 l4 h) := by
  refine fro_itr2 ?_
  intro rec hrec l3 l4 h c_h
  unfold fX2_slotOf_l16
  refine fro_if ?_ ?_
  ·
    exact hK l3 h c_h
  ·
    refine fro_ck ?_
    refine fro_let (fun x2 => ?_)
    refine fro_if ?_ ?_
    ·
      exact fro_some c_h
    ·
      refine fro_if ?_ ?_
      ·
        exact fro_some c_h
      ·
        refine fro_ck ?_
        refine fro_jn (fun (k71_2 : Hp → Option (Int32 × Hp)) => ∀ (h4 : Hp), Fr wX2_slotOf h0 h4 → FrO wX2_slotOf h0 (k71_2 h4)) (fun h4 c_h4 => ?_) (fun k71_2 Hk71_2 => ?_)
        ·
          refine fro_let (fun x5 => ?_)
          refine fro_let (fun x6 => ?_)
          exact hrec x5 x6 h4 c_h4
        refine fro_if ?_ ?_
        ·
          refine fro_ck ?_
          refine fro_if ?_ ?_
          ·
            exact fro_some c_h
          ·
            exact Hk71_2 h c_h
        ·
          exact Hk71_2 h c_h
set_option maxHeartbeats 4000000 in
theorem frX2_slotOf (l1 : Int32) (l2 : Int32) (h : Hp) : FrO wX2_slotOf h (fX2_slotOf l1 l2 h) := by
  have c_h : Fr wX2_slotOf h h := Fr.rf
  unfold fX2_slotOf
  refine fro_let (fun x1 => ?_)
  refine frX2_slotOf_l16 l1 l2 _ _ (fun y7 h8 c_h8 => ?_) FU x1 0 h c_h
  exact fro_some c_h8
def wX2_numberFor : List FE := [(12, some 0, none), (13, some 0, none), (14, some 0, none), (0, some 0, some 2), (11, some 0, none)]
set_option maxHeartbeats 4000000 in
theorem frX2_numberFor (l1 : Int32) (l2 : Int32) (h : Hp) : FrO wX2_numberFor h (fX2_numberFor l1 l2 h) := by
  have c_h : Fr wX2_numberFor h h := Fr.rf
  unfold fX2_numberFor
  refine fro_bnd (frX2_slotOf l1 l2 h) (fun _ a => a.pick [] rfl) c_h (fun x2 h1 c_h1 => ?_)
  refine fro_ck ?_
  refine fro_jn (fun (k79_2 : Hp → Option (Int32 × Hp)) => ∀ (h4 : Hp), Fr wX2_numberFor h h4 → FrO wX2_numberFor h (k79_2 h4)) (fun h4 c_h4 => ?_) (fun k79_2 Hk79_2 => ?_)
  ·
    refine fro_ck ?_
    exact fro_some c_h4
  refine fro_if ?_ ?_
  ·
    refine fro_if ?_ ?_
    ·
      exact Hk79_2 h1 c_h1
    ·
      refine fro_ck ?_
      refine fro_h (fr_wa 0 rfl) c_h1 (fun h5 c_h5 => ?_)
      refine fro_ck ?_
      refine fro_h (fr_wa 1 rfl) c_h5 (fun h6 c_h6 => ?_)
      refine fro_ck ?_
      refine fro_h (fr_wa 2 rfl) c_h6 (fun h7 c_h7 => ?_)
      refine fro_h (fr_wr 3 rfl) c_h7 (fun h8 c_h8 => ?_)
      refine fro_ck ?_
      refine fro_h (fr_wa 4 rfl) c_h8 (fun h9 c_h9 => ?_)
      exact Hk79_2 h9 c_h9
  ·
    exact Hk79_2 h1 c_h1
def wX8_has (a0 : Nat) : List FE := []
set_option maxHeartbeats 4000000 in
theorem frX8_has (a0 : Nat) (l1 : Int32) (h : Hp) : FrO (wX8_has a0) h (fX8_has a0 l1 h) := by
  have c_h : Fr (wX8_has a0) h h := Fr.rf
  unfold fX8_has
  refine fro_jn (fun (k16_0 : Hp → Option (Int32 × Hp)) => ∀ (h2 : Hp), Fr (wX8_has a0) h h2 → FrO (wX8_has a0) h (k16_0 h2)) (fun h2 c_h2 => ?_) (fun k16_0 Hk16_0 => ?_)
  ·
    refine fro_ck ?_
    exact fro_some c_h2
  refine fro_if ?_ ?_
  ·
    exact Hk16_0 h c_h
  ·
    refine fro_if ?_ ?_
    ·
      exact Hk16_0 h c_h
    ·
      refine fro_ck ?_
      exact fro_some c_h
def wX2_placeOf : List FE := []
set_option maxHeartbeats 4000000 in
theorem frX2_placeOf (l1 : Int32) (h : Hp) : FrO wX2_placeOf h (fX2_placeOf l1 h) := by
  have c_h : Fr wX2_placeOf h h := Fr.rf
  unfold fX2_placeOf
  refine fro_ck ?_
  refine fro_let (fun x1 => ?_)
  refine fro_bnd (frX8_has 10 x1 h) (fun _ a => a.pick [] rfl) c_h (fun x3 h2 c_h2 => ?_)
  refine fro_if ?_ ?_
  ·
    exact fro_some c_h2
  ·
    refine fro_ck ?_
    exact fro_some c_h2
def wX2_enter : List FE := [(17, some 0, none), (0, some 0, some 3), (14, some 0, none), (15, some 0, none), (18, some 0, none), (12, some 0, none), (13, some 0, none), (0, some 0, some 2), (11, some 0, none)]
set_option maxHeartbeats 4000000 in
theorem frX2_enter_l65 (l1 : Int32) (l2 : Int32) (K : Hp → Option (Unit × Hp)) (h0 : Hp) (hK : ∀ (h : Hp), Fr wX2_enter h0 h → FrO wX2_enter h0 (K  h)) : ∀ (n : Nat) (l3 : Int32) (h : Hp), Fr wX2_enter h0 h → FrO wX2_enter h0 (itr1 (fX2_enter_l65 l1 l2 K) n l3 h) := by
  refine fro_itr1 ?_
  intro rec hrec l3 h c_h
  unfold fX2_enter_l65
  refine fro_if ?_ ?_
  ·
    exact hK h c_h
  ·
    refine fro_ck ?_
    refine fro_bnd (frX0_isKept 10 l2 (ra h 13 0 l1) l3 h) (fun _ a => a.pick [] rfl) c_h (fun x8 h7 c_h7 => ?_)
    refine fro_jn (fun (k119_8 : Int32 → Hp → Option (Unit × Hp)) => ∀ (y4_8 : Int32) (h10 : Hp), Fr wX2_enter h0 h10 → FrO wX2_enter h0 (k119_8 y4_8 h10)) (fun y4_8 h10 c_h10 => ?_) (fun k119_8 Hk119_8 => ?_)
    ·
      refine fro_ck ?_
      refine fro_h (fr_wa 4 rfl) c_h10 (fun h11 c_h11 => ?_)
      refine fro_let (fun x12 => ?_)
      exact hrec x12 h11 c_h11
    refine fro_if ?_ ?_
    ·
      exact Hk119_8 (-1) h7 c_h7
    ·
      refine fro_ck ?_
      refine fro_bnd (frX0_behindRun 10 l2 (ra h7 13 0 l1) l3 h7) (fun _ a => a.pick [] rfl) c_h7 (fun x14 h13 c_h13 => ?_)
      refine fro_bnd (frX2_numberFor l3 x14 h13) (fun _ a => a.pick [5, 6, 2, 7, 8] rfl) c_h13 (fun x16 h15 c_h15 => ?_)
      exact Hk119_8 x16 h15 c_h15
set_option maxHeartbeats 4000000 in
theorem frX2_enter (l1 : Int32) (h : Hp) : FrO wX2_enter h (fX2_enter l1 h) := by
  have c_h : Fr wX2_enter h h := Fr.rf
  unfold fX2_enter
  refine fro_if ?_ ?_
  ·
    exact fro_some c_h
  ·
    refine fro_if ?_ ?_
    ·
      exact fro_some c_h
    ·
      refine fro_if ?_ ?_
      ·
        refine fro_ck ?_
        refine fro_h (fr_wa 0 rfl) c_h (fun h1 c_h1 => ?_)
        refine fro_h (fr_wr 1 rfl) c_h1 (fun h2 c_h2 => ?_)
        refine fro_ck ?_
        refine fro_h (fr_wa 2 rfl) c_h2 (fun h3 c_h3 => ?_)
        refine fro_ck ?_
        refine fro_h (fr_wa 3 rfl) c_h3 (fun h4 c_h4 => ?_)
        refine fro_bnd (frX2_placeOf l1 h4) (fun _ a => a.pick [] rfl) c_h4 (fun x6 h5 c_h5 => ?_)
        refine frX2_enter_l65 l1 x6 _ _ (fun h17 c_h17 => ?_) FU 0 h5 c_h5
        exact fro_some c_h17
      ·
        exact fro_some c_h
def wX2_beatsTo : List FE := []
set_option maxHeartbeats 4000000 in
theorem frX2_beatsTo (l1 : Int32) (l2 : Int32) (h : Hp) : FrO wX2_beatsTo h (fX2_beatsTo l1 l2 h) := by
  have c_h : Fr wX2_beatsTo h h := Fr.rf
  unfold fX2_beatsTo
  refine fro_bnd (frX2_placeOf l1 h) (fun _ a => a.pick [] rfl) c_h (fun x2 h1 c_h1 => ?_)
  refine fro_ck ?_
  refine fro_bnd (frX8_way 10 x2 (ra h1 33 10 l2) h1) (fun _ a => a.pick [] rfl) c_h1 (fun x4 h3 c_h3 => ?_)
  exact fro_some c_h3
def wX2_followerOf : List FE := []
set_option maxHeartbeats 4000000 in
theorem frX2_followerOf (l1 : Int32) (l2 : Int32) (h : Hp) : FrO wX2_followerOf h (fX2_followerOf l1 l2 h) := by
  have c_h : Fr wX2_followerOf h h := Fr.rf
  unfold fX2_followerOf
  refine fro_let (fun x1 => ?_)
  refine fro_bnd (frX8_has 10 l2 h) (fun _ a => a.pick [] rfl) c_h (fun x3 h2 c_h2 => ?_)
  refine fro_jn (fun (k39_3 : Hp → Option (Int32 × Hp)) => ∀ (h5 : Hp), Fr wX2_followerOf h h5 → FrO wX2_followerOf h (k39_3 h5)) (fun h5 c_h5 => ?_) (fun k39_3 Hk39_3 => ?_)
  ·
    exact fro_some c_h5
  refine fro_if ?_ ?_
  ·
    exact Hk39_3 h2 c_h2
  ·
    refine fro_if ?_ ?_
    ·
      exact Hk39_3 h2 c_h2
    ·
      refine fro_if ?_ ?_
      ·
        exact Hk39_3 h2 c_h2
      ·
        refine fro_ck ?_
        exact fro_some c_h2
def wX2_finish : List FE := [(14, some 0, none), (16, some 0, none)]
set_option maxHeartbeats 4000000 in
theorem frX2_finish_l33 (l1 : Int32) (K : Int32 → Int32 → Hp → Option (Unit × Hp)) (h0 : Hp) (hK : ∀ (y2 y3 : Int32) (h : Hp), Fr wX2_finish h0 h → FrO wX2_finish h0 (K y2 y3 h)) : ∀ (n : Nat) (l2 l3 l4 : Int32) (h : Hp), Fr wX2_finish h0 h → FrO wX2_finish h0 (itr3 (fX2_finish_l33 l1 K) n l2 l3 l4 h) := by
  refine fro_itr3 ?_
  intro rec hrec l2 l3 l4 h c_h
  unfold fX2_finish_l33
  refine fro_if ?_ ?_
  ·
    exact hK l2 l3 h c_h
  ·
    refine fro_bnd (frX2_followerOf l1 l4 h) (fun _ a => a.pick [] rfl) c_h (fun x6 h5 c_h5 => ?_)
    refine fro_jn (fun (k99_6 : Int32 → Int32 → Hp → Option (Unit × Hp)) => ∀ (y2_6 : Int32) (y3_6 : Int32) (h8 : Hp), Fr wX2_finish h0 h8 → FrO wX2_finish h0 (k99_6 y2_6 y3_6 h8)) (fun y2_6 y3_6 h8 c_h8 => ?_) (fun k99_6 Hk99_6 => ?_)
    ·
      refine fro_let (fun x9 => ?_)
      exact hrec y2_6 y3_6 x9 h8 c_h8
    refine fro_if ?_ ?_
    ·
      exact Hk99_6 l2 l3 h5 c_h5
    ·
      refine fro_ck ?_
      refine fro_jn (fun (k77_9 : Int32 → Hp → Option (Unit × Hp)) => ∀ (z0_9 : Int32) (h11 : Hp), Fr wX2_finish h0 h11 → FrO wX2_finish h0 (k77_9 z0_9 h11)) (fun z0_9 h11 c_h11 => ?_) (fun k77_9 Hk77_9 => ?_)
      ·
        refine fro_let (fun x12 => ?_)
        refine fro_bnd (frX2_beatsTo l1 l4 h11) (fun _ a => a.pick [] rfl) c_h11 (fun x14 h13 c_h13 => ?_)
        refine fro_ck ?_
        refine fro_let (fun x15 => ?_)
        exact Hk99_6 x12 x15 h13 c_h13
      refine fro_if ?_ ?_
      ·
        exact Hk77_9 0 h5 c_h5
      ·
        exact Hk77_9 1 h5 c_h5
set_option maxHeartbeats 4000000 in
theorem frX2_finish (l1 : Int32) (h : Hp) : FrO wX2_finish h (fX2_finish l1 h) := by
  have c_h : Fr wX2_finish h h := Fr.rf
  unfold fX2_finish
  refine fro_jn (fun (k15_0 : Int32 → Hp → Option (Unit × Hp)) => ∀ (z0_0 : Int32) (h2 : Hp), Fr wX2_finish h h2 → FrO wX2_finish h (k15_0 z0_0 h2)) (fun z0_0 h2 c_h2 => ?_) (fun k15_0 Hk15_0 => ?_)
  ·
    refine fro_ck ?_
    refine fro_bnd (frX0_soonest 10 (ra h2 13 0 l1) h2) (fun _ a => a.pick [] rfl) c_h2 (fun x4 h3 c_h3 => ?_)
    refine frX2_finish_l33 l1 _ _ (fun y16 y17 h18 c_h18 => ?_) FU z0_0 x4 0 h3 c_h3
    refine fro_jn (fun (k119_18 : Int32 → Hp → Option (Unit × Hp)) => ∀ (z0_18 : Int32) (h20 : Hp), Fr wX2_finish h h20 → FrO wX2_finish h (k119_18 z0_18 h20)) (fun z0_18 h20 c_h20 => ?_) (fun k119_18 Hk119_18 => ?_)
    ·
      refine fro_ck ?_
      refine fro_h (fr_wa 0 rfl) c_h20 (fun h21 c_h21 => ?_)
      refine fro_if ?_ ?_
      ·
        refine fro_ck ?_
        refine fro_h (fr_wa 1 rfl) c_h21 (fun h22 c_h22 => ?_)
        exact fro_some c_h22
      ·
        refine fro_ck ?_
        refine fro_h (fr_wa 1 rfl) c_h21 (fun h23 c_h23 => ?_)
        exact fro_some c_h23
    refine fro_if ?_ ?_
    ·
      exact Hk119_18 2 h18 c_h18
    ·
      exact Hk119_18 3 h18 c_h18
  refine fro_if ?_ ?_
  ·
    exact Hk15_0 1 h c_h
  ·
    exact Hk15_0 0 h c_h
def wX2_forget : List FE := [(11, some 0, none), (0, some 0, some 2)]
set_option maxHeartbeats 4000000 in
theorem frX2_forget_l7 (K : Hp → Option (Unit × Hp)) (h0 : Hp) (hK : ∀ (h : Hp), Fr wX2_forget h0 h → FrO wX2_forget h0 (K  h)) : ∀ (n : Nat) (l1 : Int32) (h : Hp), Fr wX2_forget h0 h → FrO wX2_forget h0 (itr1 (fX2_forget_l7 K) n l1 h) := by
  refine fro_itr1 ?_
  intro rec hrec l1 h c_h
  unfold fX2_forget_l7
  refine fro_if ?_ ?_
  ·
    exact hK h c_h
  ·
    refine fro_ck ?_
    refine fro_ck ?_
    refine fro_bnd (frX2_slotOf (ra h 12 0 l1) (ra h 13 0 l1) h) (fun _ a => a.pick [] rfl) c_h (fun x3 h2 c_h2 => ?_)
    refine fro_ck ?_
    refine fro_h (fr_wa 0 rfl) c_h2 (fun h4 c_h4 => ?_)
    refine fro_let (fun x5 => ?_)
    exact hrec x5 h4 c_h4
set_option maxHeartbeats 4000000 in
theorem frX2_forget (h : Hp) : FrO wX2_forget h (fX2_forget h) := by
  have c_h : Fr wX2_forget h h := Fr.rf
  unfold fX2_forget
  refine fro_let (fun x1 => ?_)
  refine frX2_forget_l7 _ _ (fun h6 c_h6 => ?_) FU x1 h c_h
  refine fro_h (fr_wr 1 rfl) c_h6 (fun h7 c_h7 => ?_)
  exact fro_some c_h7
def wX2_isForever : List FE := []
set_option maxHeartbeats 4000000 in
theorem frX2_isForever (l1 : Int32) (h : Hp) : FrO wX2_isForever h (fX2_isForever l1 h) := by
  have c_h : Fr wX2_isForever h h := Fr.rf
  unfold fX2_isForever
  refine fro_jn (fun (k26_0 : Hp → Option (Int32 × Hp)) => ∀ (h2 : Hp), Fr wX2_isForever h h2 → FrO wX2_isForever h (k26_0 h2)) (fun h2 c_h2 => ?_) (fun k26_0 Hk26_0 => ?_)
  ·
    refine fro_ck ?_
    exact fro_some c_h2
  refine fro_if ?_ ?_
  ·
    exact Hk26_0 h c_h
  ·
    refine fro_if ?_ ?_
    ·
      exact Hk26_0 h c_h
    ·
      refine fro_ck ?_
      refine fro_if ?_ ?_
      ·
        refine fro_ck ?_
        exact fro_some c_h
      ·
        exact Hk26_0 h c_h
def wX8_copyFrom (a0 a1 : Nat) : List FE := [(6, some (a0 % cnt 6), some 0), (6, some (a0 % cnt 6), some 1), (6, some (a0 % cnt 6), some 2), (33, some (a0 % cnt 33), none), (34, some (a0 % cnt 34), none), (35, some (a0 % cnt 35), none)]
set_option maxHeartbeats 4000000 in
theorem frX8_copyFrom (a0 : Nat) (a1 : Nat) (h : Hp) : FrO (wX8_copyFrom a0 a1) h (fX8_copyFrom a0 a1 h) := by
  have c_h : Fr (wX8_copyFrom a0 a1) h h := Fr.rf
  unfold fX8_copyFrom
  refine fro_h (fr_wr 0 rfl) c_h (fun h1 c_h1 => ?_)
  refine fro_h (fr_wr 1 rfl) c_h1 (fun h2 c_h2 => ?_)
  refine fro_h (fr_wr 2 rfl) c_h2 (fun h3 c_h3 => ?_)
  refine fro_ck ?_
  refine fro_h (fr_cpy 3 rfl) c_h3 (fun h4 c_h4 => ?_)
  refine fro_ck ?_
  refine fro_h (fr_cpy 4 rfl) c_h4 (fun h5 c_h5 => ?_)
  refine fro_ck ?_
  refine fro_h (fr_cpy 5 rfl) c_h5 (fun h6 c_h6 => ?_)
  exact fro_some c_h6
def wX2_explore (a1 : Nat) : List FE := [(11, some 0, none), (0, some 0, some 2), (6, some 10, some 0), (6, some 10, some 1), (6, some 10, some 2), (33, some 10, none), (34, some 10, none), (35, some 10, none), (0, some 0, some 1), (0, some 0, some 3), (12, some 0, none), (13, some 0, none), (14, some 0, none), (17, some 0, none), (15, some 0, none), (18, some 0, none), (16, some 0, none)]
set_option maxHeartbeats 4000000 in
theorem frX2_explore_l40 (a1 : Nat) (l2 : Int32) (K : Hp → Option (Int32 × Hp)) (h0 : Hp) (hK : ∀ (h : Hp), Fr (wX2_explore a1) h0 h → FrO (wX2_explore a1) h0 (K  h)) : ∀ (n : Nat) (l3 : Int32) (h : Hp), Fr (wX2_explore a1) h0 h → FrO (wX2_explore a1) h0 (itr1 (fX2_explore_l40 l2 K) n l3 h) := by
  refine fro_itr1 ?_
  intro rec hrec l3 h c_h
  unfold fX2_explore_l40
  refine fro_if ?_ ?_
  ·
    exact hK h c_h
  ·
    refine fro_if ?_ ?_
    ·
      exact hK h c_h
    ·
      refine fro_ck ?_
      refine fro_let (fun x10 => ?_)
      refine fro_ck ?_
      refine fro_let (fun x11 => ?_)
      refine fro_jn (fun (k176_11 : Hp → Option (Int32 × Hp)) => ∀ (h13 : Hp), Fr (wX2_explore a1) h0 h13 → FrO (wX2_explore a1) h0 (k176_11 h13)) (fun h13 c_h13 => ?_) (fun k176_11 Hk176_11 => ?_)
      ·
        refine fro_let (fun x14 => ?_)
        exact hrec x14 h13 c_h13
      refine fro_if ?_ ?_
      ·
        refine fro_ck ?_
        refine fro_ck ?_
        refine fro_h (fr_wa 14 rfl) c_h (fun h15 c_h15 => ?_)
        refine fro_bnd (frX2_followerOf x10 x11 h15) (fun _ a => a.pick [] rfl) c_h15 (fun x17 h16 c_h16 => ?_)
        refine fro_jn (fun (k153_17 : Hp → Option (Int32 × Hp)) => ∀ (h19 : Hp), Fr (wX2_explore a1) h0 h19 → FrO (wX2_explore a1) h0 (k153_17 h19)) (fun h19 c_h19 => ?_) (fun k153_17 Hk153_17 => ?_)
        ·
          refine fro_if ?_ ?_
          ·
            exact Hk176_11 h19 c_h19
          ·
            refine fro_ck ?_
            refine fro_if ?_ ?_
            ·
              refine fro_if ?_ ?_
              ·
                refine fro_ck ?_
                exact fro_some c_h19
              ·
                exact Hk176_11 h19 c_h19
            ·
              exact Hk176_11 h19 c_h19
        refine fro_if ?_ ?_
        ·
          exact Hk153_17 h16 c_h16
        ·
          refine fro_ck ?_
          refine fro_if ?_ ?_
          ·
            refine fro_bnd (frX2_enter x17 h16) (fun _ a => a.pick [13, 9, 12, 14, 15, 10, 11, 1, 0] rfl) c_h16 (fun _ h20 c_h20 => ?_)
            exact Hk176_11 h20 c_h20
          ·
            exact Hk153_17 h16 c_h16
      ·
        refine fro_bnd (frX2_finish x10 h) (fun _ a => a.pick [12, 16] rfl) c_h (fun _ h21 c_h21 => ?_)
        refine fro_h (fr_wr 9 rfl) c_h21 (fun h22 c_h22 => ?_)
        exact Hk176_11 h22 c_h22
set_option maxHeartbeats 4000000 in
theorem frX2_explore (a1 : Nat) (l2 : Int32) (h : Hp) : FrO (wX2_explore a1) h (fX2_explore a1 l2 h) := by
  have c_h : Fr (wX2_explore a1) h h := Fr.rf
  unfold fX2_explore
  refine fro_bnd (frX2_forget h) (fun _ a => a.pick [0, 1] rfl) c_h (fun _ h1 c_h1 => ?_)
  refine fro_bnd (frX8_copyFrom 10 a1 h1) (fun _ a => a.pick [2, 3, 4, 5, 6, 7] rfl) c_h1 (fun _ h2 c_h2 => ?_)
  refine fro_ck ?_
  refine fro_h (fr_wr 8 rfl) c_h2 (fun h3 c_h3 => ?_)
  refine fro_h (fr_wr 9 rfl) c_h3 (fun h4 c_h4 => ?_)
  refine fro_bnd (frX8_packed 10 h4) (fun _ a => a.pick [] rfl) c_h4 (fun x6 h5 c_h5 => ?_)
  refine fro_bnd (frX2_numberFor 5 x6 h5) (fun _ a => a.pick [10, 11, 12, 1, 0] rfl) c_h5 (fun x8 h7 c_h7 => ?_)
  refine fro_bnd (frX2_enter x8 h7) (fun _ a => a.pick [13, 9, 12, 14, 15, 10, 11, 1, 0] rfl) c_h7 (fun _ h9 c_h9 => ?_)
  refine frX2_explore_l40 a1 l2 _ _ (fun h23 c_h23 => ?_) FU 0 h9 c_h9
  refine fro_bnd (frX2_isForever 0 h23) (fun _ a => a.pick [] rfl) c_h23 (fun x25 h24 c_h24 => ?_)
  refine fro_ck ?_
  exact fro_some c_h24
def wX8_add (a0 : Nat) : List FE := [(33, some (a0 % cnt 33), none), (34, some (a0 % cnt 34), none), (35, some (a0 % cnt 35), none), (6, some (a0 % cnt 6), some 2)]
set_option maxHeartbeats 4000000 in
theorem frX8_add (a0 : Nat) (l1 : Int32) (l2 : Int32) (l3 : Int32) (h : Hp) : FrO (wX8_add a0) h (fX8_add a0 l1 l2 l3 h) := by
  have c_h : Fr (wX8_add a0) h h := Fr.rf
  unfold fX8_add
  refine fro_if ?_ ?_
  ·
    refine fro_ck ?_
    refine fro_h (fr_wa 0 rfl) c_h (fun h1 c_h1 => ?_)
    refine fro_ck ?_
    refine fro_h (fr_wa 1 rfl) c_h1 (fun h2 c_h2 => ?_)
    refine fro_ck ?_
    refine fro_h (fr_wa 2 rfl) c_h2 (fun h3 c_h3 => ?_)
    refine fro_h (fr_wr 3 rfl) c_h3 (fun h4 c_h4 => ?_)
    exact fro_some c_h4
  ·
    exact fro_some c_h
def wX8_copySome (a0 a1 : Nat) : List FE := [(6, some (a0 % cnt 6), some 0), (6, some (a0 % cnt 6), some 1), (6, some (a0 % cnt 6), some 2), (33, some (a0 % cnt 33), none), (34, some (a0 % cnt 34), none), (35, some (a0 % cnt 35), none)]
set_option maxHeartbeats 4000000 in
theorem frX8_copySome_l23 (a0 : Nat) (a1 : Nat) (l2 : Int32) (K : Hp → Option (Unit × Hp)) (h0 : Hp) (hK : ∀ (h : Hp), Fr (wX8_copySome a0 a1) h0 h → FrO (wX8_copySome a0 a1) h0 (K  h)) : ∀ (n : Nat) (l3 : Int32) (h : Hp), Fr (wX8_copySome a0 a1) h0 h → FrO (wX8_copySome a0 a1) h0 (itr1 (fX8_copySome_l23 a0 a1 l2 K) n l3 h) := by
  refine fro_itr1 ?_
  intro rec hrec l3 h c_h
  unfold fX8_copySome_l23
  refine fro_if ?_ ?_
  ·
    exact hK h c_h
  ·
    refine fro_jn (fun (k61_3 : Hp → Option (Unit × Hp)) => ∀ (h5 : Hp), Fr (wX8_copySome a0 a1) h0 h5 → FrO (wX8_copySome a0 a1) h0 (k61_3 h5)) (fun h5 c_h5 => ?_) (fun k61_3 Hk61_3 => ?_)
    ·
      refine fro_let (fun x6 => ?_)
      exact hrec x6 h5 c_h5
    refine fro_if ?_ ?_
    ·
      exact Hk61_3 h c_h
    ·
      refine fro_ck ?_
      refine fro_ck ?_
      refine fro_ck ?_
      refine fro_bnd (frX8_add a0 (ra h 33 a1 l3) (ra h 34 a1 l3) (ra h 35 a1 l3) h) (fun _ a => a.pick [3, 4, 5, 2] rfl) c_h (fun _ h7 c_h7 => ?_)
      exact Hk61_3 h7 c_h7
set_option maxHeartbeats 4000000 in
theorem frX8_copySome (a0 : Nat) (a1 : Nat) (l2 : Int32) (h : Hp) : FrO (wX8_copySome a0 a1) h (fX8_copySome a0 a1 l2 h) := by
  have c_h : Fr (wX8_copySome a0 a1) h h := Fr.rf
  unfold fX8_copySome
  refine fro_h (fr_wr 0 rfl) c_h (fun h1 c_h1 => ?_)
  refine fro_h (fr_wr 1 rfl) c_h1 (fun h2 c_h2 => ?_)
  refine fro_h (fr_wr 2 rfl) c_h2 (fun h3 c_h3 => ?_)
  refine frX8_copySome_l23 a0 a1 l2 _ _ (fun h8 c_h8 => ?_) FU 0 h3 c_h3
  exact fro_some c_h8
def wX10_areKept (a1 : Nat) : List FE := [(6, some 11, some 0), (6, some 11, some 1), (6, some 11, some 2), (33, some 11, none), (34, some 11, none), (35, some 11, none), (11, some 0, none), (0, some 0, some 2), (6, some 10, some 0), (6, some 10, some 1), (6, some 10, some 2), (33, some 10, none), (34, some 10, none), (35, some 10, none), (0, some 0, some 1), (0, some 0, some 3), (12, some 0, none), (13, some 0, none), (14, some 0, none), (17, some 0, none), (15, some 0, none), (18, some 0, none), (16, some 0, none)]
set_option maxHeartbeats 4000000 in
theorem frX10_areKept (a1 : Nat) (l2 : Int32) (h : Hp) : FrO (wX10_areKept a1) h (fX10_areKept a1 l2 h) := by
  have c_h : Fr (wX10_areKept a1) h h := Fr.rf
  unfold fX10_areKept
  refine fro_bnd (frX8_copySome 11 a1 l2 h) (fun _ a => a.pick [0, 1, 2, 3, 4, 5] rfl) c_h (fun _ h1 c_h1 => ?_)
  refine fro_bnd (frX2_explore 11 0 h1) (fun _ a => a.pick [6, 7, 8, 9, 10, 11, 12, 13, 14, 15, 16, 17, 18, 19, 20, 21, 22] rfl) c_h1 (fun x3 h2 c_h2 => ?_)
  refine fro_ck ?_
  exact fro_some c_h2
def wX10_alonePlates (a1 : Nat) : List FE := [(6, some 11, some 0), (6, some 11, some 1), (6, some 11, some 2), (33, some 11, none), (34, some 11, none), (35, some 11, none), (11, some 0, none), (0, some 0, some 2), (6, some 10, some 0), (6, some 10, some 1), (6, some 10, some 2), (33, some 10, none), (34, some 10, none), (35, some 10, none), (0, some 0, some 1), (0, some 0, some 3), (12, some 0, none), (13, some 0, none), (14, some 0, none), (17, some 0, none), (15, some 0, none), (18, some 0, none), (16, some 0, none)]
set_option maxHeartbeats 4000000 in
theorem frX10_alonePlates_l4 (a1 : Nat) (K : Int32 → Hp → Option (Int32 × Hp)) (h0 : Hp) (hK : ∀ (y2 : Int32) (h : Hp), Fr (wX10_alonePlates a1) h0 h → FrO (wX10_alonePlates a1) h0 (K y2 h)) : ∀ (n : Nat) (l2 l3 : Int32) (h : Hp), Fr (wX10_alonePlates a1) h0 h → FrO (wX10_alonePlates a1) h0 (itr2 (fX10_alonePlates_l4 a1 K) n l2 l3 h) := by
  refine fro_itr2 ?_
  intro rec hrec l2 l3 h c_h
  unfold fX10_alonePlates_l4
  refine fro_if ?_ ?_
  ·
    exact hK l2 h c_h
  ·
    refine fro_bnd (frX10_areKept a1 ((1 : Int32) <<< (l3 &&& 31)) h) (fun _ a => a.pick [0, 1, 2, 3, 4, 5, 6, 7, 8, 9, 10, 11, 12, 13, 14, 15, 16, 17, 18, 19, 20, 21, 22] rfl) c_h (fun x2 h1 c_h1 => ?_)
    refine fro_jn (fun (k29_2 : Int32 → Hp → Option (Int32 × Hp)) => ∀ (y2_2 : Int32) (h4 : Hp), Fr (wX10_alonePlates a1) h0 h4 → FrO (wX10_alonePlates a1) h0 (k29_2 y2_2 h4)) (fun y2_2 h4 c_h4 => ?_) (fun k29_2 Hk29_2 => ?_)
    ·
      refine fro_let (fun x5 => ?_)
      exact hrec y2_2 x5 h4 c_h4
    refine fro_if ?_ ?_
    ·
      exact Hk29_2 l2 h1 c_h1
    ·
      refine fro_let (fun x6 => ?_)
      exact Hk29_2 x6 h1 c_h1
set_option maxHeartbeats 4000000 in
theorem frX10_alonePlates (a1 : Nat) (h : Hp) : FrO (wX10_alonePlates a1) h (fX10_alonePlates a1 h) := by
  have c_h : Fr (wX10_alonePlates a1) h h := Fr.rf
  unfold fX10_alonePlates
  refine frX10_alonePlates_l4 a1 _ _ (fun y7 h8 c_h8 => ?_) FU 0 0 h c_h
  exact fro_some c_h8
def wX10_bestSwap (a1 : Nat) : List FE := [(11, some 0, none), (0, some 0, some 2), (6, some 10, some 0), (6, some 10, some 1), (6, some 10, some 2), (33, some 10, none), (34, some 10, none), (35, some 10, none), (0, some 0, some 1), (0, some 0, some 3), (12, some 0, none), (13, some 0, none), (14, some 0, none), (17, some 0, none), (15, some 0, none), (18, some 0, none), (16, some 0, none), (6, some 11, some 0), (6, some 11, some 1), (6, some 11, some 2), (33, some 11, none), (34, some 11, none), (35, some 11, none)]
set_option maxHeartbeats 4000000 in
theorem frX10_bestSwap_l28 (a1 : Nat) (l2 : Int32) (K : Hp → Option (Int32 × Hp)) (h0 : Hp) (hK : ∀ (h : Hp), Fr (wX10_bestSwap a1) h0 h → FrO (wX10_bestSwap a1) h0 (K  h)) : ∀ (n : Nat) (l3 : Int32) (h : Hp), Fr (wX10_bestSwap a1) h0 h → FrO (wX10_bestSwap a1) h0 (itr1 (fX10_bestSwap_l28 a1 l2 K) n l3 h) := by
  refine fro_itr1 ?_
  intro rec hrec l3 h c_h
  unfold fX10_bestSwap_l28
  refine fro_if ?_ ?_
  ·
    exact hK h c_h
  ·
    refine fro_bnd (frX8_copyFrom 11 a1 h) (fun _ a => a.pick [17, 18, 19, 20, 21, 22] rfl) c_h (fun _ h4 c_h4 => ?_)
    refine fro_ck ?_
    refine fro_ck ?_
    refine fro_h (fr_wa 20 rfl) c_h4 (fun h5 c_h5 => ?_)
    refine fro_ck ?_
    refine fro_ck ?_
    refine fro_h (fr_wa 20 rfl) c_h5 (fun h6 c_h6 => ?_)
    refine fro_ck ?_
    refine fro_ck ?_
    refine fro_jn (fun (k111_6 : Hp → Option (Int32 × Hp)) => ∀ (h8 : Hp), Fr (wX10_bestSwap a1) h0 h8 → FrO (wX10_bestSwap a1) h0 (k111_6 h8)) (fun h8 c_h8 => ?_) (fun k111_6 Hk111_6 => ?_)
    ·
      refine fro_let (fun x9 => ?_)
      exact hrec x9 h8 c_h8
    refine fro_if ?_ ?_
    ·
      exact Hk111_6 h6 c_h6
    ·
      refine fro_bnd (frX2_explore 11 0 h6) (fun _ a => a.pick [0, 1, 2, 3, 4, 5, 6, 7, 8, 9, 10, 11, 12, 13, 14, 15, 16] rfl) c_h6 (fun x11 h10 c_h10 => ?_)
      refine fro_if ?_ ?_
      ·
        exact Hk111_6 h10 c_h10
      ·
        exact fro_some c_h10
set_option maxHeartbeats 4000000 in
theorem frX10_bestSwap_l16 (a1 : Nat) (K : Int32 → Int32 → Hp → Option (Int32 × Hp)) (h0 : Hp) (hK : ∀ (y2 y3 : Int32) (h : Hp), Fr (wX10_bestSwap a1) h0 h → FrO (wX10_bestSwap a1) h0 (K y2 y3 h)) : ∀ (n : Nat) (l2 : Int32) (h : Hp), Fr (wX10_bestSwap a1) h0 h → FrO (wX10_bestSwap a1) h0 (itr1 (fX10_bestSwap_l16 a1 K) n l2 h) := by
  refine fro_itr1 ?_
  intro rec hrec l2 h c_h
  unfold fX10_bestSwap_l16
  refine fro_if ?_ ?_
  ·
    exact fro_some c_h
  ·
    refine fro_let (fun x3 => ?_)
    refine frX10_bestSwap_l28 a1 l2 _ _ (fun h12 c_h12 => ?_) FU x3 h c_h
    refine fro_let (fun x13 => ?_)
    exact hrec x13 h12 c_h12
set_option maxHeartbeats 4000000 in
theorem frX10_bestSwap (a1 : Nat) (h : Hp) : FrO (wX10_bestSwap a1) h (fX10_bestSwap a1 h) := by
  have c_h : Fr (wX10_bestSwap a1) h h := Fr.rf
  unfold fX10_bestSwap
  refine fro_bnd (frX2_explore a1 0 h) (fun _ a => a.pick [0, 1, 2, 3, 4, 5, 6, 7, 8, 9, 10, 11, 12, 13, 14, 15, 16] rfl) c_h (fun x2 h1 c_h1 => ?_)
  refine fro_if ?_ ?_
  ·
    refine frX10_bestSwap_l16 a1 _ _ (fun y14 y15 h16 c_h16 => ?_) FU 0 h1 c_h1
    exact fro_some c_h16
  ·
    exact fro_some c_h1
def wX10_couplesAlone (a1 : Nat) : List FE := [(6, some 11, some 0), (6, some 11, some 1), (6, some 11, some 2), (33, some 11, none), (34, some 11, none), (35, some 11, none), (11, some 0, none), (0, some 0, some 2), (6, some 10, some 0), (6, some 10, some 1), (6, some 10, some 2), (33, some 10, none), (34, some 10, none), (35, some 10, none), (0, some 0, some 1), (0, some 0, some 3), (12, some 0, none), (13, some 0, none), (14, some 0, none), (17, some 0, none), (15, some 0, none), (18, some 0, none), (16, some 0, none)]
set_option maxHeartbeats 4000000 in
theorem frX10_couplesAlone_l17 (a1 : Nat) (l3 : Int32) (K : Int32 → Hp → Option (Int32 × Hp)) (h0 : Hp) (hK : ∀ (y2 : Int32) (h : Hp), Fr (wX10_couplesAlone a1) h0 h → FrO (wX10_couplesAlone a1) h0 (K y2 h)) : ∀ (n : Nat) (l2 l4 : Int32) (h : Hp), Fr (wX10_couplesAlone a1) h0 h → FrO (wX10_couplesAlone a1) h0 (itr2 (fX10_couplesAlone_l17 a1 l3 K) n l2 l4 h) := by
  refine fro_itr2 ?_
  intro rec hrec l2 l4 h c_h
  unfold fX10_couplesAlone_l17
  refine fro_if ?_ ?_
  ·
    exact hK l2 h c_h
  ·
    refine fro_bnd (frX10_areKept a1 (((1 : Int32) <<< (l3 &&& 31)) ||| ((1 : Int32) <<< (l4 &&& 31))) h) (fun _ a => a.pick [0, 1, 2, 3, 4, 5, 6, 7, 8, 9, 10, 11, 12, 13, 14, 15, 16, 17, 18, 19, 20, 21, 22] rfl) c_h (fun x3 h2 c_h2 => ?_)
    refine fro_jn (fun (k45_3 : Int32 → Hp → Option (Int32 × Hp)) => ∀ (y2_3 : Int32) (h5 : Hp), Fr (wX10_couplesAlone a1) h0 h5 → FrO (wX10_couplesAlone a1) h0 (k45_3 y2_3 h5)) (fun y2_3 h5 c_h5 => ?_) (fun k45_3 Hk45_3 => ?_)
    ·
      refine fro_let (fun x6 => ?_)
      exact hrec y2_3 x6 h5 c_h5
    refine fro_if ?_ ?_
    ·
      exact Hk45_3 l2 h2 c_h2
    ·
      refine fro_let (fun x7 => ?_)
      exact Hk45_3 x7 h2 c_h2
set_option maxHeartbeats 4000000 in
theorem frX10_couplesAlone_l4 (a1 : Nat) (K : Int32 → Hp → Option (Int32 × Hp)) (h0 : Hp) (hK : ∀ (y2 : Int32) (h : Hp), Fr (wX10_couplesAlone a1) h0 h → FrO (wX10_couplesAlone a1) h0 (K y2 h)) : ∀ (n : Nat) (l2 l3 : Int32) (h : Hp), Fr (wX10_couplesAlone a1) h0 h → FrO (wX10_couplesAlone a1) h0 (itr2 (fX10_couplesAlone_l4 a1 K) n l2 l3 h) := by
  refine fro_itr2 ?_
  intro rec hrec l2 l3 h c_h
  unfold fX10_couplesAlone_l4
  refine fro_if ?_ ?_
  ·
    exact hK l2 h c_h
  ·
    refine fro_let (fun x1 => ?_)
    refine frX10_couplesAlone_l17 a1 l3 _ _ (fun y8 h9 c_h9 => ?_) FU l2 x1 h c_h
    refine fro_let (fun x10 => ?_)
    exact hrec y8 x10 h9 c_h9
set_option maxHeartbeats 4000000 in
theorem frX10_couplesAlone (a1 : Nat) (h : Hp) : FrO (wX10_couplesAlone a1) h (fX10_couplesAlone a1 h) := by
  have c_h : Fr (wX10_couplesAlone a1) h h := Fr.rf
  unfold fX10_couplesAlone
  refine frX10_couplesAlone_l4 a1 _ _ (fun y11 h12 c_h12 => ?_) FU 0 0 h c_h
  exact fro_some c_h12
def wX10_leastLife (a1 : Nat) : List FE := [(6, some 11, some 0), (6, some 11, some 1), (6, some 11, some 2), (33, some 11, none), (34, some 11, none), (35, some 11, none), (11, some 0, none), (0, some 0, some 2), (6, some 10, some 0), (6, some 10, some 1), (6, some 10, some 2), (33, some 10, none), (34, some 10, none), (35, some 10, none), (0, some 0, some 1), (0, some 0, some 3), (12, some 0, none), (13, some 0, none), (14, some 0, none), (17, some 0, none), (15, some 0, none), (18, some 0, none), (16, some 0, none)]
set_option maxHeartbeats 4000000 in
theorem frX10_leastLife_l20 (a1 : Nat) (l2 : Int32) (K : Hp → Option (Int32 × Hp)) (h0 : Hp) (hK : ∀ (h : Hp), Fr (wX10_leastLife a1) h0 h → FrO (wX10_leastLife a1) h0 (K  h)) : ∀ (n : Nat) (l3 : Int32) (h : Hp), Fr (wX10_leastLife a1) h0 h → FrO (wX10_leastLife a1) h0 (itr1 (fX10_leastLife_l20 a1 l2 K) n l3 h) := by
  refine fro_itr1 ?_
  intro rec hrec l3 h c_h
  unfold fX10_leastLife_l20
  refine fro_if ?_ ?_
  ·
    exact hK h c_h
  ·
    refine fro_ck ?_
    refine fro_h (fr_wa 4 rfl) c_h (fun h4 c_h4 => ?_)
    refine fro_ck ?_
    refine fro_let (fun x5 => ?_)
    refine fro_ck ?_
    refine fro_h (fr_wa 5 rfl) c_h4 (fun h6 c_h6 => ?_)
    refine fro_bnd (frX2_explore 11 0 h6) (fun _ a => a.pick [6, 7, 8, 9, 10, 11, 12, 13, 14, 15, 16, 17, 18, 19, 20, 21, 22] rfl) c_h6 (fun x8 h7 c_h7 => ?_)
    refine fro_if ?_ ?_
    ·
      refine fro_let (fun x9 => ?_)
      exact hrec x9 h7 c_h7
    ·
      exact fro_some c_h7
set_option maxHeartbeats 4000000 in
theorem frX10_leastLife (a1 : Nat) (l2 : Int32) (h : Hp) : FrO (wX10_leastLife a1) h (fX10_leastLife a1 l2 h) := by
  have c_h : Fr (wX10_leastLife a1) h h := Fr.rf
  unfold fX10_leastLife
  refine fro_bnd (frX8_has a1 l2 h) (fun _ a => a.pick [] rfl) c_h (fun x2 h1 c_h1 => ?_)
  refine fro_if ?_ ?_
  ·
    exact fro_some c_h1
  ·
    refine fro_bnd (frX8_copyFrom 11 a1 h1) (fun _ a => a.pick [0, 1, 2, 3, 4, 5] rfl) c_h1 (fun _ h3 c_h3 => ?_)
    refine frX10_leastLife_l20 a1 l2 _ _ (fun h10 c_h10 => ?_) FU 1 h3 c_h3
    exact fro_some c_h10
def wX10_leastSpeed (a1 : Nat) : List FE := [(6, some 11, some 0), (6, some 11, some 1), (6, some 11, some 2), (33, some 11, none), (34, some 11, none), (35, some 11, none), (11, some 0, none), (0, some 0, some 2), (6, some 10, some 0), (6, some 10, some 1), (6, some 10, some 2), (33, some 10, none), (34, some 10, none), (35, some 10, none), (0, some 0, some 1), (0, some 0, some 3), (12, some 0, none), (13, some 0, none), (14, some 0, none), (17, some 0, none), (15, some 0, none), (18, some 0, none), (16, some 0, none)]
set_option maxHeartbeats 4000000 in
theorem frX10_leastSpeed_l10 (a1 : Nat) (K : Hp → Option (Int32 × Hp)) (h0 : Hp) (hK : ∀ (h : Hp), Fr (wX10_leastSpeed a1) h0 h → FrO (wX10_leastSpeed a1) h0 (K  h)) : ∀ (n : Nat) (l2 : Int32) (h : Hp), Fr (wX10_leastSpeed a1) h0 h → FrO (wX10_leastSpeed a1) h0 (itr1 (fX10_leastSpeed_l10 K) n l2 h) := by
  refine fro_itr1 ?_
  intro rec hrec l2 h c_h
  unfold fX10_leastSpeed_l10
  refine fro_if ?_ ?_
  ·
    exact hK h c_h
  ·
    refine fro_h (fr_wr 0 rfl) c_h (fun h2 c_h2 => ?_)
    refine fro_bnd (frX2_explore 11 0 h2) (fun _ a => a.pick [6, 7, 8, 9, 10, 11, 12, 13, 14, 15, 16, 17, 18, 19, 20, 21, 22] rfl) c_h2 (fun x4 h3 c_h3 => ?_)
    refine fro_if ?_ ?_
    ·
      refine fro_let (fun x5 => ?_)
      exact hrec x5 h3 c_h3
    ·
      exact fro_some c_h3
set_option maxHeartbeats 4000000 in
theorem frX10_leastSpeed (a1 : Nat) (h : Hp) : FrO (wX10_leastSpeed a1) h (fX10_leastSpeed a1 h) := by
  have c_h : Fr (wX10_leastSpeed a1) h h := Fr.rf
  unfold fX10_leastSpeed
  refine fro_bnd (frX8_copyFrom 11 a1 h) (fun _ a => a.pick [0, 1, 2, 3, 4, 5] rfl) c_h (fun _ h1 c_h1 => ?_)
  refine frX10_leastSpeed_l10 a1 _ _ (fun h6 c_h6 => ?_) FU 1 h1 c_h1
  exact fro_some c_h6
def wX10_mostKept (a1 : Nat) : List FE := [(6, some 11, some 0), (6, some 11, some 1), (6, some 11, some 2), (33, some 11, none), (34, some 11, none), (35, some 11, none), (11, some 0, none), (0, some 0, some 2), (6, some 10, some 0), (6, some 10, some 1), (6, some 10, some 2), (33, some 10, none), (34, some 10, none), (35, some 10, none), (0, some 0, some 1), (0, some 0, some 3), (12, some 0, none), (13, some 0, none), (14, some 0, none), (17, some 0, none), (15, some 0, none), (18, some 0, none), (16, some 0, none)]
set_option maxHeartbeats 4000000 in
theorem frX10_mostKept_l11 (a1 : Nat) (l2 : Int32) (K : Hp → Option (Int32 × Hp)) (h0 : Hp) (hK : ∀ (h : Hp), Fr (wX10_mostKept a1) h0 h → FrO (wX10_mostKept a1) h0 (K  h)) : ∀ (n : Nat) (l3 : Int32) (h : Hp), Fr (wX10_mostKept a1) h0 h → FrO (wX10_mostKept a1) h0 (itr1 (fX10_mostKept_l11 a1 l2 K) n l3 h) := by
  refine fro_itr1 ?_
  intro rec hrec l3 h c_h
  unfold fX10_mostKept_l11
  refine fro_if ?_ ?_
  ·
    exact hK h c_h
  ·
    refine fro_bnd (frJ6_bitCount_0f7a4 l3 h) (fun _ a => a.pick [] rfl) c_h (fun x3 h2 c_h2 => ?_)
    refine fro_jn (fun (k40_3 : Hp → Option (Int32 × Hp)) => ∀ (h5 : Hp), Fr (wX10_mostKept a1) h0 h5 → FrO (wX10_mostKept a1) h0 (k40_3 h5)) (fun h5 c_h5 => ?_) (fun k40_3 Hk40_3 => ?_)
    ·
      refine fro_let (fun x6 => ?_)
      exact hrec x6 h5 c_h5
    refine fro_if ?_ ?_
    ·
      refine fro_bnd (frX10_areKept a1 l3 h2) (fun _ a => a.pick [0, 1, 2, 3, 4, 5, 6, 7, 8, 9, 10, 11, 12, 13, 14, 15, 16, 17, 18, 19, 20, 21, 22] rfl) c_h2 (fun x8 h7 c_h7 => ?_)
      refine fro_if ?_ ?_
      ·
        exact Hk40_3 h7 c_h7
      ·
        exact fro_some c_h7
    ·
      exact Hk40_3 h2 c_h2
set_option maxHeartbeats 4000000 in
theorem frX10_mostKept_l5 (a1 : Nat) (K : Hp → Option (Int32 × Hp)) (h0 : Hp) (hK : ∀ (h : Hp), Fr (wX10_mostKept a1) h0 h → FrO (wX10_mostKept a1) h0 (K  h)) : ∀ (n : Nat) (l2 : Int32) (h : Hp), Fr (wX10_mostKept a1) h0 h → FrO (wX10_mostKept a1) h0 (itr1 (fX10_mostKept_l5 a1 K) n l2 h) := by
  refine fro_itr1 ?_
  intro rec hrec l2 h c_h
  unfold fX10_mostKept_l5
  refine fro_if ?_ ?_
  ·
    exact hK h c_h
  ·
    refine frX10_mostKept_l11 a1 l2 _ _ (fun h9 c_h9 => ?_) FU 1 h c_h
    refine fro_let (fun x10 => ?_)
    exact hrec x10 h9 c_h9
set_option maxHeartbeats 4000000 in
theorem frX10_mostKept (a1 : Nat) (h : Hp) : FrO (wX10_mostKept a1) h (fX10_mostKept a1 h) := by
  have c_h : Fr (wX10_mostKept a1) h h := Fr.rf
  unfold fX10_mostKept
  refine fro_let (fun x1 => ?_)
  refine frX10_mostKept_l5 a1 _ _ (fun h11 c_h11 => ?_) FU x1 h c_h
  exact fro_some c_h11
def wX10_movePlaces (a1 : Nat) : List FE := [(6, some 11, some 0), (6, some 11, some 1), (6, some 11, some 2), (33, some 11, none), (34, some 11, none), (35, some 11, none), (11, some 0, none), (0, some 0, some 2), (6, some 10, some 0), (6, some 10, some 1), (6, some 10, some 2), (33, some 10, none), (34, some 10, none), (35, some 10, none), (0, some 0, some 1), (0, some 0, some 3), (12, some 0, none), (13, some 0, none), (14, some 0, none), (17, some 0, none), (15, some 0, none), (18, some 0, none), (16, some 0, none)]
set_option maxHeartbeats 4000000 in
theorem frX10_movePlaces_l23 (a1 : Nat) (l2 : Int32) (K : Int32 → Hp → Option (Int32 × Hp)) (h0 : Hp) (hK : ∀ (y3 : Int32) (h : Hp), Fr (wX10_movePlaces a1) h0 h → FrO (wX10_movePlaces a1) h0 (K y3 h)) : ∀ (n : Nat) (l3 l4 : Int32) (h : Hp), Fr (wX10_movePlaces a1) h0 h → FrO (wX10_movePlaces a1) h0 (itr2 (fX10_movePlaces_l23 l2 K) n l3 l4 h) := by
  refine fro_itr2 ?_
  intro rec hrec l3 l4 h c_h
  unfold fX10_movePlaces_l23
  refine fro_if ?_ ?_
  ·
    exact hK l3 h c_h
  ·
    refine fro_ck ?_
    refine fro_h (fr_wa 3 rfl) c_h (fun h4 c_h4 => ?_)
    refine fro_bnd (frX2_explore 11 0 h4) (fun _ a => a.pick [6, 7, 8, 9, 10, 11, 12, 13, 14, 15, 16, 17, 18, 19, 20, 21, 22] rfl) c_h4 (fun x6 h5 c_h5 => ?_)
    refine fro_jn (fun (k63_6 : Int32 → Hp → Option (Int32 × Hp)) => ∀ (y3_6 : Int32) (h8 : Hp), Fr (wX10_movePlaces a1) h0 h8 → FrO (wX10_movePlaces a1) h0 (k63_6 y3_6 h8)) (fun y3_6 h8 c_h8 => ?_) (fun k63_6 Hk63_6 => ?_)
    ·
      refine fro_let (fun x9 => ?_)
      exact hrec y3_6 x9 h8 c_h8
    refine fro_if ?_ ?_
    ·
      exact Hk63_6 l3 h5 c_h5
    ·
      refine fro_let (fun x10 => ?_)
      exact Hk63_6 x10 h5 c_h5
set_option maxHeartbeats 4000000 in
theorem frX10_movePlaces (a1 : Nat) (l2 : Int32) (h : Hp) : FrO (wX10_movePlaces a1) h (fX10_movePlaces a1 l2 h) := by
  have c_h : Fr (wX10_movePlaces a1) h h := Fr.rf
  unfold fX10_movePlaces
  refine fro_bnd (frX8_has a1 l2 h) (fun _ a => a.pick [] rfl) c_h (fun x2 h1 c_h1 => ?_)
  refine fro_if ?_ ?_
  ·
    exact fro_some c_h1
  ·
    refine fro_bnd (frX8_copyFrom 11 a1 h1) (fun _ a => a.pick [0, 1, 2, 3, 4, 5] rfl) c_h1 (fun _ h3 c_h3 => ?_)
    refine frX10_movePlaces_l23 a1 l2 _ _ (fun y11 h12 c_h12 => ?_) FU 0 0 h3 c_h3
    exact fro_some c_h12
def wX10_sparePlates (a1 : Nat) : List FE := [(6, some 11, some 0), (6, some 11, some 1), (6, some 11, some 2), (33, some 11, none), (34, some 11, none), (35, some 11, none), (11, some 0, none), (0, some 0, some 2), (6, some 10, some 0), (6, some 10, some 1), (6, some 10, some 2), (33, some 10, none), (34, some 10, none), (35, some 10, none), (0, some 0, some 1), (0, some 0, some 3), (12, some 0, none), (13, some 0, none), (14, some 0, none), (17, some 0, none), (15, some 0, none), (18, some 0, none), (16, some 0, none)]
set_option maxHeartbeats 4000000 in
theorem frX10_sparePlates_l14 (a1 : Nat) (l2 : Int32) (K : Int32 → Hp → Option (Int32 × Hp)) (h0 : Hp) (hK : ∀ (y3 : Int32) (h : Hp), Fr (wX10_sparePlates a1) h0 h → FrO (wX10_sparePlates a1) h0 (K y3 h)) : ∀ (n : Nat) (l3 l4 : Int32) (h : Hp), Fr (wX10_sparePlates a1) h0 h → FrO (wX10_sparePlates a1) h0 (itr2 (fX10_sparePlates_l14 a1 l2 K) n l3 l4 h) := by
  refine fro_itr2 ?_
  intro rec hrec l3 l4 h c_h
  unfold fX10_sparePlates_l14
  refine fro_if ?_ ?_
  ·
    exact hK l3 h c_h
  ·
    refine fro_bnd (frX10_areKept a1 (l2 &&& (((1 : Int32) <<< (l4 &&& 31)) ^^^ (-1 : Int32))) h) (fun _ a => a.pick [0, 1, 2, 3, 4, 5, 6, 7, 8, 9, 10, 11, 12, 13, 14, 15, 16, 17, 18, 19, 20, 21, 22] rfl) c_h (fun x3 h2 c_h2 => ?_)
    refine fro_jn (fun (k46_3 : Int32 → Hp → Option (Int32 × Hp)) => ∀ (y3_3 : Int32) (h5 : Hp), Fr (wX10_sparePlates a1) h0 h5 → FrO (wX10_sparePlates a1) h0 (k46_3 y3_3 h5)) (fun y3_3 h5 c_h5 => ?_) (fun k46_3 Hk46_3 => ?_)
    ·
      refine fro_let (fun x6 => ?_)
      exact hrec y3_3 x6 h5 c_h5
    refine fro_if ?_ ?_
    ·
      exact Hk46_3 l3 h2 c_h2
    ·
      refine fro_let (fun x7 => ?_)
      exact Hk46_3 x7 h2 c_h2
set_option maxHeartbeats 4000000 in
theorem frX10_sparePlates (a1 : Nat) (h : Hp) : FrO (wX10_sparePlates a1) h (fX10_sparePlates a1 h) := by
  have c_h : Fr (wX10_sparePlates a1) h h := Fr.rf
  unfold fX10_sparePlates
  refine fro_let (fun x1 => ?_)
  refine frX10_sparePlates_l14 a1 x1 _ _ (fun y8 h9 c_h9 => ?_) FU 0 0 h c_h
  exact fro_some c_h9
def wX10_startPlaces (a1 : Nat) : List FE := [(6, some 11, some 0), (6, some 11, some 1), (6, some 11, some 2), (33, some 11, none), (34, some 11, none), (35, some 11, none), (11, some 0, none), (0, some 0, some 2), (6, some 10, some 0), (6, some 10, some 1), (6, some 10, some 2), (33, some 10, none), (34, some 10, none), (35, some 10, none), (0, some 0, some 1), (0, some 0, some 3), (12, some 0, none), (13, some 0, none), (14, some 0, none), (17, some 0, none), (15, some 0, none), (18, some 0, none), (16, some 0, none)]
set_option maxHeartbeats 4000000 in
theorem frX10_startPlaces_l12 (a1 : Nat) (K : Int32 → Hp → Option (Int32 × Hp)) (h0 : Hp) (hK : ∀ (y2 : Int32) (h : Hp), Fr (wX10_startPlaces a1) h0 h → FrO (wX10_startPlaces a1) h0 (K y2 h)) : ∀ (n : Nat) (l2 l3 : Int32) (h : Hp), Fr (wX10_startPlaces a1) h0 h → FrO (wX10_startPlaces a1) h0 (itr2 (fX10_startPlaces_l12 K) n l2 l3 h) := by
  refine fro_itr2 ?_
  intro rec hrec l2 l3 h c_h
  unfold fX10_startPlaces_l12
  refine fro_if ?_ ?_
  ·
    exact hK l2 h c_h
  ·
    refine fro_h (fr_wr 1 rfl) c_h (fun h2 c_h2 => ?_)
    refine fro_bnd (frX2_explore 11 0 h2) (fun _ a => a.pick [6, 7, 8, 9, 10, 11, 12, 13, 14, 15, 16, 17, 18, 19, 20, 21, 22] rfl) c_h2 (fun x4 h3 c_h3 => ?_)
    refine fro_jn (fun (k47_4 : Int32 → Hp → Option (Int32 × Hp)) => ∀ (y2_4 : Int32) (h6 : Hp), Fr (wX10_startPlaces a1) h0 h6 → FrO (wX10_startPlaces a1) h0 (k47_4 y2_4 h6)) (fun y2_4 h6 c_h6 => ?_) (fun k47_4 Hk47_4 => ?_)
    ·
      refine fro_let (fun x7 => ?_)
      exact hrec y2_4 x7 h6 c_h6
    refine fro_if ?_ ?_
    ·
      exact Hk47_4 l2 h3 c_h3
    ·
      refine fro_let (fun x8 => ?_)
      exact Hk47_4 x8 h3 c_h3
set_option maxHeartbeats 4000000 in
theorem frX10_startPlaces (a1 : Nat) (h : Hp) : FrO (wX10_startPlaces a1) h (fX10_startPlaces a1 h) := by
  have c_h : Fr (wX10_startPlaces a1) h h := Fr.rf
  unfold fX10_startPlaces
  refine fro_bnd (frX8_copyFrom 11 a1 h) (fun _ a => a.pick [0, 1, 2, 3, 4, 5] rfl) c_h (fun _ h1 c_h1 => ?_)
  refine frX10_startPlaces_l12 a1 _ _ (fun y9 h10 c_h10 => ?_) FU 0 0 h1 c_h1
  exact fro_some c_h10
def wX4_mostSpun : List FE := []
set_option maxHeartbeats 4000000 in
theorem frX4_mostSpun_l4 (K : Int32 → Hp → Option (Int32 × Hp)) (h0 : Hp) (hK : ∀ (y1 : Int32) (h : Hp), Fr wX4_mostSpun h0 h → FrO wX4_mostSpun h0 (K y1 h)) : ∀ (n : Nat) (l1 l2 : Int32) (h : Hp), Fr wX4_mostSpun h0 h → FrO wX4_mostSpun h0 (itr2 (fX4_mostSpun_l4 K) n l1 l2 h) := by
  refine fro_itr2 ?_
  intro rec hrec l1 l2 h c_h
  unfold fX4_mostSpun_l4
  refine fro_if ?_ ?_
  ·
    exact hK l1 h c_h
  ·
    refine fro_ck ?_
    refine fro_jn (fun (k36_0 : Int32 → Hp → Option (Int32 × Hp)) => ∀ (z0_0 : Int32) (h2 : Hp), Fr wX4_mostSpun h0 h2 → FrO wX4_mostSpun h0 (k36_0 z0_0 h2)) (fun z0_0 h2 c_h2 => ?_) (fun k36_0 Hk36_0 => ?_)
    ·
      refine fro_jn (fun (k41_2 : Int32 → Hp → Option (Int32 × Hp)) => ∀ (y1_2 : Int32) (h4 : Hp), Fr wX4_mostSpun h0 h4 → FrO wX4_mostSpun h0 (k41_2 y1_2 h4)) (fun y1_2 h4 c_h4 => ?_) (fun k41_2 Hk41_2 => ?_)
      ·
        refine fro_let (fun x5 => ?_)
        exact hrec y1_2 x5 h4 c_h4
      refine fro_if ?_ ?_
      ·
        exact Hk41_2 l1 h2 c_h2
      ·
        exact Hk41_2 l2 h2 c_h2
    refine fro_if ?_ ?_
    ·
      exact Hk36_0 0 h c_h
    ·
      refine fro_ck ?_
      exact Hk36_0 (ra h 24 0 l1) h c_h
set_option maxHeartbeats 4000000 in
theorem frX4_mostSpun (h : Hp) : FrO wX4_mostSpun h (fX4_mostSpun h) := by
  have c_h : Fr wX4_mostSpun h h := Fr.rf
  unfold fX4_mostSpun
  refine frX4_mostSpun_l4 _ _ (fun y6 h7 c_h7 => ?_) FU (-1) 0 h c_h
  exact fro_some c_h7
def wX4_begin (a1 : Nat) : List FE := [(6, some 9, some 0), (6, some 9, some 1), (6, some 9, some 2), (33, some 9, none), (34, some 9, none), (35, some 9, none), (2, some 0, some 2), (2, some 0, some 3), (2, some 0, some 4), (2, some 0, some 5), (2, some 0, some 6), (2, some 0, some 8), (2, some 0, some 9), (2, some 0, some 10), (2, some 0, some 11), (2, some 0, some 12), (24, some 0, none)]
set_option maxHeartbeats 4000000 in
theorem frX4_begin_l63 (a1 : Nat) (K : Hp → Option (Unit × Hp)) (h0 : Hp) (hK : ∀ (h : Hp), Fr (wX4_begin a1) h0 h → FrO (wX4_begin a1) h0 (K  h)) : ∀ (n : Nat) (l2 : Int32) (h : Hp), Fr (wX4_begin a1) h0 h → FrO (wX4_begin a1) h0 (itr1 (fX4_begin_l63 K) n l2 h) := by
  refine fro_itr1 ?_
  intro rec hrec l2 h c_h
  unfold fX4_begin_l63
  refine fro_if ?_ ?_
  ·
    exact hK h c_h
  ·
    refine fro_ck ?_
    refine fro_h (fr_wa 16 rfl) c_h (fun h12 c_h12 => ?_)
    refine fro_let (fun x13 => ?_)
    exact hrec x13 h12 c_h12
set_option maxHeartbeats 4000000 in
theorem frX4_begin (a1 : Nat) (h : Hp) : FrO (wX4_begin a1) h (fX4_begin a1 h) := by
  have c_h : Fr (wX4_begin a1) h h := Fr.rf
  unfold fX4_begin
  refine fro_bnd (frX8_copyFrom 9 a1 h) (fun _ a => a.pick [0, 1, 2, 3, 4, 5] rfl) c_h (fun _ h1 c_h1 => ?_)
  refine fro_h (fr_wr 6 rfl) c_h1 (fun h2 c_h2 => ?_)
  refine fro_h (fr_wr 7 rfl) c_h2 (fun h3 c_h3 => ?_)
  refine fro_h (fr_wr 8 rfl) c_h3 (fun h4 c_h4 => ?_)
  refine fro_h (fr_wr 9 rfl) c_h4 (fun h5 c_h5 => ?_)
  refine fro_h (fr_wr 10 rfl) c_h5 (fun h6 c_h6 => ?_)
  refine fro_h (fr_wr 11 rfl) c_h6 (fun h7 c_h7 => ?_)
  refine fro_h (fr_wr 12 rfl) c_h7 (fun h8 c_h8 => ?_)
  refine fro_h (fr_wr 13 rfl) c_h8 (fun h9 c_h9 => ?_)
  refine fro_h (fr_wr 14 rfl) c_h9 (fun h10 c_h10 => ?_)
  refine fro_h (fr_wr 15 rfl) c_h10 (fun h11 c_h11 => ?_)
  refine frX4_begin_l63 a1 _ _ (fun h14 c_h14 => ?_) FU 0 h11 c_h11
  exact fro_some c_h14
def wX4_may : List FE := []
set_option maxHeartbeats 4000000 in
theorem frX4_may (l1 : Int32) (l2 : Int32) (h : Hp) : FrO wX4_may h (fX4_may l1 l2 h) := by
  have c_h : Fr wX4_may h h := Fr.rf
  unfold fX4_may
  refine fro_if ?_ ?_
  ·
    refine fro_if ?_ ?_
    ·
      refine fro_ck ?_
      exact fro_some c_h
    ·
      refine fro_ck ?_
      exact fro_some c_h
  ·
    refine fro_bnd (frX8_has 9 l2 h) (fun _ a => a.pick [] rfl) c_h (fun x2 h1 c_h1 => ?_)
    refine fro_if ?_ ?_
    ·
      refine fro_ck ?_
      exact fro_some c_h1
    ·
      refine fro_ck ?_
      refine fro_jn (fun (k51_2 : Int32 → Hp → Option (Int32 × Hp)) => ∀ (z0_2 : Int32) (h4 : Hp), Fr wX4_may h h4 → FrO wX4_may h (k51_2 z0_2 h4)) (fun z0_2 h4 c_h4 => ?_) (fun k51_2 Hk51_2 => ?_)
      ·
        refine fro_ck ?_
        refine fro_bnd (frX8_way 9 (rd h4 2 0 2) (ra h4 33 9 l2) h4) (fun _ a => a.pick [] rfl) c_h4 (fun x6 h5 c_h5 => ?_)
        refine fro_let (fun x7 => ?_)
        refine fro_if ?_ ?_
        ·
          refine fro_jn (fun (k127_8 : Hp → Option (Int32 × Hp)) => ∀ (h10 : Hp), Fr wX4_may h h10 → FrO wX4_may h (k127_8 h10)) (fun h10 c_h10 => ?_) (fun k127_8 Hk127_8 => ?_)
          ·
            refine fro_ck ?_
            exact fro_some c_h10
          refine fro_if ?_ ?_
          ·
            exact Hk127_8 h5 c_h5
          ·
            refine fro_if ?_ ?_
            ·
              exact Hk127_8 h5 c_h5
            ·
              refine fro_ck ?_
              exact fro_some c_h5
        refine fro_if ?_ ?_
        ·
          refine fro_jn (fun (k144_11 : Hp → Option (Int32 × Hp)) => ∀ (h13 : Hp), Fr wX4_may h h13 → FrO wX4_may h (k144_11 h13)) (fun h13 c_h13 => ?_) (fun k144_11 Hk144_11 => ?_)
          ·
            refine fro_ck ?_
            exact fro_some c_h13
          refine fro_if ?_ ?_
          ·
            refine fro_if ?_ ?_
            ·
              exact Hk144_11 h5 c_h5
            ·
              refine fro_ck ?_
              exact fro_some c_h5
          ·
            exact Hk144_11 h5 c_h5
        refine fro_if ?_ ?_
        ·
          refine fro_ck ?_
          exact fro_some c_h5
        refine fro_if ?_ ?_
        ·
          refine fro_ck ?_
          refine fro_if ?_ ?_
          ·
            refine fro_ck ?_
            exact fro_some c_h5
          ·
            refine fro_ck ?_
            exact fro_some c_h5
        refine fro_ck ?_
        exact fro_some c_h5
      refine fro_if ?_ ?_
      ·
        exact Hk51_2 0 h1 c_h1
      ·
        exact Hk51_2 1 h1 c_h1
def wX4_blowAt : List FE := [(35, some 9, none), (2, some 0, some 4)]
set_option maxHeartbeats 4000000 in
theorem frX4_blowAt (l1 : Int32) (h : Hp) : FrO wX4_blowAt h (fX4_blowAt l1 h) := by
  have c_h : Fr wX4_blowAt h h := Fr.rf
  unfold fX4_blowAt
  refine fro_ck ?_
  refine fro_ck ?_
  refine fro_h (fr_wa 0 rfl) c_h (fun h1 c_h1 => ?_)
  refine fro_ck ?_
  refine fro_if ?_ ?_
  ·
    refine fro_h (fr_wr 1 rfl) c_h1 (fun h2 c_h2 => ?_)
    exact fro_some c_h2
  ·
    exact fro_some c_h1
def wX4_passBeat : List FE := [(35, some 9, none), (2, some 0, some 3), (2, some 0, some 4), (2, some 0, some 12), (2, some 0, some 6), (2, some 0, some 10)]
set_option maxHeartbeats 4000000 in
theorem frX4_passBeat_l4 (l1 : Int32) (K : Int32 → Hp → Option (Unit × Hp)) (h0 : Hp) (hK : ∀ (y2 : Int32) (h : Hp), Fr wX4_passBeat h0 h → FrO wX4_passBeat h0 (K y2 h)) : ∀ (n : Nat) (l2 l3 : Int32) (h : Hp), Fr wX4_passBeat h0 h → FrO wX4_passBeat h0 (itr2 (fX4_passBeat_l4 l1 K) n l2 l3 h) := by
  refine fro_itr2 ?_
  intro rec hrec l2 l3 h c_h
  unfold fX4_passBeat_l4
  refine fro_if ?_ ?_
  ·
    exact hK l2 h c_h
  ·
    refine fro_jn (fun (k60_0 : Int32 → Hp → Option (Unit × Hp)) => ∀ (y2_0 : Int32) (h2 : Hp), Fr wX4_passBeat h0 h2 → FrO wX4_passBeat h0 (k60_0 y2_0 h2)) (fun y2_0 h2 c_h2 => ?_) (fun k60_0 Hk60_0 => ?_)
    ·
      refine fro_let (fun x3 => ?_)
      exact hrec y2_0 x3 h2 c_h2
    refine fro_if ?_ ?_
    ·
      exact Hk60_0 l2 h c_h
    ·
      refine fro_ck ?_
      refine fro_if ?_ ?_
      ·
        exact Hk60_0 l2 h c_h
      ·
        refine fro_ck ?_
        refine fro_ck ?_
        refine fro_h (fr_wa 0 rfl) c_h (fun h4 c_h4 => ?_)
        refine fro_ck ?_
        refine fro_if ?_ ?_
        ·
          refine fro_let (fun x5 => ?_)
          exact Hk60_0 x5 h4 c_h4
        ·
          exact Hk60_0 l2 h4 c_h4
set_option maxHeartbeats 4000000 in
theorem frX4_passBeat (l1 : Int32) (h : Hp) : FrO wX4_passBeat h (fX4_passBeat l1 h) := by
  have c_h : Fr wX4_passBeat h h := Fr.rf
  unfold fX4_passBeat
  refine frX4_passBeat_l4 l1 _ _ (fun y6 h7 c_h7 => ?_) FU 0 0 h c_h
  refine fro_h (fr_wr 1 rfl) c_h7 (fun h8 c_h8 => ?_)
  refine fro_h (fr_wr 2 rfl) c_h8 (fun h9 c_h9 => ?_)
  refine fro_let (fun x10 => ?_)
  refine fro_h (fr_wr 3 rfl) c_h9 (fun h11 c_h11 => ?_)
  refine fro_jn (fun (k113_11 : Int32 → Hp → Option (Unit × Hp)) => ∀ (z0_11 : Int32) (h13 : Hp), Fr wX4_passBeat h h13 → FrO wX4_passBeat h (k113_11 z0_11 h13)) (fun z0_11 h13 c_h13 => ?_) (fun k113_11 Hk113_11 => ?_)
  ·
    refine fro_h (fr_wr 4 rfl) c_h13 (fun h14 c_h14 => ?_)
    refine fro_let (fun x15 => ?_)
    refine fro_h (fr_wr 5 rfl) c_h14 (fun h16 c_h16 => ?_)
    exact fro_some c_h16
  refine fro_if ?_ ?_
  ·
    exact Hk113_11 ((rd h11 2 0 6) + (1 : Int32)) h11 c_h11
  ·
    exact Hk113_11 0 h11 c_h11
def wX4_passWay : List FE := [(35, some 9, none), (2, some 0, some 3), (2, some 0, some 4), (2, some 0, some 12), (2, some 0, some 6), (2, some 0, some 10), (2, some 0, some 11), (2, some 0, some 2)]
set_option maxHeartbeats 4000000 in
theorem frX4_passWay_l23 (l2 : Int32) (K : Hp → Option (Unit × Hp)) (h0 : Hp) (hK : ∀ (h : Hp), Fr wX4_passWay h0 h → FrO wX4_passWay h0 (K  h)) : ∀ (n : Nat) (l3 : Int32) (h : Hp), Fr wX4_passWay h0 h → FrO wX4_passWay h0 (itr1 (fX4_passWay_l23 l2 K) n l3 h) := by
  refine fro_itr1 ?_
  intro rec hrec l3 h c_h
  unfold fX4_passWay_l23
  refine fro_if ?_ ?_
  ·
    exact hK h c_h
  ·
    refine fro_bnd (frX4_passBeat (-1) h) (fun _ a => a.pick [0, 1, 2, 3, 4, 5] rfl) c_h (fun _ h3 c_h3 => ?_)
    refine fro_let (fun x4 => ?_)
    exact hrec x4 h3 c_h3
set_option maxHeartbeats 4000000 in
theorem frX4_passWay (l1 : Int32) (h : Hp) : FrO wX4_passWay h (fX4_passWay l1 h) := by
  have c_h : Fr wX4_passWay h h := Fr.rf
  unfold fX4_passWay
  refine fro_ck ?_
  refine fro_bnd (frX8_way 9 (rd h 2 0 2) (ra h 33 9 l1) h) (fun _ a => a.pick [] rfl) c_h (fun x2 h1 c_h1 => ?_)
  refine frX4_passWay_l23 x2 _ _ (fun h5 c_h5 => ?_) FU 0 h1 c_h1
  refine fro_h (fr_wr 6 rfl) c_h5 (fun h6 c_h6 => ?_)
  refine fro_ck ?_
  refine fro_h (fr_wr 7 rfl) c_h6 (fun h7 c_h7 => ?_)
  exact fro_some c_h7
def wX4_runTo : List FE := [(35, some 9, none), (2, some 0, some 3), (2, some 0, some 4), (2, some 0, some 12), (2, some 0, some 6), (2, some 0, some 10), (2, some 0, some 11), (2, some 0, some 2), (2, some 0, some 9), (2, some 0, some 5), (24, some 0, none)]
set_option maxHeartbeats 4000000 in
theorem frX4_runTo (l1 : Int32) (h : Hp) : FrO wX4_runTo h (fX4_runTo l1 h) := by
  have c_h : Fr wX4_runTo h h := Fr.rf
  unfold fX4_runTo
  refine fro_bnd (frX4_passWay l1 h) (fun _ a => a.pick [0, 1, 2, 3, 4, 5, 6, 7] rfl) c_h (fun _ h1 c_h1 => ?_)
  refine fro_ck ?_
  refine fro_if ?_ ?_
  ·
    refine fro_bnd (frX4_passBeat (-1) h1) (fun _ a => a.pick [0, 1, 2, 3, 4, 5] rfl) c_h1 (fun _ h2 c_h2 => ?_)
    refine fro_h (fr_wr 8 rfl) c_h2 (fun h3 c_h3 => ?_)
    exact fro_some c_h3
  ·
    refine fro_bnd (frX4_passBeat l1 h1) (fun _ a => a.pick [0, 1, 2, 3, 4, 5] rfl) c_h1 (fun _ h4 c_h4 => ?_)
    refine fro_ck ?_
    refine fro_ck ?_
    refine fro_h (fr_wa 0 rfl) c_h4 (fun h5 c_h5 => ?_)
    refine fro_h (fr_wr 9 rfl) c_h5 (fun h6 c_h6 => ?_)
    refine fro_ck ?_
    refine fro_ck ?_
    refine fro_h (fr_wa 10 rfl) c_h6 (fun h7 c_h7 => ?_)
    exact fro_some c_h7
def wX4_setUp : List FE := [(35, some 9, none), (2, some 0, some 3), (2, some 0, some 4), (2, some 0, some 12), (2, some 0, some 6), (2, some 0, some 10), (2, some 0, some 11), (2, some 0, some 2)]
set_option maxHeartbeats 4000000 in
theorem frX4_setUp (l1 : Int32) (h : Hp) : FrO wX4_setUp h (fX4_setUp l1 h) := by
  have c_h : Fr wX4_setUp h h := Fr.rf
  unfold fX4_setUp
  refine fro_bnd (frX4_passWay l1 h) (fun _ a => a.pick [0, 1, 2, 3, 4, 5, 6, 7] rfl) c_h (fun _ h1 c_h1 => ?_)
  refine fro_bnd (frX4_passBeat (-1) h1) (fun _ a => a.pick [0, 1, 2, 3, 4, 5] rfl) c_h1 (fun _ h2 c_h2 => ?_)
  refine fro_ck ?_
  refine fro_ck ?_
  refine fro_h (fr_wa 0 rfl) c_h2 (fun h3 c_h3 => ?_)
  exact fro_some c_h3
def wX4_perform : List FE := [(35, some 9, none), (2, some 0, some 3), (2, some 0, some 4), (2, some 0, some 12), (2, some 0, some 6), (2, some 0, some 10), (2, some 0, some 11), (2, some 0, some 2), (2, some 0, some 9), (2, some 0, some 5), (24, some 0, none), (34, some 9, none)]
set_option maxHeartbeats 4000000 in
theorem frX4_perform (l1 : Int32) (l2 : Int32) (h : Hp) : FrO wX4_perform h (fX4_perform l1 l2 h) := by
  have c_h : Fr wX4_perform h h := Fr.rf
  unfold fX4_perform
  refine fro_if ?_ ?_
  ·
    refine fro_bnd (frX4_passBeat (-1) h) (fun _ a => a.pick [0, 1, 2, 3, 4, 5] rfl) c_h (fun _ h1 c_h1 => ?_)
    exact fro_some c_h1
  ·
    refine fro_bnd (frX8_has 9 l2 h) (fun _ a => a.pick [] rfl) c_h (fun x3 h2 c_h2 => ?_)
    refine fro_if ?_ ?_
    ·
      exact fro_some c_h2
    ·
      refine fro_if ?_ ?_
      ·
        refine fro_bnd (frX4_runTo l2 h2) (fun _ a => a.pick [0, 1, 2, 3, 4, 5, 6, 7, 8, 9, 10] rfl) c_h2 (fun _ h5 c_h5 => ?_)
        exact fro_some c_h5
      refine fro_if ?_ ?_
      ·
        refine fro_bnd (frX4_setUp l2 h2) (fun _ a => a.pick [0, 1, 2, 3, 4, 5, 6, 7] rfl) c_h2 (fun _ h7 c_h7 => ?_)
        exact fro_some c_h7
      refine fro_if ?_ ?_
      ·
        refine fro_bnd (frX4_blowAt l2 h2) (fun _ a => a.pick [0, 2] rfl) c_h2 (fun _ h9 c_h9 => ?_)
        exact fro_some c_h9
      refine fro_ck ?_
      refine fro_ck ?_
      refine fro_h (fr_wa 11 rfl) c_h2 (fun h10 c_h10 => ?_)
      exact fro_some c_h10
def wX7_has (a0 : Nat) : List FE := []
set_option maxHeartbeats 4000000 in
theorem frX7_has (a0 : Nat) (l1 : Int32) (h : Hp) : FrO (wX7_has a0) h (fX7_has a0 l1 h) := by
  have c_h : Fr (wX7_has a0) h h := Fr.rf
  unfold fX7_has
  refine fro_jn (fun (k16_0 : Hp → Option (Int32 × Hp)) => ∀ (h2 : Hp), Fr (wX7_has a0) h h2 → FrO (wX7_has a0) h (k16_0 h2)) (fun h2 c_h2 => ?_) (fun k16_0 Hk16_0 => ?_)
  ·
    refine fro_ck ?_
    exact fro_some c_h2
  refine fro_if ?_ ?_
  ·
    exact Hk16_0 h c_h
  ·
    refine fro_if ?_ ?_
    ·
      exact Hk16_0 h c_h
    ·
      refine fro_ck ?_
      exact fro_some c_h
def wX4_play (a1 a2 : Nat) : List FE := [(6, some 9, some 0), (6, some 9, some 1), (6, some 9, some 2), (33, some 9, none), (34, some 9, none), (35, some 9, none), (2, some 0, some 2), (2, some 0, some 3), (2, some 0, some 4), (2, some 0, some 5), (2, some 0, some 6), (2, some 0, some 8), (2, some 0, some 9), (2, some 0, some 10), (2, some 0, some 11), (2, some 0, some 12), (24, some 0, none)]
set_option maxHeartbeats 4000000 in
theorem frX4_play_l8 (a1 : Nat) (a2 : Nat) (l3 : Int32) (K : Int32 → Hp → Option (Int32 × Hp)) (h0 : Hp) (hK : ∀ (y4 : Int32) (h : Hp), Fr (wX4_play a1 a2) h0 h → FrO (wX4_play a1 a2) h0 (K y4 h)) : ∀ (n : Nat) (l4 : Int32) (h : Hp), Fr (wX4_play a1 a2) h0 h → FrO (wX4_play a1 a2) h0 (itr1 (fX4_play_l8 a2 l3 K) n l4 h) := by
  refine fro_itr1 ?_
  intro rec hrec l4 h c_h
  unfold fX4_play_l8
  refine fro_if ?_ ?_
  ·
    exact hK l4 h c_h
  ·
    refine fro_bnd (frX7_has a2 l4 h) (fun _ a => a.pick [] rfl) c_h (fun x3 h2 c_h2 => ?_)
    refine fro_if ?_ ?_
    ·
      exact hK l4 h2 c_h2
    ·
      refine fro_ck ?_
      refine fro_ck ?_
      refine fro_bnd (frX4_may (ra h2 31 a2 l4) (ra h2 32 a2 l4) h2) (fun _ a => a.pick [] rfl) c_h2 (fun x5 h4 c_h4 => ?_)
      refine fro_if ?_ ?_
      ·
        exact fro_some c_h4
      ·
        refine fro_ck ?_
        refine fro_ck ?_
        refine fro_bnd (frX4_perform (ra h4 31 a2 l4) (ra h4 32 a2 l4) h4) (fun _ a => a.pick [5, 7, 8, 15, 10, 13, 14, 6, 12, 9, 16, 4] rfl) c_h4 (fun _ h6 c_h6 => ?_)
        refine fro_jn (fun (k86_6 : Hp → Option (Int32 × Hp)) => ∀ (h8 : Hp), Fr (wX4_play a1 a2) h0 h8 → FrO (wX4_play a1 a2) h0 (k86_6 h8)) (fun h8 c_h8 => ?_) (fun k86_6 Hk86_6 => ?_)
        ·
          refine fro_let (fun x9 => ?_)
          exact hrec x9 h8 c_h8
        refine fro_if ?_ ?_
        ·
          exact Hk86_6 h6 c_h6
        ·
          refine fro_if ?_ ?_
          ·
            refine fro_h (fr_wr 11 rfl) c_h6 (fun h10 c_h10 => ?_)
            exact Hk86_6 h10 c_h10
          ·
            exact Hk86_6 h6 c_h6
set_option maxHeartbeats 4000000 in
theorem frX4_play (a1 : Nat) (a2 : Nat) (l3 : Int32) (h : Hp) : FrO (wX4_play a1 a2) h (fX4_play a1 a2 l3 h) := by
  have c_h : Fr (wX4_play a1 a2) h h := Fr.rf
  unfold fX4_play
  refine fro_bnd (frX4_begin a1 h) (fun _ a => a.pick [0, 1, 2, 3, 4, 5, 6, 7, 8, 9, 10, 11, 12, 13, 14, 15, 16] rfl) c_h (fun _ h1 c_h1 => ?_)
  refine frX4_play_l8 a1 a2 l3 _ _ (fun y11 h12 c_h12 => ?_) FU 0 h1 c_h1
  exact fro_some c_h12
def wX9_showAt (a0 : Nat) : List FE := []
set_option maxHeartbeats 4000000 in
theorem frX9_showAt (a0 : Nat) (l1 : Int32) (h : Hp) : FrO (wX9_showAt a0) h (fX9_showAt a0 l1 h) := by
  have c_h : Fr (wX9_showAt a0) h h := Fr.rf
  unfold fX9_showAt
  refine fro_jn (fun (k32_0 : Hp → Option ((Option Nat) × Hp)) => ∀ (h2 : Hp), Fr (wX9_showAt a0) h h2 → FrO (wX9_showAt a0) h (k32_0 h2)) (fun h2 c_h2 => ?_) (fun k32_0 Hk32_0 => ?_)
  ·
    exact fro_some c_h2
  refine fro_if ?_ ?_
  ·
    exact Hk32_0 h c_h
  ·
    refine fro_ck ?_
    refine fro_if ?_ ?_
    ·
      exact Hk32_0 h c_h
    ·
      refine fro_if ?_ ?_
      ·
        exact Hk32_0 h c_h
      ·
        refine fro_ck ?_
        exact fro_some c_h
def wX9_stageAt (a0 : Nat) : List FE := []
set_option maxHeartbeats 4000000 in
theorem frX9_stageAt (a0 : Nat) (l1 : Int32) (h : Hp) : FrO (wX9_stageAt a0) h (fX9_stageAt a0 l1 h) := by
  have c_h : Fr (wX9_stageAt a0) h h := Fr.rf
  unfold fX9_stageAt
  refine fro_jn (fun (k32_0 : Hp → Option ((Option Nat) × Hp)) => ∀ (h2 : Hp), Fr (wX9_stageAt a0) h h2 → FrO (wX9_stageAt a0) h (k32_0 h2)) (fun h2 c_h2 => ?_) (fun k32_0 Hk32_0 => ?_)
  ·
    exact fro_some c_h2
  refine fro_if ?_ ?_
  ·
    exact Hk32_0 h c_h
  ·
    refine fro_ck ?_
    refine fro_if ?_ ?_
    ·
      exact Hk32_0 h c_h
    ·
      refine fro_if ?_ ?_
      ·
        exact Hk32_0 h c_h
      ·
        refine fro_ck ?_
        exact fro_some c_h
def wX11_after : List FE := [(6, some 9, some 0), (6, some 9, some 1), (6, some 9, some 2), (33, some 9, none), (34, some 9, none), (35, some 9, none), (2, some 0, some 2), (2, some 0, some 3), (2, some 0, some 4), (2, some 0, some 5), (2, some 0, some 6), (2, some 0, some 8), (2, some 0, some 9), (2, some 0, some 10), (2, some 0, some 11), (2, some 0, some 12), (24, some 0, none)]
set_option maxHeartbeats 4000000 in
theorem frX11_after (l1 : Int32) (l2 : Int32) (l3 : Int32) (h : Hp) : FrO wX11_after h (fX11_after l1 l2 l3 h) := by
  have c_h : Fr wX11_after h h := Fr.rf
  unfold fX11_after
  refine fro_bnd (frX9_stageAt 0 l1 h) (fun _ a => a.pick [] rfl) c_h (fun x2 h1 c_h1 => ?_)
  refine fro_bnd (frX9_showAt 0 l2 h1) (fun _ a => a.pick [] rfl) c_h1 (fun x4 h3 c_h3 => ?_)
  refine fro_nl ?_ (fun b5 => ?_)
  ·
    exact fro_some c_h3
  ·
    refine fro_nl ?_ (fun b6 => ?_)
    ·
      exact fro_some c_h3
    ·
      refine fro_bnd (frX4_play b5 b6 40 h3) (fun _ a => a.pick [0, 1, 2, 3, 4, 5, 6, 7, 8, 9, 10, 11, 12, 13, 14, 15, 16] rfl) c_h3 (fun x8 h7 c_h7 => ?_)
      refine fro_if ?_ ?_
      ·
        exact fro_some c_h7
      refine fro_if ?_ ?_
      ·
        exact fro_some c_h7
      refine fro_if ?_ ?_
      ·
        refine fro_bnd (frX4_mostSpun h7) (fun _ a => a.pick [] rfl) c_h7 (fun x13 h12 c_h12 => ?_)
        exact fro_some c_h12
      refine fro_if ?_ ?_
      ·
        exact fro_some c_h7
      refine fro_if ?_ ?_
      ·
        exact fro_some c_h7
      refine fro_if ?_ ?_
      ·
        exact fro_some c_h7
      exact fro_some c_h7
def wX3_copyFrom (a0 a1 : Nat) : List FE := [(1, some (a0 % cnt 1), some 0), (1, some (a0 % cnt 1), some 1), (21, some (a0 % cnt 21), none), (22, some (a0 % cnt 22), none), (23, some (a0 % cnt 23), none)]
set_option maxHeartbeats 4000000 in
theorem frX3_copyFrom (a0 : Nat) (a1 : Nat) (h : Hp) : FrO (wX3_copyFrom a0 a1) h (fX3_copyFrom a0 a1 h) := by
  have c_h : Fr (wX3_copyFrom a0 a1) h h := Fr.rf
  unfold fX3_copyFrom
  refine fro_h (fr_wr 0 rfl) c_h (fun h1 c_h1 => ?_)
  refine fro_h (fr_wr 1 rfl) c_h1 (fun h2 c_h2 => ?_)
  refine fro_ck ?_
  refine fro_h (fr_cpy 2 rfl) c_h2 (fun h3 c_h3 => ?_)
  refine fro_ck ?_
  refine fro_h (fr_cpy 3 rfl) c_h3 (fun h4 c_h4 => ?_)
  refine fro_ck ?_
  refine fro_h (fr_cpy 4 rfl) c_h4 (fun h5 c_h5 => ?_)
  exact fro_some c_h5
def wX7_copyFrom (a0 a1 : Nat) : List FE := [(5, some (a0 % cnt 5), some 0), (31, some (a0 % cnt 31), none), (32, some (a0 % cnt 32), none)]
set_option maxHeartbeats 4000000 in
theorem frX7_copyFrom (a0 : Nat) (a1 : Nat) (h : Hp) : FrO (wX7_copyFrom a0 a1) h (fX7_copyFrom a0 a1 h) := by
  have c_h : Fr (wX7_copyFrom a0 a1) h h := Fr.rf
  unfold fX7_copyFrom
  refine fro_h (fr_wr 0 rfl) c_h (fun h1 c_h1 => ?_)
  refine fro_ck ?_
  refine fro_h (fr_cpy 1 rfl) c_h1 (fun h2 c_h2 => ?_)
  refine fro_ck ?_
  refine fro_h (fr_cpy 2 rfl) c_h2 (fun h3 c_h3 => ?_)
  exact fro_some c_h3
def wX9_copyFrom (a0 a1 : Nat) : List FE := [(36, some (a0 % cnt 36), none), (7, some (a0 % cnt 7), some 1), (7, some (a0 % cnt 7), some 2), (7, some (a0 % cnt 7), some 3), (37, some (a0 % cnt 37), none), (6, none, none), (33, none, none), (34, none, none), (35, none, none), (5, none, none), (31, none, none), (32, none, none), (1, none, none), (21, none, none), (22, none, none), (23, none, none)]
set_option maxHeartbeats 4000000 in
theorem frX9_copyFrom_l56 (a0 : Nat) (a1 : Nat) (K : Hp → Option (Unit × Hp)) (h0 : Hp) (hK : ∀ (h : Hp), Fr (wX9_copyFrom a0 a1) h0 h → FrO (wX9_copyFrom a0 a1) h0 (K  h)) : ∀ (n : Nat) (l2 : Int32) (h : Hp), Fr (wX9_copyFrom a0 a1) h0 h → FrO (wX9_copyFrom a0 a1) h0 (itr1 (fX9_copyFrom_l56 a0 a1 K) n l2 h) := by
  refine fro_itr1 ?_
  intro rec hrec l2 h c_h
  unfold fX9_copyFrom_l56
  refine fro_if ?_ ?_
  ·
    exact hK h c_h
  ·
    refine fro_ck ?_
    refine fro_ck ?_
    refine fro_bnd (frX8_copyFrom (2 * (a0 % cnt 38) + 1 * l2.toNatClampNeg + 0) (2 * (a1 % cnt 38) + 1 * l2.toNatClampNeg + 0) h) (fun _ a => a.wide (List.forall_mem_cons.mpr ⟨⟨_, List.mem_of_getElem? (i := 5) rfl, rfl, Or.inl rfl, Or.inl rfl⟩, (List.forall_mem_cons.mpr ⟨⟨_, List.mem_of_getElem? (i := 5) rfl, rfl, Or.inl rfl, Or.inl rfl⟩, (List.forall_mem_cons.mpr ⟨⟨_, List.mem_of_getElem? (i := 5) rfl, rfl, Or.inl rfl, Or.inl rfl⟩, (List.forall_mem_cons.mpr ⟨⟨_, List.mem_of_getElem? (i := 6) rfl, rfl, Or.inl rfl, Or.inl rfl⟩, (List.forall_mem_cons.mpr ⟨⟨_, List.mem_of_getElem? (i := 7) rfl, rfl, Or.inl rfl, Or.inl rfl⟩, (List.forall_mem_cons.mpr ⟨⟨_, List.mem_of_getElem? (i := 8) rfl, rfl, Or.inl rfl, Or.inl rfl⟩, (fun _ h => absurd h List.not_mem_nil)⟩)⟩)⟩)⟩)⟩)⟩)) c_h (fun _ h6 c_h6 => ?_)
    refine fro_ck ?_
    refine fro_ck ?_
    refine fro_bnd (frX7_copyFrom (2 * (a0 % cnt 39) + 1 * l2.toNatClampNeg + 0) (2 * (a1 % cnt 39) + 1 * l2.toNatClampNeg + 0) h6) (fun _ a => a.wide (List.forall_mem_cons.mpr ⟨⟨_, List.mem_of_getElem? (i := 9) rfl, rfl, Or.inl rfl, Or.inl rfl⟩, (List.forall_mem_cons.mpr ⟨⟨_, List.mem_of_getElem? (i := 10) rfl, rfl, Or.inl rfl, Or.inl rfl⟩, (List.forall_mem_cons.mpr ⟨⟨_, List.mem_of_getElem? (i := 11) rfl, rfl, Or.inl rfl, Or.inl rfl⟩, (fun _ h => absurd h List.not_mem_nil)⟩)⟩)⟩)) c_h6 (fun _ h7 c_h7 => ?_)
    refine fro_ck ?_
    refine fro_ck ?_
    refine fro_bnd (frX3_copyFrom (2 * (a0 % cnt 40) + 1 * l2.toNatClampNeg + 0) (2 * (a1 % cnt 40) + 1 * l2.toNatClampNeg + 0) h7) (fun _ a => a.wide (List.forall_mem_cons.mpr ⟨⟨_, List.mem_of_getElem? (i := 12) rfl, rfl, Or.inl rfl, Or.inl rfl⟩, (List.forall_mem_cons.mpr ⟨⟨_, List.mem_of_getElem? (i := 12) rfl, rfl, Or.inl rfl, Or.inl rfl⟩, (List.forall_mem_cons.mpr ⟨⟨_, List.mem_of_getElem? (i := 13) rfl, rfl, Or.inl rfl, Or.inl rfl⟩, (List.forall_mem_cons.mpr ⟨⟨_, List.mem_of_getElem? (i := 14) rfl, rfl, Or.inl rfl, Or.inl rfl⟩, (List.forall_mem_cons.mpr ⟨⟨_, List.mem_of_getElem? (i := 15) rfl, rfl, Or.inl rfl, Or.inl rfl⟩, (fun _ h => absurd h List.not_mem_nil)⟩)⟩)⟩)⟩)⟩)) c_h7 (fun _ h8 c_h8 => ?_)
    refine fro_let (fun x9 => ?_)
    exact hrec x9 h8 c_h8
set_option maxHeartbeats 4000000 in
theorem frX9_copyFrom (a0 : Nat) (a1 : Nat) (h : Hp) : FrO (wX9_copyFrom a0 a1) h (fX9_copyFrom a0 a1 h) := by
  have c_h : Fr (wX9_copyFrom a0 a1) h h := Fr.rf
  unfold fX9_copyFrom
  refine fro_ck ?_
  refine fro_h (fr_cpy 0 rfl) c_h (fun h1 c_h1 => ?_)
  refine fro_h (fr_wr 1 rfl) c_h1 (fun h2 c_h2 => ?_)
  refine fro_h (fr_wr 2 rfl) c_h2 (fun h3 c_h3 => ?_)
  refine fro_h (fr_wr 3 rfl) c_h3 (fun h4 c_h4 => ?_)
  refine fro_ck ?_
  refine fro_h (fr_cpy 4 rfl) c_h4 (fun h5 c_h5 => ?_)
  refine frX9_copyFrom_l56 a0 a1 _ _ (fun h10 c_h10 => ?_) FU 0 h5 c_h5
  exact fro_some c_h10
def wX11_again : List FE := [(36, some 0, none), (7, some 0, some 1), (7, some 0, some 2), (7, some 0, some 3), (37, some 0, none), (6, none, none), (33, none, none), (34, none, none), (35, none, none), (5, none, none), (31, none, none), (32, none, none), (1, none, none), (21, none, none), (22, none, none), (23, none, none)]
set_option maxHeartbeats 4000000 in
theorem frX11_again (l1 : Int32) (h : Hp) : FrO wX11_again h (fX11_again l1 h) := by
  have c_h : Fr wX11_again h h := Fr.rf
  unfold fX11_again
  refine fro_if ?_ ?_
  ·
    refine fro_ck ?_
    exact fro_some c_h
  ·
    refine fro_if ?_ ?_
    ·
      refine fro_ck ?_
      exact fro_some c_h
    ·
      refine fro_if ?_ ?_
      ·
        refine fro_ck ?_
        exact fro_some c_h
      ·
        refine fro_ck ?_
        refine fro_if ?_ ?_
        ·
          refine fro_ck ?_
          exact fro_some c_h
        ·
          refine fro_ck ?_
          refine fro_bnd (frX9_copyFrom 0 (0 * (0 % cnt 41) + 1 * l1.toNatClampNeg + 1) h) (fun _ a => a.wide (List.forall_mem_cons.mpr ⟨⟨_, List.mem_of_getElem? (i := 0) rfl, rfl, Or.inr rfl, Or.inr rfl⟩, (List.forall_mem_cons.mpr ⟨⟨_, List.mem_of_getElem? (i := 1) rfl, rfl, Or.inr rfl, Or.inr rfl⟩, (List.forall_mem_cons.mpr ⟨⟨_, List.mem_of_getElem? (i := 2) rfl, rfl, Or.inr rfl, Or.inr rfl⟩, (List.forall_mem_cons.mpr ⟨⟨_, List.mem_of_getElem? (i := 3) rfl, rfl, Or.inr rfl, Or.inr rfl⟩, (List.forall_mem_cons.mpr ⟨⟨_, List.mem_of_getElem? (i := 4) rfl, rfl, Or.inr rfl, Or.inr rfl⟩, (List.forall_mem_cons.mpr ⟨⟨_, List.mem_of_getElem? (i := 5) rfl, rfl, Or.inl rfl, Or.inl rfl⟩, (List.forall_mem_cons.mpr ⟨⟨_, List.mem_of_getElem? (i := 6) rfl, rfl, Or.inl rfl, Or.inl rfl⟩, (List.forall_mem_cons.mpr ⟨⟨_, List.mem_of_getElem? (i := 7) rfl, rfl, Or.inl rfl, Or.inl rfl⟩, (List.forall_mem_cons.mpr ⟨⟨_, List.mem_of_getElem? (i := 8) rfl, rfl, Or.inl rfl, Or.inl rfl⟩, (List.forall_mem_cons.mpr ⟨⟨_, List.mem_of_getElem? (i := 9) rfl, rfl, Or.inl rfl, Or.inl rfl⟩, (List.forall_mem_cons.mpr ⟨⟨_, List.mem_of_getElem? (i := 10) rfl, rfl, Or.inl rfl, Or.inl rfl⟩, (List.forall_mem_cons.mpr ⟨⟨_, List.mem_of_getElem? (i := 11) rfl, rfl, Or.inl rfl, Or.inl rfl⟩, (List.forall_mem_cons.mpr ⟨⟨_, List.mem_of_getElem? (i := 12) rfl, rfl, Or.inl rfl, Or.inl rfl⟩, (List.forall_mem_cons.mpr ⟨⟨_, List.mem_of_getElem? (i := 13) rfl, rfl, Or.inl rfl, Or.inl rfl⟩, (List.forall_mem_cons.mpr ⟨⟨_, List.mem_of_getElem? (i := 14) rfl, rfl, Or.inl rfl, Or.inl rfl⟩, (List.forall_mem_cons.mpr ⟨⟨_, List.mem_of_getElem? (i := 15) rfl, rfl, Or.inl rfl, Or.inl rfl⟩, (fun _ h => absurd h List.not_mem_nil)⟩)⟩)⟩)⟩)⟩)⟩)⟩)⟩)⟩)⟩)⟩)⟩)⟩)⟩)⟩)⟩)) c_h (fun _ h1 c_h1 => ?_)
          refine fro_ck ?_
          exact fro_some c_h1
def wX2_behindFirst : List FE := []
set_option maxHeartbeats 4000000 in
theorem frX2_behindFirst (l1 : Int32) (h : Hp) : FrO wX2_behindFirst h (fX2_behindFirst l1 h) := by
  have c_h : Fr wX2_behindFirst h h := Fr.rf
  unfold fX2_behindFirst
  refine fro_bnd (frX2_followerOf 0 l1 h) (fun _ a => a.pick [] rfl) c_h (fun x2 h1 c_h1 => ?_)
  exact fro_some c_h1
def wX8_isLike (a0 a1 : Nat) : List FE := []
set_option maxHeartbeats 4000000 in
theorem frX8_isLike_l37 (a0 : Nat) (a1 : Nat) (K : Hp → Option (Int32 × Hp)) (h0 : Hp) (hK : ∀ (h : Hp), Fr (wX8_isLike a0 a1) h0 h → FrO (wX8_isLike a0 a1) h0 (K  h)) : ∀ (n : Nat) (l2 : Int32) (h : Hp), Fr (wX8_isLike a0 a1) h0 h → FrO (wX8_isLike a0 a1) h0 (itr1 (fX8_isLike_l37 a0 a1 K) n l2 h) := by
  refine fro_itr1 ?_
  intro rec hrec l2 h c_h
  unfold fX8_isLike_l37
  refine fro_if ?_ ?_
  ·
    exact hK h c_h
  ·
    refine fro_ck ?_
    refine fro_ck ?_
    refine fro_if ?_ ?_
    ·
      refine fro_ck ?_
      refine fro_ck ?_
      refine fro_if ?_ ?_
      ·
        refine fro_ck ?_
        refine fro_ck ?_
        refine fro_if ?_ ?_
        ·
          refine fro_let (fun x1 => ?_)
          exact hrec x1 h c_h
        ·
          refine fro_ck ?_
          exact fro_some c_h
      ·
        refine fro_ck ?_
        exact fro_some c_h
    ·
      refine fro_ck ?_
      exact fro_some c_h
set_option maxHeartbeats 4000000 in
theorem frX8_isLike (a0 : Nat) (a1 : Nat) (h : Hp) : FrO (wX8_isLike a0 a1) h (fX8_isLike a0 a1 h) := by
  have c_h : Fr (wX8_isLike a0 a1) h h := Fr.rf
  unfold fX8_isLike
  refine fro_if ?_ ?_
  ·
    refine fro_if ?_ ?_
    ·
      refine fro_if ?_ ?_
      ·
        refine frX8_isLike_l37 a0 a1 _ _ (fun h2 c_h2 => ?_) FU 0 h c_h
        refine fro_ck ?_
        exact fro_some c_h2
      ·
        refine fro_ck ?_
        exact fro_some c_h
    ·
      refine fro_ck ?_
      exact fro_some c_h
  ·
    refine fro_ck ?_
    exact fro_some c_h
def wX2_exploreAll (a1 : Nat) : List FE := [(11, some 0, none), (0, some 0, some 2), (6, some 10, some 0), (6, some 10, some 1), (6, some 10, some 2), (33, some 10, none), (34, some 10, none), (35, some 10, none), (0, some 0, some 1), (0, some 0, some 3), (12, some 0, none), (13, some 0, none), (14, some 0, none), (17, some 0, none), (15, some 0, none), (18, some 0, none), (16, some 0, none)]
set_option maxHeartbeats 4000000 in
theorem frX2_exploreAll (a1 : Nat) (h : Hp) : FrO (wX2_exploreAll a1) h (fX2_exploreAll a1 h) := by
  have c_h : Fr (wX2_exploreAll a1) h h := Fr.rf
  unfold fX2_exploreAll
  refine fro_jn (fun (k18_0 : Hp → Option (Unit × Hp)) => ∀ (h2 : Hp), Fr (wX2_exploreAll a1) h h2 → FrO (wX2_exploreAll a1) h (k18_0 h2)) (fun h2 c_h2 => ?_) (fun k18_0 Hk18_0 => ?_)
  ·
    refine fro_bnd (frX2_explore a1 1 h2) (fun _ a => a.pick [0, 1, 2, 3, 4, 5, 6, 7, 8, 9, 10, 11, 12, 13, 14, 15, 16] rfl) c_h2 (fun x4 h3 c_h3 => ?_)
    exact fro_some c_h3
  refine fro_if ?_ ?_
  ·
    exact Hk18_0 h c_h
  ·
    refine fro_bnd (frX8_isLike 10 a1 h) (fun _ a => a.pick [] rfl) c_h (fun x6 h5 c_h5 => ?_)
    refine fro_if ?_ ?_
    ·
      exact Hk18_0 h5 c_h5
    ·
      exact fro_some c_h5
def wX2_lastsFrom : List FE := []
set_option maxHeartbeats 4000000 in
theorem frX2_lastsFrom (l1 : Int32) (h : Hp) : FrO wX2_lastsFrom h (fX2_lastsFrom l1 h) := by
  have c_h : Fr wX2_lastsFrom h h := Fr.rf
  unfold fX2_lastsFrom
  refine fro_jn (fun (k22_0 : Hp → Option (Int32 × Hp)) => ∀ (h2 : Hp), Fr wX2_lastsFrom h h2 → FrO wX2_lastsFrom h (k22_0 h2)) (fun h2 c_h2 => ?_) (fun k22_0 Hk22_0 => ?_)
  ·
    exact fro_some c_h2
  refine fro_if ?_ ?_
  ·
    exact Hk22_0 h c_h
  ·
    refine fro_if ?_ ?_
    ·
      exact Hk22_0 h c_h
    ·
      refine fro_ck ?_
      refine fro_if ?_ ?_
      ·
        exact Hk22_0 h c_h
      ·
        refine fro_ck ?_
        exact fro_some c_h
def wX11_behind : List FE := [(11, some 0, none), (0, some 0, some 2), (6, some 10, some 0), (6, some 10, some 1), (6, some 10, some 2), (33, some 10, none), (34, some 10, none), (35, some 10, none), (0, some 0, some 1), (0, some 0, some 3), (12, some 0, none), (13, some 0, none), (14, some 0, none), (17, some 0, none), (15, some 0, none), (18, some 0, none), (16, some 0, none)]
set_option maxHeartbeats 4000000 in
theorem frX11_behind (l1 : Int32) (l2 : Int32) (l3 : Int32) (h : Hp) : FrO wX11_behind h (fX11_behind l1 l2 l3 h) := by
  have c_h : Fr wX11_behind h h := Fr.rf
  unfold fX11_behind
  refine fro_bnd (frX9_stageAt 0 l1 h) (fun _ a => a.pick [] rfl) c_h (fun x2 h1 c_h1 => ?_)
  refine fro_nl ?_ (fun b3 => ?_)
  ·
    exact fro_some c_h1
  ·
    refine fro_bnd (frX8_has b3 l2 h1) (fun _ a => a.pick [] rfl) c_h1 (fun x5 h4 c_h4 => ?_)
    refine fro_if ?_ ?_
    ·
      exact fro_some c_h4
    ·
      refine fro_if ?_ ?_
      ·
        exact fro_some c_h4
      ·
        refine fro_if ?_ ?_
        ·
          refine fro_bnd (frX2_exploreAll b3 h4) (fun _ a => a.pick [0, 1, 2, 3, 4, 5, 6, 7, 8, 9, 10, 11, 12, 13, 14, 15, 16] rfl) c_h4 (fun _ h6 c_h6 => ?_)
          refine fro_bnd (frX2_behindFirst l2 h6) (fun _ a => a.pick [] rfl) c_h6 (fun x8 h7 c_h7 => ?_)
          refine fro_if ?_ ?_
          ·
            refine fro_if ?_ ?_
            ·
              exact fro_some c_h7
            ·
              exact fro_some c_h7
          ·
            refine fro_if ?_ ?_
            ·
              exact fro_some c_h7
            ·
              refine fro_if ?_ ?_
              ·
                refine fro_bnd (frX2_isForever x8 h7) (fun _ a => a.pick [] rfl) c_h7 (fun x10 h9 c_h9 => ?_)
                refine fro_if ?_ ?_
                ·
                  exact fro_some c_h9
                ·
                  exact fro_some c_h9
              ·
                refine fro_bnd (frX2_lastsFrom x8 h7) (fun _ a => a.pick [] rfl) c_h7 (fun x12 h11 c_h11 => ?_)
                exact fro_some c_h11
        ·
          exact fro_some c_h4
def wX11_commonDivisor : List FE := []
set_option maxHeartbeats 4000000 in
theorem frX11_commonDivisor_l7 (K : Int32 → Hp → Option (Int32 × Hp)) (h0 : Hp) (hK : ∀ (y2 : Int32) (h : Hp), Fr wX11_commonDivisor h0 h → FrO wX11_commonDivisor h0 (K y2 h)) : ∀ (n : Nat) (l2 l3 l4 : Int32) (h : Hp), Fr wX11_commonDivisor h0 h → FrO wX11_commonDivisor h0 (itr3 (fX11_commonDivisor_l7 K) n l2 l3 l4 h) := by
  refine fro_itr3 ?_
  intro rec hrec l2 l3 l4 h c_h
  unfold fX11_commonDivisor_l7
  refine fro_if ?_ ?_
  ·
    exact hK l2 h c_h
  ·
    refine fro_if ?_ ?_
    ·
      exact hK l2 h c_h
    ·
      refine fro_ck ?_
      refine fro_let (fun x1 => ?_)
      refine fro_let (fun x2 => ?_)
      exact hrec l3 x1 x2 h c_h
set_option maxHeartbeats 4000000 in
theorem frX11_commonDivisor (l0 : Int32) (l1 : Int32) (h : Hp) : FrO wX11_commonDivisor h (fX11_commonDivisor l0 l1 h) := by
  have c_h : Fr wX11_commonDivisor h h := Fr.rf
  unfold fX11_commonDivisor
  refine frX11_commonDivisor_l7 _ _ (fun y3 h4 c_h4 => ?_) FU l0 l1 0 h c_h
  exact fro_some c_h4
def wX9_has (a0 : Nat) : List FE := []
set_option maxHeartbeats 4000000 in
theorem frX9_has (a0 : Nat) (l1 : Int32) (h : Hp) : FrO (wX9_has a0) h (fX9_has a0 l1 h) := by
  have c_h : Fr (wX9_has a0) h h := Fr.rf
  unfold fX9_has
  refine fro_jn (fun (k17_0 : Hp → Option (Int32 × Hp)) => ∀ (h2 : Hp), Fr (wX9_has a0) h h2 → FrO (wX9_has a0) h (k17_0 h2)) (fun h2 c_h2 => ?_) (fun k17_0 Hk17_0 => ?_)
  ·
    refine fro_ck ?_
    exact fro_some c_h2
  refine fro_if ?_ ?_
  ·
    exact Hk17_0 h c_h
  ·
    refine fro_if ?_ ?_
    ·
      exact Hk17_0 h c_h
    ·
      refine fro_ck ?_
      exact fro_some c_h
def wX11_count : List FE := []
set_option maxHeartbeats 4000000 in
theorem frX11_count (l1 : Int32) (h : Hp) : FrO wX11_count h (fX11_count l1 h) := by
  have c_h : Fr wX11_count h h := Fr.rf
  unfold fX11_count
  refine fro_bnd (frX9_has 0 l1 h) (fun _ a => a.pick [] rfl) c_h (fun x2 h1 c_h1 => ?_)
  refine fro_if ?_ ?_
  ·
    exact fro_some c_h1
  ·
    refine fro_ck ?_
    exact fro_some c_h1
def wX11_deed : List FE := []
set_option maxHeartbeats 4000000 in
theorem frX11_deed (l1 : Int32) (l2 : Int32) (l3 : Int32) (h : Hp) : FrO wX11_deed h (fX11_deed l1 l2 l3 h) := by
  have c_h : Fr wX11_deed h h := Fr.rf
  unfold fX11_deed
  refine fro_bnd (frX9_showAt 0 l1 h) (fun _ a => a.pick [] rfl) c_h (fun x2 h1 c_h1 => ?_)
  refine fro_nl ?_ (fun b3 => ?_)
  ·
    exact fro_some c_h1
  ·
    refine fro_if ?_ ?_
    ·
      refine fro_if ?_ ?_
      ·
        exact fro_some c_h1
      ·
        exact fro_some c_h1
    ·
      refine fro_bnd (frX7_has b3 l2 h1) (fun _ a => a.pick [] rfl) c_h1 (fun x5 h4 c_h4 => ?_)
      refine fro_if ?_ ?_
      ·
        exact fro_some c_h4
      ·
        refine fro_if ?_ ?_
        ·
          refine fro_ck ?_
          exact fro_some c_h4
        refine fro_if ?_ ?_
        ·
          refine fro_ck ?_
          exact fro_some c_h4
        exact fro_some c_h4
def wX4_draw : List FE := [(2, some 0, some 7)]
set_option maxHeartbeats 4000000 in
theorem frX4_draw (l1 : Int32) (h : Hp) : FrO wX4_draw h (fX4_draw l1 h) := by
  have c_h : Fr wX4_draw h h := Fr.rf
  unfold fX4_draw
  refine fro_h (fr_wr 0 rfl) c_h (fun h1 c_h1 => ?_)
  refine fro_let (fun x2 => ?_)
  refine fro_ck ?_
  exact fro_some c_h1
def wX4_kindDrawn : List FE := []
set_option maxHeartbeats 4000000 in
theorem frX4_kindDrawn (l0 : Int32) (h : Hp) : FrO wX4_kindDrawn h (fX4_kindDrawn l0 h) := by
  have c_h : Fr wX4_kindDrawn h h := Fr.rf
  unfold fX4_kindDrawn
  refine fro_if ?_ ?_
  ·
    exact fro_some c_h
  refine fro_if ?_ ?_
  ·
    exact fro_some c_h
  refine fro_if ?_ ?_
  ·
    exact fro_some c_h
  refine fro_if ?_ ?_
  ·
    exact fro_some c_h
  refine fro_if ?_ ?_
  ·
    exact fro_some c_h
  exact fro_some c_h
def wX4_playDrawn (a1 : Nat) : List FE := [(6, some 9, some 0), (6, some 9, some 1), (6, some 9, some 2), (33, some 9, none), (34, some 9, none), (35, some 9, none), (2, some 0, some 2), (2, some 0, some 3), (2, some 0, some 4), (2, some 0, some 5), (2, some 0, some 6), (2, some 0, some 8), (2, some 0, some 9), (2, some 0, some 10), (2, some 0, some 11), (2, some 0, some 12), (24, some 0, none), (2, some 0, some 7)]
set_option maxHeartbeats 4000000 in
theorem frX4_playDrawn_l13 (a1 : Nat) (l3 : Int32) (K : Hp → Option (Unit × Hp)) (h0 : Hp) (hK : ∀ (h : Hp), Fr (wX4_playDrawn a1) h0 h → FrO (wX4_playDrawn a1) h0 (K  h)) : ∀ (n : Nat) (l4 : Int32) (h : Hp), Fr (wX4_playDrawn a1) h0 h → FrO (wX4_playDrawn a1) h0 (itr1 (fX4_playDrawn_l13 l3 K) n l4 h) := by
  refine fro_itr1 ?_
  intro rec hrec l4 h c_h
  unfold fX4_playDrawn_l13
  refine fro_if ?_ ?_
  ·
    exact hK h c_h
  ·
    refine fro_bnd (frX4_draw 10 h) (fun _ a => a.pick [17] rfl) c_h (fun x4 h3 c_h3 => ?_)
    refine fro_bnd (frX4_kindDrawn x4 h3) (fun _ a => a.pick [] rfl) c_h3 (fun x6 h5 c_h5 => ?_)
    refine fro_jn (fun (k61_6 : Int32 → Hp → Option (Unit × Hp)) => ∀ (y6_6 : Int32) (h8 : Hp), Fr (wX4_playDrawn a1) h0 h8 → FrO (wX4_playDrawn a1) h0 (k61_6 y6_6 h8)) (fun y6_6 h8 c_h8 => ?_) (fun k61_6 Hk61_6 => ?_)
    ·
      refine fro_bnd (frX4_may x6 y6_6 h8) (fun _ a => a.pick [] rfl) c_h8 (fun x10 h9 c_h9 => ?_)
      refine fro_jn (fun (k80_10 : Hp → Option (Unit × Hp)) => ∀ (h12 : Hp), Fr (wX4_playDrawn a1) h0 h12 → FrO (wX4_playDrawn a1) h0 (k80_10 h12)) (fun h12 c_h12 => ?_) (fun k80_10 Hk80_10 => ?_)
      ·
        refine fro_let (fun x13 => ?_)
        exact hrec x13 h12 c_h12
      refine fro_if ?_ ?_
      ·
        exact Hk80_10 h9 c_h9
      ·
        refine fro_bnd (frX4_perform x6 y6_6 h9) (fun _ a => a.pick [5, 7, 8, 15, 10, 13, 14, 6, 12, 9, 16, 4] rfl) c_h9 (fun _ h14 c_h14 => ?_)
        exact Hk80_10 h14 c_h14
    refine fro_if ?_ ?_
    ·
      exact Hk61_6 (-1) h5 c_h5
    ·
      refine fro_if ?_ ?_
      ·
        exact Hk61_6 (-1) h5 c_h5
      ·
        refine fro_bnd (frX4_draw (rd h5 6 9 2) h5) (fun _ a => a.pick [17] rfl) c_h5 (fun x16 h15 c_h15 => ?_)
        exact Hk61_6 x16 h15 c_h15
set_option maxHeartbeats 4000000 in
theorem frX4_playDrawn (a1 : Nat) (l2 : Int32) (l3 : Int32) (h : Hp) : FrO (wX4_playDrawn a1) h (fX4_playDrawn a1 l2 l3 h) := by
  have c_h : Fr (wX4_playDrawn a1) h h := Fr.rf
  unfold fX4_playDrawn
  refine fro_bnd (frX4_begin a1 h) (fun _ a => a.pick [0, 1, 2, 3, 4, 5, 6, 7, 8, 9, 10, 11, 12, 13, 14, 15, 16] rfl) c_h (fun _ h1 c_h1 => ?_)
  refine fro_h (fr_wr 17 rfl) c_h1 (fun h2 c_h2 => ?_)
  refine frX4_playDrawn_l13 a1 l3 _ _ (fun h17 c_h17 => ?_) FU 0 h2 c_h2
  exact fro_some c_h17
def wX4_standingBits : List FE := []
set_option maxHeartbeats 4000000 in
theorem frX4_standingBits_l4 (K : Int32 → Hp → Option (Int32 × Hp)) (h0 : Hp) (hK : ∀ (y1 : Int32) (h : Hp), Fr wX4_standingBits h0 h → FrO wX4_standingBits h0 (K y1 h)) : ∀ (n : Nat) (l1 l2 : Int32) (h : Hp), Fr wX4_standingBits h0 h → FrO wX4_standingBits h0 (itr2 (fX4_standingBits_l4 K) n l1 l2 h) := by
  refine fro_itr2 ?_
  intro rec hrec l1 l2 h c_h
  unfold fX4_standingBits_l4
  refine fro_if ?_ ?_
  ·
    exact hK l1 h c_h
  ·
    refine fro_ck ?_
    refine fro_jn (fun (k33_0 : Int32 → Hp → Option (Int32 × Hp)) => ∀ (y1_0 : Int32) (h2 : Hp), Fr wX4_standingBits h0 h2 → FrO wX4_standingBits h0 (k33_0 y1_0 h2)) (fun y1_0 h2 c_h2 => ?_) (fun k33_0 Hk33_0 => ?_)
    ·
      refine fro_let (fun x3 => ?_)
      exact hrec y1_0 x3 h2 c_h2
    refine fro_if ?_ ?_
    ·
      exact Hk33_0 l1 h c_h
    ·
      refine fro_let (fun x4 => ?_)
      exact Hk33_0 x4 h c_h
set_option maxHeartbeats 4000000 in
theorem frX4_standingBits (h : Hp) : FrO wX4_standingBits h (fX4_standingBits h) := by
  have c_h : Fr wX4_standingBits h h := Fr.rf
  unfold fX4_standingBits
  refine frX4_standingBits_l4 _ _ (fun y5 h6 c_h6 => ?_) FU 0 0 h c_h
  exact fro_some c_h6
def wX4_view : List FE := []
set_option maxHeartbeats 4000000 in
theorem frX4_view (l1 : Int32) (h : Hp) : FrO wX4_view h (fX4_view l1 h) := by
  have c_h : Fr wX4_view h h := Fr.rf
  unfold fX4_view
  refine fro_if ?_ ?_
  ·
    exact fro_some c_h
  refine fro_if ?_ ?_
  ·
    exact fro_some c_h
  refine fro_if ?_ ?_
  ·
    refine fro_bnd (frX4_standingBits h) (fun _ a => a.pick [] rfl) c_h (fun x5 h4 c_h4 => ?_)
    exact fro_some c_h4
  refine fro_if ?_ ?_
  ·
    exact fro_some c_h
  refine fro_if ?_ ?_
  ·
    exact fro_some c_h
  refine fro_bnd (frX8_has 9 (l1 - (10 : Int32)) h) (fun _ a => a.pick [] rfl) c_h (fun x9 h8 c_h8 => ?_)
  refine fro_if ?_ ?_
  ·
    refine fro_bnd (frX8_has 9 (l1 - (20 : Int32)) h8) (fun _ a => a.pick [] rfl) c_h8 (fun x11 h10 c_h10 => ?_)
    refine fro_if ?_ ?_
    ·
      exact fro_some c_h10
    ·
      refine fro_ck ?_
      exact fro_some c_h10
  ·
    refine fro_ck ?_
    exact fro_some c_h8
def wX11_drawn : List FE := [(6, some 9, some 0), (6, some 9, some 1), (6, some 9, some 2), (33, some 9, none), (34, some 9, none), (35, some 9, none), (2, some 0, some 2), (2, some 0, some 3), (2, some 0, some 4), (2, some 0, some 5), (2, some 0, some 6), (2, some 0, some 8), (2, some 0, some 9), (2, some 0, some 10), (2, some 0, some 11), (2, some 0, some 12), (24, some 0, none), (2, some 0, some 7)]
set_option maxHeartbeats 4000000 in
theorem frX11_drawn (l1 : Int32) (l2 : Int32) (l3 : Int32) (l4 : Int32) (h : Hp) : FrO wX11_drawn h (fX11_drawn l1 l2 l3 l4 h) := by
  have c_h : Fr wX11_drawn h h := Fr.rf
  unfold fX11_drawn
  refine fro_bnd (frX9_stageAt 0 l1 h) (fun _ a => a.pick [] rfl) c_h (fun x2 h1 c_h1 => ?_)
  refine fro_nl ?_ (fun b3 => ?_)
  ·
    exact fro_some c_h1
  ·
    refine fro_if ?_ ?_
    ·
      exact fro_some c_h1
    ·
      refine fro_if ?_ ?_
      ·
        refine fro_bnd (frX4_playDrawn b3 l2 l3 h1) (fun _ a => a.pick [0, 1, 2, 3, 4, 5, 6, 7, 8, 9, 10, 11, 12, 13, 14, 15, 16, 17] rfl) c_h1 (fun _ h4 c_h4 => ?_)
        refine fro_bnd (frX4_view l4 h4) (fun _ a => a.pick [] rfl) c_h4 (fun x6 h5 c_h5 => ?_)
        exact fro_some c_h5
      ·
        exact fro_some c_h1
def wX1_choiceOf : List FE := []
set_option maxHeartbeats 4000000 in
theorem frX1_choiceOf (l0 : Int32) (h : Hp) : FrO wX1_choiceOf h (fX1_choiceOf l0 h) := by
  have c_h : Fr wX1_choiceOf h h := Fr.rf
  unfold fX1_choiceOf
  exact fro_some c_h
def wX1_rated : List FE := []
set_option maxHeartbeats 4000000 in
theorem frX1_rated (l0 : Int32) (l1 : Int32) (h : Hp) : FrO wX1_rated h (fX1_rated l0 l1 h) := by
  have c_h : Fr wX1_rated h h := Fr.rf
  unfold fX1_rated
  exact fro_some c_h
def wX1_valueOf : List FE := []
set_option maxHeartbeats 4000000 in
theorem frX1_valueOf (l0 : Int32) (h : Hp) : FrO wX1_valueOf h (fX1_valueOf l0 h) := by
  have c_h : Fr wX1_valueOf h h := Fr.rf
  unfold fX1_valueOf
  exact fro_some c_h
def wX1_worstOf (a0 : Nat) : List FE := []
set_option maxHeartbeats 4000000 in
theorem frX1_worstOf_l26 (self : Nat → Int32 → Int32 → Int32 → Hp → Option (Int32 × Hp)) (hself : ∀ (a0 : Nat) (l1 l2 l3 : Int32) (h : Hp), FrO [] h (self a0 l1 l2 l3 h)) (a0 : Nat) (l1 : Int32) (l2 : Int32) (l3 : Int32) (K : Int32 → Hp → Option (Int32 × Hp)) (h0 : Hp) (hK : ∀ (y4 : Int32) (h : Hp), Fr (wX1_worstOf a0) h0 h → FrO (wX1_worstOf a0) h0 (K y4 h)) : ∀ (n : Nat) (l4 l5 : Int32) (h : Hp), Fr (wX1_worstOf a0) h0 h → FrO (wX1_worstOf a0) h0 (itr2 (fX1_worstOf_l26 self a0 l1 l2 l3 K) n l4 l5 h) := by
  refine fro_itr2 ?_
  intro rec hrec l4 l5 h c_h
  unfold fX1_worstOf_l26
  refine fro_if ?_ ?_
  ·
    exact hK l4 h c_h
  ·
    refine fro_bnd (frX0_leftOf l2 l5 h) (fun _ a => a.pick [] rfl) c_h (fun x6 h5 c_h5 => ?_)
    refine fro_jn (fun (k80_6 : Int32 → Hp → Option (Int32 × Hp)) => ∀ (y4_6 : Int32) (h8 : Hp), Fr (wX1_worstOf a0) h0 h8 → FrO (wX1_worstOf a0) h0 (k80_6 y4_6 h8)) (fun y4_6 h8 c_h8 => ?_) (fun k80_6 Hk80_6 => ?_)
    ·
      refine fro_let (fun x9 => ?_)
      exact hrec y4_6 x9 h8 c_h8
    refine fro_if ?_ ?_
    ·
      exact Hk80_6 l4 h5 c_h5
    ·
      refine fro_bnd (frX0_with l2 l5 (x6 - (1 : Int32)) h5) (fun _ a => a.pick [] rfl) c_h5 (fun x11 h10 c_h10 => ?_)
      refine fro_bnd (hself a0 l1 x11 (l3 - (1 : Int32)) h10) (fun _ a => a.pick [] rfl) c_h10 (fun x13 h12 c_h12 => ?_)
      refine fro_bnd (frX1_valueOf x13 h12) (fun _ a => a.pick [] rfl) c_h12 (fun x15 h14 c_h14 => ?_)
      refine fro_let (fun x16 => ?_)
      exact Hk80_6 x16 h14 c_h14
set_option maxHeartbeats 4000000 in
theorem frX1_worstOf (self : Nat → Int32 → Int32 → Int32 → Hp → Option (Int32 × Hp)) (hself : ∀ (a0 : Nat) (l1 l2 l3 : Int32) (h : Hp), FrO [] h (self a0 l1 l2 l3 h)) (a0 : Nat) (l1 : Int32) (l2 : Int32) (l3 : Int32) (h : Hp) : FrO (wX1_worstOf a0) h (fX1_worstOf self a0 l1 l2 l3 h) := by
  have c_h : Fr (wX1_worstOf a0) h h := Fr.rf
  unfold fX1_worstOf
  refine fro_if ?_ ?_
  ·
    refine fro_bnd (hself a0 l1 l2 (l3 - (1 : Int32)) h) (fun _ a => a.pick [] rfl) c_h (fun x2 h1 c_h1 => ?_)
    refine fro_bnd (frX1_valueOf x2 h1) (fun _ a => a.pick [] rfl) c_h1 (fun x4 h3 c_h3 => ?_)
    refine frX1_worstOf_l26 self hself a0 l1 l2 l3 _ _ (fun y17 h18 c_h18 => ?_) FU x4 0 h3 c_h3
    exact fro_some c_h18
  ·
    refine fro_bnd (frX0_standing l2 h) (fun _ a => a.pick [] rfl) c_h (fun x20 h19 c_h19 => ?_)
    exact fro_some c_h19
def wX1_bestAgainst (a0 : Nat) : List FE := []
set_option maxHeartbeats 4000000 in
theorem frX1_bestAgainst_l35 (self : Nat → Int32 → Int32 → Int32 → Hp → Option (Int32 × Hp)) (hself : ∀ (a0 : Nat) (l1 l2 l3 : Int32) (h : Hp), FrO [] h (self a0 l1 l2 l3 h)) (a0 : Nat) (l1 : Int32) (l2 : Int32) (l3 : Int32) (K : Int32 → Hp → Option (Int32 × Hp)) (h0 : Hp) (hK : ∀ (y4 : Int32) (h : Hp), Fr (wX1_bestAgainst a0) h0 h → FrO (wX1_bestAgainst a0) h0 (K y4 h)) : ∀ (n : Nat) (l4 l5 : Int32) (h : Hp), Fr (wX1_bestAgainst a0) h0 h → FrO (wX1_bestAgainst a0) h0 (itr2 (fX1_bestAgainst_l35 self a0 l1 l2 l3 K) n l4 l5 h) := by
  refine fro_itr2 ?_
  intro rec hrec l4 l5 h c_h
  unfold fX1_bestAgainst_l35
  refine fro_if ?_ ?_
  ·
    exact hK l4 h c_h
  ·
    refine fro_bnd (frX0_leftOf l2 l5 h) (fun _ a => a.pick [] rfl) c_h (fun x8 h7 c_h7 => ?_)
    refine fro_jn (fun (k95_8 : Int32 → Hp → Option (Int32 × Hp)) => ∀ (y4_8 : Int32) (h10 : Hp), Fr (wX1_bestAgainst a0) h0 h10 → FrO (wX1_bestAgainst a0) h0 (k95_8 y4_8 h10)) (fun y4_8 h10 c_h10 => ?_) (fun k95_8 Hk95_8 => ?_)
    ·
      refine fro_let (fun x11 => ?_)
      exact hrec y4_8 x11 h10 c_h10
    refine fro_if ?_ ?_
    ·
      exact Hk95_8 l4 h7 c_h7
    ·
      refine fro_bnd (frX0_behindRun a0 l1 l2 l5 h7) (fun _ a => a.pick [] rfl) c_h7 (fun x13 h12 c_h12 => ?_)
      refine fro_ck ?_
      refine fro_bnd (hself a0 (ra h12 33 a0 l5) x13 (l3 - (1 : Int32)) h12) (fun _ a => a.pick [] rfl) c_h12 (fun x15 h14 c_h14 => ?_)
      refine fro_bnd (frX1_rated x15 l5 h14) (fun _ a => a.pick [] rfl) c_h14 (fun x17 h16 c_h16 => ?_)
      refine fro_let (fun x18 => ?_)
      exact Hk95_8 x18 h16 c_h16
set_option maxHeartbeats 4000000 in
theorem frX1_bestAgainst (self : Nat → Int32 → Int32 → Int32 → Hp → Option (Int32 × Hp)) (hself : ∀ (a0 : Nat) (l1 l2 l3 : Int32) (h : Hp), FrO [] h (self a0 l1 l2 l3 h)) (a0 : Nat) (l1 : Int32) (l2 : Int32) (l3 : Int32) (h : Hp) : FrO (wX1_bestAgainst a0) h (fX1_bestAgainst self a0 l1 l2 l3 h) := by
  have c_h : Fr (wX1_bestAgainst a0) h h := Fr.rf
  unfold fX1_bestAgainst
  refine fro_if ?_ ?_
  ·
    refine fro_bnd (frX0_passed l2 1 h) (fun _ a => a.pick [] rfl) c_h (fun x2 h1 c_h1 => ?_)
    refine fro_bnd (hself a0 l1 x2 (l3 - (1 : Int32)) h1) (fun _ a => a.pick [] rfl) c_h1 (fun x4 h3 c_h3 => ?_)
    refine fro_bnd (frX1_rated x4 5 h3) (fun _ a => a.pick [] rfl) c_h3 (fun x6 h5 c_h5 => ?_)
    refine frX1_bestAgainst_l35 self hself a0 l1 l2 l3 _ _ (fun y19 h20 c_h20 => ?_) FU x6 0 h5 c_h5
    exact fro_some c_h20
  ·
    refine fro_bnd (frX0_standing l2 h) (fun _ a => a.pick [] rfl) c_h (fun x22 h21 c_h21 => ?_)
    refine fro_bnd (frX1_rated x22 5 h21) (fun _ a => a.pick [] rfl) c_h21 (fun x24 h23 c_h23 => ?_)
    exact fro_some c_h23
theorem frxX1_bestAgainst : ∀ (n : Nat) (a0 : Nat) (l1 l2 l3 : Int32) (h : Hp), FrO [] h (fxX1_bestAgainst n a0 l1 l2 l3 h) := by
  intro n
  induction n with
  | zero => intro a0 l1 l2 l3 h; exact fro_none
  | succ n ih => exact fun a0 l1 l2 l3 h => frX1_bestAgainst _ (fun a0 l1 l2 l3 h => frX1_worstOf _ ih a0 l1 l2 l3 h) a0 l1 l2 l3 h
def wX1_duelling (a0 : Nat) : List FE := []
set_option maxHeartbeats 4000000 in
theorem frX1_duelling (a0 : Nat) (l1 : Int32) (h : Hp) : FrO (wX1_duelling a0) h (fX1_duelling a0 l1 h) := by
  have c_h : Fr (wX1_duelling a0) h h := Fr.rf
  unfold fX1_duelling
  refine fro_bnd (frX8_packed a0 h) (fun _ a => a.pick [] rfl) c_h (fun x2 h1 c_h1 => ?_)
  refine fro_let (fun x3 => ?_)
  refine fro_bnd (frxX1_bestAgainst 4 a0 (rd h 6 a0 1) x2 x3 h1) (fun _ a => a.pick [] rfl) c_h1 (fun x5 h4 c_h4 => ?_)
  exact fro_some c_h4
def wX11_duel : List FE := []
set_option maxHeartbeats 4000000 in
theorem frX11_duel (l1 : Int32) (l2 : Int32) (l3 : Int32) (h : Hp) : FrO wX11_duel h (fX11_duel l1 l2 l3 h) := by
  have c_h : Fr wX11_duel h h := Fr.rf
  unfold fX11_duel
  refine fro_bnd (frX9_stageAt 0 l1 h) (fun _ a => a.pick [] rfl) c_h (fun x2 h1 c_h1 => ?_)
  refine fro_nl ?_ (fun b3 => ?_)
  ·
    exact fro_some c_h1
  ·
    refine fro_if ?_ ?_
    ·
      exact fro_some c_h1
    ·
      refine fro_if ?_ ?_
      ·
        refine fro_jn (fun (k37_3 : Hp → Option (Int32 × Hp)) => ∀ (h5 : Hp), Fr wX11_duel h h5 → FrO wX11_duel h (k37_3 h5)) (fun h5 c_h5 => ?_) (fun k37_3 Hk37_3 => ?_)
        ·
          refine fro_bnd (frX1_duelling b3 l2 h5) (fun _ a => a.pick [] rfl) c_h5 (fun x7 h6 c_h6 => ?_)
          refine fro_if ?_ ?_
          ·
            refine fro_bnd (frX1_valueOf x7 h6) (fun _ a => a.pick [] rfl) c_h6 (fun x9 h8 c_h8 => ?_)
            exact fro_some c_h8
          ·
            refine fro_bnd (frX1_choiceOf x7 h6) (fun _ a => a.pick [] rfl) c_h6 (fun x11 h10 c_h10 => ?_)
            exact fro_some c_h10
        refine fro_if ?_ ?_
        ·
          exact Hk37_3 h1 c_h1
        ·
          refine fro_if ?_ ?_
          ·
            exact fro_some c_h1
          ·
            exact Hk37_3 h1 c_h1
      ·
        exact fro_some c_h1
def wX11_end : List FE := [(7, some 0, some 1)]
set_option maxHeartbeats 4000000 in
theorem frX11_end (l1 : Int32) (h : Hp) : FrO wX11_end h (fX11_end l1 h) := by
  have c_h : Fr wX11_end h h := Fr.rf
  unfold fX11_end
  refine fro_if ?_ ?_
  ·
    exact fro_some c_h
  ·
    refine fro_if ?_ ?_
    ·
      refine fro_h (fr_wr 0 rfl) c_h (fun h1 c_h1 => ?_)
      exact fro_some c_h1
    ·
      exact fro_some c_h
def wX11_fault : List FE := []
set_option maxHeartbeats 4000000 in
theorem frX11_fault (l1 : Int32) (h : Hp) : FrO wX11_fault h (fX11_fault l1 h) := by
  have c_h : Fr wX11_fault h h := Fr.rf
  unfold fX11_fault
  refine fro_if ?_ ?_
  ·
    exact fro_some c_h
  refine fro_if ?_ ?_
  ·
    exact fro_some c_h
  exact fro_some c_h
def wX9_addBytes (a0 : Nat) : List FE := [(36, some (a0 % cnt 36), none), (7, some (a0 % cnt 7), some 1)]
set_option maxHeartbeats 4000000 in
theorem frX9_addBytes_l3 (a0 : Nat) (l1 : Int32) (K : Hp → Option (Unit × Hp)) (h0 : Hp) (hK : ∀ (h : Hp), Fr (wX9_addBytes a0) h0 h → FrO (wX9_addBytes a0) h0 (K  h)) : ∀ (n : Nat) (l2 : Int32) (h : Hp), Fr (wX9_addBytes a0) h0 h → FrO (wX9_addBytes a0) h0 (itr1 (fX9_addBytes_l3 a0 l1 K) n l2 h) := by
  refine fro_itr1 ?_
  intro rec hrec l2 h c_h
  unfold fX9_addBytes_l3
  refine fro_if ?_ ?_
  ·
    exact hK h c_h
  ·
    refine fro_if ?_ ?_
    ·
      exact hK h c_h
    ·
      refine fro_ck ?_
      refine fro_h (fr_wa 0 rfl) c_h (fun h1 c_h1 => ?_)
      refine fro_h (fr_wr 1 rfl) c_h1 (fun h2 c_h2 => ?_)
      refine fro_let (fun x3 => ?_)
      exact hrec x3 h2 c_h2
set_option maxHeartbeats 4000000 in
theorem frX9_addBytes (a0 : Nat) (l1 : Int32) (h : Hp) : FrO (wX9_addBytes a0) h (fX9_addBytes a0 l1 h) := by
  have c_h : Fr (wX9_addBytes a0) h h := Fr.rf
  unfold fX9_addBytes
  refine frX9_addBytes_l3 a0 l1 _ _ (fun h4 c_h4 => ?_) FU 24 h c_h
  exact fro_some c_h4
def wX11_feed : List FE := [(36, some 0, none), (7, some 0, some 1)]
set_option maxHeartbeats 4000000 in
theorem frX11_feed (l1 : Int32) (l2 : Int32) (l3 : Int32) (l4 : Int32) (l5 : Int32) (h : Hp) : FrO wX11_feed h (fX11_feed l1 l2 l3 l4 l5 h) := by
  have c_h : Fr wX11_feed h h := Fr.rf
  unfold fX11_feed
  refine fro_if ?_ ?_
  ·
    refine fro_bnd (frX9_addBytes 0 l1 h) (fun _ a => a.pick [0, 1] rfl) c_h (fun _ h1 c_h1 => ?_)
    refine fro_bnd (frX9_addBytes 0 l2 h1) (fun _ a => a.pick [0, 1] rfl) c_h1 (fun _ h2 c_h2 => ?_)
    refine fro_bnd (frX9_addBytes 0 l3 h2) (fun _ a => a.pick [0, 1] rfl) c_h2 (fun _ h3 c_h3 => ?_)
    refine fro_bnd (frX9_addBytes 0 l4 h3) (fun _ a => a.pick [0, 1] rfl) c_h3 (fun _ h4 c_h4 => ?_)
    refine fro_bnd (frX9_addBytes 0 l5 h4) (fun _ a => a.pick [0, 1] rfl) c_h4 (fun _ h5 c_h5 => ?_)
    exact fro_some c_h5
  ·
    exact fro_some c_h
def wX6_bestQuestion : List FE := []
set_option maxHeartbeats 4000000 in
theorem frX6_bestQuestion_l29 (l1 : Int32) (l4 : Int32) (K : Int32 → Int32 → Hp → Option (Int32 × Hp)) (h0 : Hp) (hK : ∀ (y2 y3 : Int32) (h : Hp), Fr wX6_bestQuestion h0 h → FrO wX6_bestQuestion h0 (K y2 y3 h)) : ∀ (n : Nat) (l2 l3 l5 : Int32) (h : Hp), Fr wX6_bestQuestion h0 h → FrO wX6_bestQuestion h0 (itr3 (fX6_bestQuestion_l29 l1 l4 K) n l2 l3 l5 h) := by
  refine fro_itr3 ?_
  intro rec hrec l2 l3 l5 h c_h
  unfold fX6_bestQuestion_l29
  refine fro_if ?_ ?_
  ·
    exact hK l2 l3 h c_h
  ·
    refine fro_ck ?_
    refine fro_let (fun x2 => ?_)
    refine fro_let (fun x3 => ?_)
    refine fro_jn (fun (k81_3 : Int32 → Int32 → Hp → Option (Int32 × Hp)) => ∀ (y2_3 : Int32) (y3_3 : Int32) (h5 : Hp), Fr wX6_bestQuestion h0 h5 → FrO wX6_bestQuestion h0 (k81_3 y2_3 y3_3 h5)) (fun y2_3 y3_3 h5 c_h5 => ?_) (fun k81_3 Hk81_3 => ?_)
    ·
      refine fro_let (fun x6 => ?_)
      exact hrec y2_3 y3_3 x6 h5 c_h5
    refine fro_if ?_ ?_
    ·
      exact Hk81_3 l2 l3 h c_h
    ·
      refine fro_let (fun x7 => ?_)
      exact Hk81_3 x7 x3 h c_h
set_option maxHeartbeats 4000000 in
theorem frX6_bestQuestion_l12 (l1 : Int32) (K : Int32 → Hp → Option (Int32 × Hp)) (h0 : Hp) (hK : ∀ (y2 : Int32) (h : Hp), Fr wX6_bestQuestion h0 h → FrO wX6_bestQuestion h0 (K y2 h)) : ∀ (n : Nat) (l2 l3 l4 : Int32) (h : Hp), Fr wX6_bestQuestion h0 h → FrO wX6_bestQuestion h0 (itr3 (fX6_bestQuestion_l12 l1 K) n l2 l3 l4 h) := by
  refine fro_itr3 ?_
  intro rec hrec l2 l3 l4 h c_h
  unfold fX6_bestQuestion_l12
  refine fro_if ?_ ?_
  ·
    exact hK l2 h c_h
  ·
    refine fro_if ?_ ?_
    ·
      exact hK l2 h c_h
    ·
      refine frX6_bestQuestion_l29 l1 l4 _ _ (fun y8 y9 h10 c_h10 => ?_) FU l2 l3 0 h c_h
      refine fro_let (fun x11 => ?_)
      exact hrec y8 y9 x11 h10 c_h10
set_option maxHeartbeats 4000000 in
theorem frX6_bestQuestion (l1 : Int32) (h : Hp) : FrO wX6_bestQuestion h (fX6_bestQuestion l1 h) := by
  have c_h : Fr wX6_bestQuestion h h := Fr.rf
  unfold fX6_bestQuestion
  refine fro_let (fun x1 => ?_)
  refine frX6_bestQuestion_l12 l1 _ _ (fun y12 h13 c_h13 => ?_) FU (-1) x1 0 h c_h
  exact fro_some c_h13
def wX6_sureRun : List FE := []
set_option maxHeartbeats 4000000 in
theorem frX6_sureRun (l1 : Int32) (h : Hp) : FrO wX6_sureRun h (fX6_sureRun l1 h) := by
  have c_h : Fr wX6_sureRun h h := Fr.rf
  unfold fX6_sureRun
  refine fro_jn (fun (k37_0 : Hp → Option (Int32 × Hp)) => ∀ (h2 : Hp), Fr wX6_sureRun h h2 → FrO wX6_sureRun h (k37_0 h2)) (fun h2 c_h2 => ?_) (fun k37_0 Hk37_0 => ?_)
  ·
    exact fro_some c_h2
  refine fro_if ?_ ?_
  ·
    exact Hk37_0 h c_h
  ·
    refine fro_if ?_ ?_
    ·
      exact Hk37_0 h c_h
    ·
      refine fro_if ?_ ?_
      ·
        exact Hk37_0 h c_h
      ·
        refine fro_if ?_ ?_
        ·
          exact Hk37_0 h c_h
        ·
          refine fro_ck ?_
          exact fro_some c_h
def wX11_power : List FE := []
set_option maxHeartbeats 4000000 in
theorem frX11_power_l4 (l0 : Int32) (l1 : Int32) (K : Int32 → Hp → Option (Int32 × Hp)) (h0 : Hp) (hK : ∀ (y2 : Int32) (h : Hp), Fr wX11_power h0 h → FrO wX11_power h0 (K y2 h)) : ∀ (n : Nat) (l2 l3 : Int32) (h : Hp), Fr wX11_power h0 h → FrO wX11_power h0 (itr2 (fX11_power_l4 l0 l1 K) n l2 l3 h) := by
  refine fro_itr2 ?_
  intro rec hrec l2 l3 h c_h
  unfold fX11_power_l4
  refine fro_if ?_ ?_
  ·
    exact hK l2 h c_h
  ·
    refine fro_let (fun x1 => ?_)
    refine fro_let (fun x2 => ?_)
    exact hrec x1 x2 h c_h
set_option maxHeartbeats 4000000 in
theorem frX11_power (l0 : Int32) (l1 : Int32) (h : Hp) : FrO wX11_power h (fX11_power l0 l1 h) := by
  have c_h : Fr wX11_power h h := Fr.rf
  unfold fX11_power
  refine frX11_power_l4 l0 l1 _ _ (fun y3 h4 c_h4 => ?_) FU 1 0 h c_h
  exact fro_some c_h4
def wX6_clear : List FE := [(4, some 0, some 0), (4, some 0, some 1), (4, some 0, some 2), (4, some 0, some 3), (4, some 0, some 4), (30, some 0, none)]
set_option maxHeartbeats 4000000 in
theorem frX6_clear_l28 (K : Hp → Option (Unit × Hp)) (h0 : Hp) (hK : ∀ (h : Hp), Fr wX6_clear h0 h → FrO wX6_clear h0 (K  h)) : ∀ (n : Nat) (l1 : Int32) (h : Hp), Fr wX6_clear h0 h → FrO wX6_clear h0 (itr1 (fX6_clear_l28 K) n l1 h) := by
  refine fro_itr1 ?_
  intro rec hrec l1 h c_h
  unfold fX6_clear_l28
  refine fro_if ?_ ?_
  ·
    exact hK h c_h
  ·
    refine fro_ck ?_
    refine fro_h (fr_wa 5 rfl) c_h (fun h6 c_h6 => ?_)
    refine fro_let (fun x7 => ?_)
    exact hrec x7 h6 c_h6
set_option maxHeartbeats 4000000 in
theorem frX6_clear (h : Hp) : FrO wX6_clear h (fX6_clear h) := by
  have c_h : Fr wX6_clear h h := Fr.rf
  unfold fX6_clear
  refine fro_h (fr_wr 0 rfl) c_h (fun h1 c_h1 => ?_)
  refine fro_h (fr_wr 1 rfl) c_h1 (fun h2 c_h2 => ?_)
  refine fro_h (fr_wr 2 rfl) c_h2 (fun h3 c_h3 => ?_)
  refine fro_h (fr_wr 3 rfl) c_h3 (fun h4 c_h4 => ?_)
  refine fro_h (fr_wr 4 rfl) c_h4 (fun h5 c_h5 => ?_)
  refine frX6_clear_l28 _ _ (fun h8 c_h8 => ?_) FU 0 h5 c_h5
  exact fro_some c_h8
def wX6_isTrue (a1 a2 : Nat) : List FE := []
set_option maxHeartbeats 4000000 in
theorem frX6_isTrue_l2 (a1 : Nat) (a2 : Nat) (K : Hp → Option (Int32 × Hp)) (h0 : Hp) (hK : ∀ (h : Hp), Fr (wX6_isTrue a1 a2) h0 h → FrO (wX6_isTrue a1 a2) h0 (K  h)) : ∀ (n : Nat) (l3 : Int32) (h : Hp), Fr (wX6_isTrue a1 a2) h0 h → FrO (wX6_isTrue a1 a2) h0 (itr1 (fX6_isTrue_l2 a1 a2 K) n l3 h) := by
  refine fro_itr1 ?_
  intro rec hrec l3 h c_h
  unfold fX6_isTrue_l2
  refine fro_if ?_ ?_
  ·
    exact hK h c_h
  ·
    refine fro_ck ?_
    refine fro_let (fun x1 => ?_)
    refine fro_bnd (frX8_has a1 x1 h) (fun _ a => a.pick [] rfl) c_h (fun x3 h2 c_h2 => ?_)
    refine fro_if ?_ ?_
    ·
      refine fro_ck ?_
      exact fro_some c_h2
    ·
      refine fro_ck ?_
      refine fro_ck ?_
      refine fro_jn (fun (k50_3 : Int32 → Hp → Option (Int32 × Hp)) => ∀ (z0_3 : Int32) (h5 : Hp), Fr (wX6_isTrue a1 a2) h0 h5 → FrO (wX6_isTrue a1 a2) h0 (k50_3 z0_3 h5)) (fun z0_3 h5 c_h5 => ?_) (fun k50_3 Hk50_3 => ?_)
      ·
        refine fro_ck ?_
        refine fro_jn (fun (k69_5 : Int32 → Hp → Option (Int32 × Hp)) => ∀ (z0_5 : Int32) (h7 : Hp), Fr (wX6_isTrue a1 a2) h0 h7 → FrO (wX6_isTrue a1 a2) h0 (k69_5 z0_5 h7)) (fun z0_5 h7 c_h7 => ?_) (fun k69_5 Hk69_5 => ?_)
        ·
          refine fro_if ?_ ?_
          ·
            refine fro_let (fun x8 => ?_)
            exact hrec x8 h7 c_h7
          ·
            refine fro_ck ?_
            exact fro_some c_h7
        refine fro_if ?_ ?_
        ·
          exact Hk69_5 1 h5 c_h5
        ·
          exact Hk69_5 0 h5 c_h5
      refine fro_if ?_ ?_
      ·
        exact Hk50_3 0 h2 c_h2
      ·
        exact Hk50_3 1 h2 c_h2
set_option maxHeartbeats 4000000 in
theorem frX6_isTrue (a1 : Nat) (a2 : Nat) (h : Hp) : FrO (wX6_isTrue a1 a2) h (fX6_isTrue a1 a2 h) := by
  have c_h : Fr (wX6_isTrue a1 a2) h h := Fr.rf
  unfold fX6_isTrue
  refine frX6_isTrue_l2 a1 a2 _ _ (fun h9 c_h9 => ?_) FU 0 h c_h
  refine fro_ck ?_
  exact fro_some c_h9
def wX6_makeRuns (a1 : Nat) : List FE := [(29, some 0, none), (4, some 0, some 10)]
set_option maxHeartbeats 4000000 in
theorem frX6_makeRuns_l2 (a1 : Nat) (K : Hp → Option (Int32 × Hp)) (h0 : Hp) (hK : ∀ (h : Hp), Fr (wX6_makeRuns a1) h0 h → FrO (wX6_makeRuns a1) h0 (K  h)) : ∀ (n : Nat) (l2 : Int32) (h : Hp), Fr (wX6_makeRuns a1) h0 h → FrO (wX6_makeRuns a1) h0 (itr1 (fX6_makeRuns_l2 a1 K) n l2 h) := by
  refine fro_itr1 ?_
  intro rec hrec l2 h c_h
  unfold fX6_makeRuns_l2
  refine fro_if ?_ ?_
  ·
    exact hK h c_h
  ·
    refine fro_ck ?_
    refine fro_ck ?_
    refine fro_h (fr_wa 0 rfl) c_h (fun h1 c_h1 => ?_)
    refine fro_let (fun x2 => ?_)
    exact hrec x2 h1 c_h1
set_option maxHeartbeats 4000000 in
theorem frX6_makeRuns_l40 (a1 : Nat) (K : Hp → Option (Int32 × Hp)) (h0 : Hp) (hK : ∀ (h : Hp), Fr (wX6_makeRuns a1) h0 h → FrO (wX6_makeRuns a1) h0 (K  h)) : ∀ (n : Nat) (l2 l3 : Int32) (h : Hp), Fr (wX6_makeRuns a1) h0 h → FrO (wX6_makeRuns a1) h0 (itr2 (fX6_makeRuns_l40 a1 K) n l2 l3 h) := by
  refine fro_itr2 ?_
  intro rec hrec l2 l3 h c_h
  unfold fX6_makeRuns_l40
  refine fro_if ?_ ?_
  ·
    exact hK h c_h
  ·
    refine fro_ck ?_
    refine fro_let (fun x6 => ?_)
    refine fro_bnd (frX8_has a1 x6 h) (fun _ a => a.pick [] rfl) c_h (fun x8 h7 c_h7 => ?_)
    refine fro_if ?_ ?_
    ·
      refine fro_ck ?_
      exact fro_some c_h7
    ·
      refine fro_ck ?_
      refine fro_if ?_ ?_
      ·
        refine fro_ck ?_
        refine fro_bnd (frX8_way a1 l2 (ra h7 33 a1 x6) h7) (fun _ a => a.pick [] rfl) c_h7 (fun x10 h9 c_h9 => ?_)
        refine fro_ck ?_
        refine fro_jn (fun (k136_10 : Hp → Option (Int32 × Hp)) => ∀ (h12 : Hp), Fr (wX6_makeRuns a1) h0 h12 → FrO (wX6_makeRuns a1) h0 (k136_10 h12)) (fun h12 c_h12 => ?_) (fun k136_10 Hk136_10 => ?_)
        ·
          refine fro_h (fr_wr 1 rfl) c_h12 (fun h13 c_h13 => ?_)
          refine fro_ck ?_
          refine fro_let (fun x14 => ?_)
          refine fro_let (fun x15 => ?_)
          exact hrec x14 x15 h13 c_h13
        refine fro_if ?_ ?_
        ·
          exact Hk136_10 h9 c_h9
        ·
          refine fro_ck ?_
          refine fro_ck ?_
          refine fro_h (fr_wa 0 rfl) c_h9 (fun h16 c_h16 => ?_)
          exact Hk136_10 h16 c_h16
      ·
        refine fro_ck ?_
        exact fro_some c_h7
set_option maxHeartbeats 4000000 in
theorem frX6_makeRuns (a1 : Nat) (h : Hp) : FrO (wX6_makeRuns a1) h (fX6_makeRuns a1 h) := by
  have c_h : Fr (wX6_makeRuns a1) h h := Fr.rf
  unfold fX6_makeRuns
  refine frX6_makeRuns_l2 a1 _ _ (fun h3 c_h3 => ?_) FU 0 h c_h
  refine fro_h (fr_wr 1 rfl) c_h3 (fun h4 c_h4 => ?_)
  refine fro_let (fun x5 => ?_)
  refine frX6_makeRuns_l40 a1 _ _ (fun h17 c_h17 => ?_) FU x5 0 h4 c_h4
  refine fro_ck ?_
  exact fro_some c_h17
def wX6_numberOfRow : List FE := []
set_option maxHeartbeats 4000000 in
theorem frX6_numberOfRow_l4 (K : Int32 → Hp → Option (Int32 × Hp)) (h0 : Hp) (hK : ∀ (y1 : Int32) (h : Hp), Fr wX6_numberOfRow h0 h → FrO wX6_numberOfRow h0 (K y1 h)) : ∀ (n : Nat) (l1 l2 : Int32) (h : Hp), Fr wX6_numberOfRow h0 h → FrO wX6_numberOfRow h0 (itr2 (fX6_numberOfRow_l4 K) n l1 l2 h) := by
  refine fro_itr2 ?_
  intro rec hrec l1 l2 h c_h
  unfold fX6_numberOfRow_l4
  refine fro_if ?_ ?_
  ·
    exact hK l1 h c_h
  ·
    refine fro_ck ?_
    refine fro_let (fun x1 => ?_)
    refine fro_let (fun x2 => ?_)
    exact hrec x1 x2 h c_h
set_option maxHeartbeats 4000000 in
theorem frX6_numberOfRow (h : Hp) : FrO wX6_numberOfRow h (fX6_numberOfRow h) := by
  have c_h : Fr wX6_numberOfRow h h := Fr.rf
  unfold fX6_numberOfRow
  refine frX6_numberOfRow_l4 _ _ (fun y3 h4 c_h4 => ?_) FU 1 0 h c_h
  exact fro_some c_h4
def wX6_spell : List FE := [(27, some 0, none)]
set_option maxHeartbeats 4000000 in
theorem frX6_spell_l17 (l4 : Int32) (K : Hp → Option (Unit × Hp)) (h0 : Hp) (hK : ∀ (h : Hp), Fr wX6_spell h0 h → FrO wX6_spell h0 (K  h)) : ∀ (n : Nat) (l3 l5 : Int32) (h : Hp), Fr wX6_spell h0 h → FrO wX6_spell h0 (itr2 (fX6_spell_l17 l4 K) n l3 l5 h) := by
  refine fro_itr2 ?_
  intro rec hrec l3 l5 h c_h
  unfold fX6_spell_l17
  refine fro_if ?_ ?_
  ·
    exact hK h c_h
  ·
    refine fro_ck ?_
    refine fro_ck ?_
    refine fro_h (fr_wa 0 rfl) c_h (fun h3 c_h3 => ?_)
    refine fro_ck ?_
    refine fro_let (fun x4 => ?_)
    refine fro_let (fun x5 => ?_)
    exact hrec x4 x5 h3 c_h3
set_option maxHeartbeats 4000000 in
theorem frX6_spell (l1 : Int32) (l2 : Int32) (h : Hp) : FrO wX6_spell h (fX6_spell l1 l2 h) := by
  have c_h : Fr wX6_spell h h := Fr.rf
  unfold fX6_spell
  refine fro_let (fun x1 => ?_)
  refine fro_let (fun x2 => ?_)
  refine frX6_spell_l17 x1 _ _ (fun h6 c_h6 => ?_) FU l1 x2 h c_h
  exact fro_some c_h6
def wX6_takeIn (a1 : Nat) : List FE := [(30, some 0, none), (28, some 0, none), (4, some 0, some 2), (4, some 0, some 3), (4, some 0, some 4), (4, some 0, some 0)]
set_option maxHeartbeats 4000000 in
theorem frX6_takeIn_l31 (a1 : Nat) (l3 : Int32) (K : Hp → Option (Unit × Hp)) (h0 : Hp) (hK : ∀ (h : Hp), Fr (wX6_takeIn a1) h0 h → FrO (wX6_takeIn a1) h0 (K  h)) : ∀ (n : Nat) (l4 : Int32) (h : Hp), Fr (wX6_takeIn a1) h0 h → FrO (wX6_takeIn a1) h0 (itr1 (fX6_takeIn_l31 l3 K) n l4 h) := by
  refine fro_itr1 ?_
  intro rec hrec l4 h c_h
  unfold fX6_takeIn_l31
  refine fro_if ?_ ?_
  ·
    exact hK h c_h
  ·
    refine fro_ck ?_
    refine fro_if ?_ ?_
    ·
      exact hK h c_h
    ·
      refine fro_ck ?_
      refine fro_ck ?_
      refine fro_h (fr_wa 0 rfl) c_h (fun h3 c_h3 => ?_)
      refine fro_let (fun x4 => ?_)
      exact hrec x4 h3 c_h3
set_option maxHeartbeats 4000000 in
theorem frX6_takeIn_l4 (a1 : Nat) (K : Int32 → Hp → Option (Unit × Hp)) (h0 : Hp) (hK : ∀ (y2 : Int32) (h : Hp), Fr (wX6_takeIn a1) h0 h → FrO (wX6_takeIn a1) h0 (K y2 h)) : ∀ (n : Nat) (l2 l3 : Int32) (h : Hp), Fr (wX6_takeIn a1) h0 h → FrO (wX6_takeIn a1) h0 (itr2 (fX6_takeIn_l4 a1 K) n l2 l3 h) := by
  refine fro_itr2 ?_
  intro rec hrec l2 l3 h c_h
  unfold fX6_takeIn_l4
  refine fro_if ?_ ?_
  ·
    exact hK l2 h c_h
  ·
    refine fro_ck ?_
    refine fro_jn (fun (k28_0 : Int32 → Hp → Option (Unit × Hp)) => ∀ (y2_0 : Int32) (h2 : Hp), Fr (wX6_takeIn a1) h0 h2 → FrO (wX6_takeIn a1) h0 (k28_0 y2_0 h2)) (fun y2_0 h2 c_h2 => ?_) (fun k28_0 Hk28_0 => ?_)
    ·
      refine frX6_takeIn_l31 a1 l3 _ _ (fun h5 c_h5 => ?_) FU 0 h2 c_h2
      refine fro_let (fun x6 => ?_)
      exact hrec y2_0 x6 h5 c_h5
    refine fro_if ?_ ?_
    ·
      exact Hk28_0 l2 h c_h
    ·
      refine fro_let (fun x7 => ?_)
      exact Hk28_0 x7 h c_h
set_option maxHeartbeats 4000000 in
theorem frX6_takeIn_l78 (a1 : Nat) (K : Hp → Option (Unit × Hp)) (h0 : Hp) (hK : ∀ (h : Hp), Fr (wX6_takeIn a1) h0 h → FrO (wX6_takeIn a1) h0 (K  h)) : ∀ (n : Nat) (l3 : Int32) (h : Hp), Fr (wX6_takeIn a1) h0 h → FrO (wX6_takeIn a1) h0 (itr1 (fX6_takeIn_l78 K) n l3 h) := by
  refine fro_itr1 ?_
  intro rec hrec l3 h c_h
  unfold fX6_takeIn_l78
  refine fro_if ?_ ?_
  ·
    exact hK h c_h
  ·
    refine fro_jn (fun (k123_9 : Int32 → Hp → Option (Unit × Hp)) => ∀ (z0_9 : Int32) (h11 : Hp), Fr (wX6_takeIn a1) h0 h11 → FrO (wX6_takeIn a1) h0 (k123_9 z0_9 h11)) (fun z0_9 h11 c_h11 => ?_) (fun k123_9 Hk123_9 => ?_)
    ·
      refine fro_ck ?_
      refine fro_h (fr_wa 1 rfl) c_h11 (fun h12 c_h12 => ?_)
      refine fro_let (fun x13 => ?_)
      exact hrec x13 h12 c_h12
    refine fro_jn (fun (k113_13 : Hp → Option (Unit × Hp)) => ∀ (h15 : Hp), Fr (wX6_takeIn a1) h0 h15 → FrO (wX6_takeIn a1) h0 (k113_13 h15)) (fun h15 c_h15 => ?_) (fun k113_13 Hk113_13 => ?_)
    ·
      refine fro_ck ?_
      exact Hk123_9 (ra h15 27 0 l3) h15 c_h15
    refine fro_if ?_ ?_
    ·
      exact Hk113_13 h c_h
    ·
      refine fro_ck ?_
      refine fro_ck ?_
      refine fro_if ?_ ?_
      ·
        exact Hk113_13 h c_h
      ·
        exact Hk123_9 (-1) h c_h
set_option maxHeartbeats 4000000 in
theorem frX6_takeIn (a1 : Nat) (h : Hp) : FrO (wX6_takeIn a1) h (fX6_takeIn a1 h) := by
  have c_h : Fr (wX6_takeIn a1) h h := Fr.rf
  unfold fX6_takeIn
  refine frX6_takeIn_l4 a1 _ _ (fun y8 h9 c_h9 => ?_) FU 0 0 h c_h
  refine frX6_takeIn_l78 a1 _ _ (fun h16 c_h16 => ?_) FU 0 h9 c_h9
  refine fro_jn (fun (k156_16 : Int32 → Hp → Option (Unit × Hp)) => ∀ (z0_16 : Int32) (h18 : Hp), Fr (wX6_takeIn a1) h h18 → FrO (wX6_takeIn a1) h (k156_16 z0_16 h18)) (fun z0_16 h18 c_h18 => ?_) (fun k156_16 Hk156_16 => ?_)
  ·
    refine fro_h (fr_wr 2 rfl) c_h18 (fun h19 c_h19 => ?_)
    refine fro_let (fun x20 => ?_)
    refine fro_h (fr_wr 3 rfl) c_h19 (fun h21 c_h21 => ?_)
    refine fro_let (fun x22 => ?_)
    refine fro_h (fr_wr 4 rfl) c_h21 (fun h23 c_h23 => ?_)
    refine fro_h (fr_wr 5 rfl) c_h23 (fun h24 c_h24 => ?_)
    exact fro_some c_h24
  refine fro_if ?_ ?_
  ·
    exact Hk156_16 (rd h16 4 0 10) h16 c_h16
  ·
    refine fro_let (fun x25 => ?_)
    exact Hk156_16 x25 h16 c_h16
def wX6_tally (a1 a2 : Nat) : List FE := [(4, some 0, some 0), (4, some 0, some 1), (4, some 0, some 2), (4, some 0, some 3), (4, some 0, some 4), (30, some 0, none), (4, some 0, some 9), (27, some 0, none), (29, some 0, none), (4, some 0, some 10), (28, some 0, none)]
set_option maxHeartbeats 4000000 in
theorem frX6_tally_l32 (a1 : Nat) (a2 : Nat) (l3 : Int32) (l4 : Int32) (K : Hp → Option (Unit × Hp)) (h0 : Hp) (hK : ∀ (h : Hp), Fr (wX6_tally a1 a2) h0 h → FrO (wX6_tally a1 a2) h0 (K  h)) : ∀ (n : Nat) (l5 : Int32) (h : Hp), Fr (wX6_tally a1 a2) h0 h → FrO (wX6_tally a1 a2) h0 (itr1 (fX6_tally_l32 a1 a2 l3 l4 K) n l5 h) := by
  refine fro_itr1 ?_
  intro rec hrec l5 h c_h
  unfold fX6_tally_l32
  refine fro_if ?_ ?_
  ·
    exact hK h c_h
  ·
    refine fro_bnd (frX6_spell l5 (rd h 6 a1 2) h) (fun _ a => a.pick [7] rfl) c_h (fun _ h6 c_h6 => ?_)
    refine fro_bnd (frX6_makeRuns a1 h6) (fun _ a => a.pick [8, 9] rfl) c_h6 (fun x8 h7 c_h7 => ?_)
    refine fro_jn (fun (k87_8 : Hp → Option (Unit × Hp)) => ∀ (h10 : Hp), Fr (wX6_tally a1 a2) h0 h10 → FrO (wX6_tally a1 a2) h0 (k87_8 h10)) (fun h10 c_h10 => ?_) (fun k87_8 Hk87_8 => ?_)
    ·
      refine fro_let (fun x11 => ?_)
      exact hrec x11 h10 c_h10
    refine fro_if ?_ ?_
    ·
      exact Hk87_8 h7 c_h7
    ·
      refine fro_bnd (frX6_isTrue a1 a2 h7) (fun _ a => a.pick [] rfl) c_h7 (fun x13 h12 c_h12 => ?_)
      refine fro_if ?_ ?_
      ·
        exact Hk87_8 h12 c_h12
      ·
        refine fro_jn (fun (k82_13 : Hp → Option (Unit × Hp)) => ∀ (h15 : Hp), Fr (wX6_tally a1 a2) h0 h15 → FrO (wX6_tally a1 a2) h0 (k82_13 h15)) (fun h15 c_h15 => ?_) (fun k82_13 Hk82_13 => ?_)
        ·
          refine fro_bnd (frX6_takeIn a1 h15) (fun _ a => a.pick [5, 10, 2, 3, 4, 0] rfl) c_h15 (fun _ h16 c_h16 => ?_)
          exact Hk87_8 h16 c_h16
        refine fro_if ?_ ?_
        ·
          refine fro_bnd (frX6_numberOfRow h12) (fun _ a => a.pick [] rfl) c_h12 (fun x18 h17 c_h17 => ?_)
          refine fro_h (fr_wr 1 rfl) c_h17 (fun h19 c_h19 => ?_)
          exact Hk82_13 h19 c_h19
        ·
          exact Hk82_13 h12 c_h12
set_option maxHeartbeats 4000000 in
theorem frX6_tally (a1 : Nat) (a2 : Nat) (l3 : Int32) (h : Hp) : FrO (wX6_tally a1 a2) h (fX6_tally a1 a2 l3 h) := by
  have c_h : Fr (wX6_tally a1 a2) h h := Fr.rf
  unfold fX6_tally
  refine fro_bnd (frX6_clear h) (fun _ a => a.pick [0, 1, 2, 3, 4, 5] rfl) c_h (fun _ h1 c_h1 => ?_)
  refine fro_let (fun x2 => ?_)
  refine fro_h (fr_wr 6 rfl) c_h1 (fun h3 c_h3 => ?_)
  refine fro_bnd (frX11_power (rd h3 6 a1 2) (rd h3 4 0 9) h3) (fun _ a => a.pick [] rfl) c_h3 (fun x5 h4 c_h4 => ?_)
  refine frX6_tally_l32 a1 a2 l3 x5 _ _ (fun h20 c_h20 => ?_) FU 0 h4 c_h4
  exact fro_some c_h20
def wX9_logAt (a0 : Nat) : List FE := []
set_option maxHeartbeats 4000000 in
theorem frX9_logAt (a0 : Nat) (l1 : Int32) (h : Hp) : FrO (wX9_logAt a0) h (fX9_logAt a0 l1 h) := by
  have c_h : Fr (wX9_logAt a0) h h := Fr.rf
  unfold fX9_logAt
  refine fro_jn (fun (k32_0 : Hp → Option ((Option Nat) × Hp)) => ∀ (h2 : Hp), Fr (wX9_logAt a0) h h2 → FrO (wX9_logAt a0) h (k32_0 h2)) (fun h2 c_h2 => ?_) (fun k32_0 Hk32_0 => ?_)
  ·
    exact fro_some c_h2
  refine fro_if ?_ ?_
  ·
    exact Hk32_0 h c_h
  ·
    refine fro_ck ?_
    refine fro_if ?_ ?_
    ·
      exact Hk32_0 h c_h
    ·
      refine fro_if ?_ ?_
      ·
        exact Hk32_0 h c_h
      ·
        refine fro_ck ?_
        exact fro_some c_h
def wX11_fits : List FE := [(4, some 0, some 0), (4, some 0, some 1), (4, some 0, some 2), (4, some 0, some 3), (4, some 0, some 4), (30, some 0, none), (4, some 0, some 9), (27, some 0, none), (29, some 0, none), (4, some 0, some 10), (28, some 0, none)]
set_option maxHeartbeats 4000000 in
theorem frX11_fits (l1 : Int32) (l2 : Int32) (l3 : Int32) (h : Hp) : FrO wX11_fits h (fX11_fits l1 l2 l3 h) := by
  have c_h : Fr wX11_fits h h := Fr.rf
  unfold fX11_fits
  refine fro_bnd (frX9_stageAt 0 l1 h) (fun _ a => a.pick [] rfl) c_h (fun x2 h1 c_h1 => ?_)
  refine fro_bnd (frX9_logAt 0 l2 h1) (fun _ a => a.pick [] rfl) c_h1 (fun x4 h3 c_h3 => ?_)
  refine fro_nl ?_ (fun b5 => ?_)
  ·
    exact fro_some c_h3
  ·
    refine fro_nl ?_ (fun b6 => ?_)
    ·
      exact fro_some c_h3
    ·
      refine fro_if ?_ ?_
      ·
        refine fro_jn (fun (k51_6 : Hp → Option (Int32 × Hp)) => ∀ (h8 : Hp), Fr wX11_fits h h8 → FrO wX11_fits h (k51_6 h8)) (fun h8 c_h8 => ?_) (fun k51_6 Hk51_6 => ?_)
        ·
          refine fro_bnd (frX6_tally b5 b6 (l3 - (10 : Int32)) h8) (fun _ a => a.pick [0, 1, 2, 3, 4, 5, 6, 7, 8, 9, 10] rfl) c_h8 (fun _ h9 c_h9 => ?_)
          refine fro_if ?_ ?_
          ·
            exact fro_some c_h9
          ·
            refine fro_if ?_ ?_
            ·
              refine fro_bnd (frX6_bestQuestion (rd h9 6 b5 2) h9) (fun _ a => a.pick [] rfl) c_h9 (fun x11 h10 c_h10 => ?_)
              exact fro_some c_h10
            ·
              refine fro_if ?_ ?_
              ·
                exact fro_some c_h9
              ·
                refine fro_bnd (frX6_sureRun (l3 - (2 : Int32)) h9) (fun _ a => a.pick [] rfl) c_h9 (fun x13 h12 c_h12 => ?_)
                exact fro_some c_h12
        refine fro_if ?_ ?_
        ·
          exact Hk51_6 h3 c_h3
        ·
          refine fro_if ?_ ?_
          ·
            exact Hk51_6 h3 c_h3
          ·
            exact fro_some c_h3
      ·
        exact fro_some c_h3
def wX11_image : List FE := [(36, none, none), (7, none, none), (37, none, none), (6, none, none), (33, none, none), (34, none, none), (35, none, none), (5, none, none), (31, none, none), (32, none, none), (1, none, none), (21, none, none), (22, none, none), (23, none, none), (42, some 0, none)]
set_option maxHeartbeats 4000000 in
theorem frX11_image (l1 : Int32) (h : Hp) : FrO wX11_image h (fX11_image l1 h) := by
  have c_h : Fr wX11_image h h := Fr.rf
  unfold fX11_image
  refine fro_if ?_ ?_
  ·
    refine fro_ck ?_
    exact fro_some c_h
  ·
    refine fro_if ?_ ?_
    ·
      refine fro_ck ?_
      exact fro_some c_h
    ·
      refine fro_if ?_ ?_
      ·
        refine fro_ck ?_
        refine fro_bnd (frX9_copyFrom (0 * (0 % cnt 41) + 1 * l1.toNatClampNeg + 1) 0 h) (fun _ a => a.wide (List.forall_mem_cons.mpr ⟨⟨_, List.mem_of_getElem? (i := 0) rfl, rfl, Or.inl rfl, Or.inl rfl⟩, (List.forall_mem_cons.mpr ⟨⟨_, List.mem_of_getElem? (i := 1) rfl, rfl, Or.inl rfl, Or.inl rfl⟩, (List.forall_mem_cons.mpr ⟨⟨_, List.mem_of_getElem? (i := 1) rfl, rfl, Or.inl rfl, Or.inl rfl⟩, (List.forall_mem_cons.mpr ⟨⟨_, List.mem_of_getElem? (i := 1) rfl, rfl, Or.inl rfl, Or.inl rfl⟩, (List.forall_mem_cons.mpr ⟨⟨_, List.mem_of_getElem? (i := 2) rfl, rfl, Or.inl rfl, Or.inl rfl⟩, (List.forall_mem_cons.mpr ⟨⟨_, List.mem_of_getElem? (i := 3) rfl, rfl, Or.inl rfl, Or.inl rfl⟩, (List.forall_mem_cons.mpr ⟨⟨_, List.mem_of_getElem? (i := 4) rfl, rfl, Or.inl rfl, Or.inl rfl⟩, (List.forall_mem_cons.mpr ⟨⟨_, List.mem_of_getElem? (i := 5) rfl, rfl, Or.inl rfl, Or.inl rfl⟩, (List.forall_mem_cons.mpr ⟨⟨_, List.mem_of_getElem? (i := 6) rfl, rfl, Or.inl rfl, Or.inl rfl⟩, (List.forall_mem_cons.mpr ⟨⟨_, List.mem_of_getElem? (i := 7) rfl, rfl, Or.inl rfl, Or.inl rfl⟩, (List.forall_mem_cons.mpr ⟨⟨_, List.mem_of_getElem? (i := 8) rfl, rfl, Or.inl rfl, Or.inl rfl⟩, (List.forall_mem_cons.mpr ⟨⟨_, List.mem_of_getElem? (i := 9) rfl, rfl, Or.inl rfl, Or.inl rfl⟩, (List.forall_mem_cons.mpr ⟨⟨_, List.mem_of_getElem? (i := 10) rfl, rfl, Or.inl rfl, Or.inl rfl⟩, (List.forall_mem_cons.mpr ⟨⟨_, List.mem_of_getElem? (i := 11) rfl, rfl, Or.inl rfl, Or.inl rfl⟩, (List.forall_mem_cons.mpr ⟨⟨_, List.mem_of_getElem? (i := 12) rfl, rfl, Or.inl rfl, Or.inl rfl⟩, (List.forall_mem_cons.mpr ⟨⟨_, List.mem_of_getElem? (i := 13) rfl, rfl, Or.inl rfl, Or.inl rfl⟩, (fun _ h => absurd h List.not_mem_nil)⟩)⟩)⟩)⟩)⟩)⟩)⟩)⟩)⟩)⟩)⟩)⟩)⟩)⟩)⟩)⟩)) c_h (fun _ h1 c_h1 => ?_)
        refine fro_ck ?_
        refine fro_h (fr_wa 14 rfl) c_h1 (fun h2 c_h2 => ?_)
        refine fro_ck ?_
        exact fro_some c_h2
      ·
        refine fro_ck ?_
        exact fro_some c_h
def wX2_nextRun : List FE := []
set_option maxHeartbeats 4000000 in
theorem frX2_nextRun_l46 (l1 : Int32) (l2 : Int32) (K : Int32 → Hp → Option (Int32 × Hp)) (h0 : Hp) (hK : ∀ (y3 : Int32) (h : Hp), Fr wX2_nextRun h0 h → FrO wX2_nextRun h0 (K y3 h)) : ∀ (n : Nat) (l3 : Int32) (h : Hp), Fr wX2_nextRun h0 h → FrO wX2_nextRun h0 (itr1 (fX2_nextRun_l46 l1 l2 K) n l3 h) := by
  refine fro_itr1 ?_
  intro rec hrec l3 h c_h
  unfold fX2_nextRun_l46
  refine fro_if ?_ ?_
  ·
    exact fro_some c_h
  ·
    refine fro_bnd (frX2_followerOf l1 l3 h) (fun _ a => a.pick [] rfl) c_h (fun x6 h5 c_h5 => ?_)
    refine fro_jn (fun (k117_6 : Hp → Option (Int32 × Hp)) => ∀ (h8 : Hp), Fr wX2_nextRun h0 h8 → FrO wX2_nextRun h0 (k117_6 h8)) (fun h8 c_h8 => ?_) (fun k117_6 Hk117_6 => ?_)
    ·
      refine fro_let (fun x9 => ?_)
      exact hrec x9 h8 c_h8
    refine fro_if ?_ ?_
    ·
      exact Hk117_6 h5 c_h5
    ·
      refine fro_if ?_ ?_
      ·
        refine fro_bnd (frX2_beatsTo l1 l3 h5) (fun _ a => a.pick [] rfl) c_h5 (fun x11 h10 c_h10 => ?_)
        refine fro_ck ?_
        refine fro_ck ?_
        refine fro_if ?_ ?_
        ·
          exact fro_some c_h10
        ·
          exact Hk117_6 h10 c_h10
      ·
        refine fro_ck ?_
        refine fro_if ?_ ?_
        ·
          exact hK l3 h5 c_h5
        ·
          exact Hk117_6 h5 c_h5
set_option maxHeartbeats 4000000 in
theorem frX2_nextRun (l1 : Int32) (h : Hp) : FrO wX2_nextRun h (fX2_nextRun l1 h) := by
  have c_h : Fr wX2_nextRun h h := Fr.rf
  unfold fX2_nextRun
  refine fro_ck ?_
  refine fro_jn (fun (k15_0 : Int32 → Hp → Option (Int32 × Hp)) => ∀ (z0_0 : Int32) (h2 : Hp), Fr wX2_nextRun h h2 → FrO wX2_nextRun h (k15_0 z0_0 h2)) (fun z0_0 h2 c_h2 => ?_) (fun k15_0 Hk15_0 => ?_)
  ·
    refine fro_jn (fun (k44_2 : Hp → Option (Int32 × Hp)) => ∀ (h4 : Hp), Fr wX2_nextRun h h4 → FrO wX2_nextRun h (k44_2 h4)) (fun h4 c_h4 => ?_) (fun k44_2 Hk44_2 => ?_)
    ·
      refine frX2_nextRun_l46 l1 z0_0 _ _ (fun y12 h13 c_h13 => ?_) FU 0 h4 c_h4
      exact fro_some c_h13
    refine fro_if ?_ ?_
    ·
      refine fro_ck ?_
      refine fro_bnd (frX0_soonest 10 (ra h2 13 0 l1) h2) (fun _ a => a.pick [] rfl) c_h2 (fun x15 h14 c_h14 => ?_)
      refine fro_ck ?_
      refine fro_if ?_ ?_
      ·
        exact fro_some c_h14
      ·
        exact Hk44_2 h14 c_h14
    ·
      exact Hk44_2 h2 c_h2
  refine fro_if ?_ ?_
  ·
    exact Hk15_0 1 h c_h
  ·
    exact Hk15_0 0 h c_h
def wX2_findRound : List FE := [(19, some 0, none), (20, some 0, none), (0, some 0, some 4), (0, some 0, some 5), (0, some 0, some 6)]
set_option maxHeartbeats 4000000 in
theorem frX2_findRound_l2 (K : Hp → Option (Unit × Hp)) (h0 : Hp) (hK : ∀ (h : Hp), Fr wX2_findRound h0 h → FrO wX2_findRound h0 (K  h)) : ∀ (n : Nat) (l1 : Int32) (h : Hp), Fr wX2_findRound h0 h → FrO wX2_findRound h0 (itr1 (fX2_findRound_l2 K) n l1 h) := by
  refine fro_itr1 ?_
  intro rec hrec l1 h c_h
  unfold fX2_findRound_l2
  refine fro_if ?_ ?_
  ·
    exact hK h c_h
  ·
    refine fro_ck ?_
    refine fro_h (fr_wa 0 rfl) c_h (fun h1 c_h1 => ?_)
    refine fro_let (fun x2 => ?_)
    exact hrec x2 h1 c_h1
set_option maxHeartbeats 4000000 in
theorem frX2_findRound_l29 (K : Int32 → Int32 → Int32 → Hp → Option (Unit × Hp)) (h0 : Hp) (hK : ∀ (y1 y2 y3 : Int32) (h : Hp), Fr wX2_findRound h0 h → FrO wX2_findRound h0 (K y1 y2 y3 h)) : ∀ (n : Nat) (l1 l2 l3 : Int32) (h : Hp), Fr wX2_findRound h0 h → FrO wX2_findRound h0 (itr3 (fX2_findRound_l29 K) n l1 l2 l3 h) := by
  refine fro_itr3 ?_
  intro rec hrec l1 l2 l3 h c_h
  unfold fX2_findRound_l29
  refine fro_if ?_ ?_
  ·
    exact fro_some c_h
  ·
    refine fro_bnd (frX2_nextRun l1 h) (fun _ a => a.pick [] rfl) c_h (fun x5 h4 c_h4 => ?_)
    refine fro_ck ?_
    refine fro_if ?_ ?_
    ·
      refine fro_if ?_ ?_
      ·
        exact hK l1 l2 l3 h4 c_h4
      ·
        refine fro_ck ?_
        refine fro_h (fr_wa 0 rfl) c_h4 (fun h6 c_h6 => ?_)
        refine fro_ck ?_
        refine fro_h (fr_wa 1 rfl) c_h6 (fun h7 c_h7 => ?_)
        refine fro_bnd (frX2_beatsTo l1 x5 h7) (fun _ a => a.pick [] rfl) c_h7 (fun x9 h8 c_h8 => ?_)
        refine fro_let (fun x10 => ?_)
        refine fro_bnd (frX2_followerOf l1 x5 h8) (fun _ a => a.pick [] rfl) c_h8 (fun x12 h11 c_h11 => ?_)
        refine fro_let (fun x13 => ?_)
        exact hrec x12 x10 x13 h11 c_h11
    ·
      exact hK l1 l2 l3 h4 c_h4
set_option maxHeartbeats 4000000 in
theorem frX2_findRound (h : Hp) : FrO wX2_findRound h (fX2_findRound h) := by
  have c_h : Fr wX2_findRound h h := Fr.rf
  unfold fX2_findRound
  refine frX2_findRound_l2 _ _ (fun h3 c_h3 => ?_) FU 0 h c_h
  refine frX2_findRound_l29 _ _ (fun y14 y15 y16 h17 c_h17 => ?_) FU 0 0 0 h3 c_h3
  refine fro_ck ?_
  refine fro_h (fr_wr 2 rfl) c_h17 (fun h18 c_h18 => ?_)
  refine fro_h (fr_wr 3 rfl) c_h18 (fun h19 c_h19 => ?_)
  refine fro_ck ?_
  refine fro_h (fr_wr 4 rfl) c_h19 (fun h20 c_h20 => ?_)
  exact fro_some c_h20
def wX2_rowLength : List FE := []
set_option maxHeartbeats 4000000 in
theorem frX2_rowLength_l4 (K : Hp → Option (Int32 × Hp)) (h0 : Hp) (hK : ∀ (h : Hp), Fr wX2_rowLength h0 h → FrO wX2_rowLength h0 (K  h)) : ∀ (n : Nat) (l1 l2 : Int32) (h : Hp), Fr wX2_rowLength h0 h → FrO wX2_rowLength h0 (itr2 (fX2_rowLength_l4 K) n l1 l2 h) := by
  refine fro_itr2 ?_
  intro rec hrec l1 l2 h c_h
  unfold fX2_rowLength_l4
  refine fro_if ?_ ?_
  ·
    exact hK h c_h
  ·
    refine fro_bnd (frX2_nextRun l1 h) (fun _ a => a.pick [] rfl) c_h (fun x2 h1 c_h1 => ?_)
    refine fro_if ?_ ?_
    ·
      exact fro_some c_h1
    ·
      refine fro_bnd (frX2_followerOf l1 x2 h1) (fun _ a => a.pick [] rfl) c_h1 (fun x4 h3 c_h3 => ?_)
      refine fro_let (fun x5 => ?_)
      exact hrec x4 x5 h3 c_h3
set_option maxHeartbeats 4000000 in
theorem frX2_rowLength (h : Hp) : FrO wX2_rowLength h (fX2_rowLength h) := by
  have c_h : Fr wX2_rowLength h h := Fr.rf
  unfold fX2_rowLength
  refine frX2_rowLength_l4 _ _ (fun h6 c_h6 => ?_) FU 0 0 h c_h
  exact fro_some c_h6
def wX2_answer : List FE := [(19, some 0, none), (20, some 0, none), (0, some 0, some 4), (0, some 0, some 5), (0, some 0, some 6)]
set_option maxHeartbeats 4000000 in
theorem frX2_answer (l1 : Int32) (h : Hp) : FrO wX2_answer h (fX2_answer l1 h) := by
  have c_h : Fr wX2_answer h h := Fr.rf
  unfold fX2_answer
  refine fro_bnd (frX2_isForever 0 h) (fun _ a => a.pick [] rfl) c_h (fun x2 h1 c_h1 => ?_)
  refine fro_if ?_ ?_
  ·
    refine fro_if ?_ ?_
    ·
      exact fro_some c_h1
    ·
      exact fro_some c_h1
  refine fro_if ?_ ?_
  ·
    refine fro_bnd (frX2_lastsFrom 0 h1) (fun _ a => a.pick [] rfl) c_h1 (fun x6 h5 c_h5 => ?_)
    exact fro_some c_h5
  refine fro_if ?_ ?_
  ·
    refine fro_if ?_ ?_
    ·
      refine fro_bnd (frX2_rowLength h1) (fun _ a => a.pick [] rfl) c_h1 (fun x9 h8 c_h8 => ?_)
      exact fro_some c_h8
    ·
      exact fro_some c_h1
  refine fro_if ?_ ?_
  ·
    exact fro_some c_h1
  ·
    refine fro_if ?_ ?_
    ·
      exact fro_some c_h1
    ·
      refine fro_bnd (frX2_findRound h1) (fun _ a => a.pick [0, 1, 2, 3, 4] rfl) c_h1 (fun _ h10 c_h10 => ?_)
      refine fro_if ?_ ?_
      ·
        exact fro_some c_h10
      ·
        refine fro_if ?_ ?_
        ·
          exact fro_some c_h10
        ·
          exact fro_some c_h10
def wX2_rowPlate : List FE := []
set_option maxHeartbeats 4000000 in
theorem frX2_rowPlate_l4 (l1 : Int32) (K : Hp → Option (Int32 × Hp)) (h0 : Hp) (hK : ∀ (h : Hp), Fr wX2_rowPlate h0 h → FrO wX2_rowPlate h0 (K  h)) : ∀ (n : Nat) (l2 l3 : Int32) (h : Hp), Fr wX2_rowPlate h0 h → FrO wX2_rowPlate h0 (itr2 (fX2_rowPlate_l4 l1 K) n l2 l3 h) := by
  refine fro_itr2 ?_
  intro rec hrec l2 l3 h c_h
  unfold fX2_rowPlate_l4
  refine fro_if ?_ ?_
  ·
    exact hK h c_h
  ·
    refine fro_bnd (frX2_nextRun l2 h) (fun _ a => a.pick [] rfl) c_h (fun x2 h1 c_h1 => ?_)
    refine fro_if ?_ ?_
    ·
      exact fro_some c_h1
    ·
      refine fro_if ?_ ?_
      ·
        exact fro_some c_h1
      ·
        refine fro_bnd (frX2_followerOf l2 x2 h1) (fun _ a => a.pick [] rfl) c_h1 (fun x4 h3 c_h3 => ?_)
        refine fro_let (fun x5 => ?_)
        exact hrec x4 x5 h3 c_h3
set_option maxHeartbeats 4000000 in
theorem frX2_rowPlate (l1 : Int32) (h : Hp) : FrO wX2_rowPlate h (fX2_rowPlate l1 h) := by
  have c_h : Fr wX2_rowPlate h h := Fr.rf
  unfold fX2_rowPlate
  refine frX2_rowPlate_l4 l1 _ _ (fun h6 c_h6 => ?_) FU 0 0 h c_h
  exact fro_some c_h6
def wX11_keep : List FE := [(11, some 0, none), (0, some 0, some 2), (6, some 10, some 0), (6, some 10, some 1), (6, some 10, some 2), (33, some 10, none), (34, some 10, none), (35, some 10, none), (0, some 0, some 1), (0, some 0, some 3), (12, some 0, none), (13, some 0, none), (14, some 0, none), (17, some 0, none), (15, some 0, none), (18, some 0, none), (16, some 0, none), (19, some 0, none), (20, some 0, none), (0, some 0, some 4), (0, some 0, some 5), (0, some 0, some 6)]
set_option maxHeartbeats 4000000 in
theorem frX11_keep (l1 : Int32) (l2 : Int32) (h : Hp) : FrO wX11_keep h (fX11_keep l1 l2 h) := by
  have c_h : Fr wX11_keep h h := Fr.rf
  unfold fX11_keep
  refine fro_bnd (frX9_stageAt 0 l1 h) (fun _ a => a.pick [] rfl) c_h (fun x2 h1 c_h1 => ?_)
  refine fro_nl ?_ (fun b3 => ?_)
  ·
    exact fro_some c_h1
  ·
    refine fro_jn (fun (k51_3 : Hp → Option (Int32 × Hp)) => ∀ (h5 : Hp), Fr wX11_keep h h5 → FrO wX11_keep h (k51_3 h5)) (fun h5 c_h5 => ?_) (fun k51_3 Hk51_3 => ?_)
    ·
      refine fro_if ?_ ?_
      ·
        exact fro_some c_h5
      ·
        refine fro_if ?_ ?_
        ·
          refine fro_bnd (frX2_exploreAll b3 h5) (fun _ a => a.pick [0, 1, 2, 3, 4, 5, 6, 7, 8, 9, 10, 11, 12, 13, 14, 15, 16] rfl) c_h5 (fun _ h6 c_h6 => ?_)
          refine fro_bnd (frX2_answer l2 h6) (fun _ a => a.pick [17, 18, 19, 20, 21] rfl) c_h6 (fun x8 h7 c_h7 => ?_)
          exact fro_some c_h7
        ·
          exact fro_some c_h5
    refine fro_if ?_ ?_
    ·
      exact Hk51_3 h1 c_h1
    ·
      refine fro_if ?_ ?_
      ·
        exact Hk51_3 h1 c_h1
      ·
        refine fro_bnd (frX2_exploreAll b3 h1) (fun _ a => a.pick [0, 1, 2, 3, 4, 5, 6, 7, 8, 9, 10, 11, 12, 13, 14, 15, 16] rfl) c_h1 (fun _ h9 c_h9 => ?_)
        refine fro_bnd (frX2_rowPlate (l2 - (10 : Int32)) h9) (fun _ a => a.pick [] rfl) c_h9 (fun x11 h10 c_h10 => ?_)
        exact fro_some c_h10
def wX11_least : List FE := [(4, some 0, some 0), (4, some 0, some 1), (4, some 0, some 2), (4, some 0, some 3), (4, some 0, some 4), (30, some 0, none), (4, some 0, some 9), (27, some 0, none), (29, some 0, none), (4, some 0, some 10), (28, some 0, none)]
set_option maxHeartbeats 4000000 in
theorem frX11_least (l1 : Int32) (l2 : Int32) (l3 : Int32) (h : Hp) : FrO wX11_least h (fX11_least l1 l2 l3 h) := by
  have c_h : Fr wX11_least h h := Fr.rf
  unfold fX11_least
  refine fro_bnd (frX9_stageAt 0 l1 h) (fun _ a => a.pick [] rfl) c_h (fun x2 h1 c_h1 => ?_)
  refine fro_bnd (frX9_logAt 0 l2 h1) (fun _ a => a.pick [] rfl) c_h1 (fun x4 h3 c_h3 => ?_)
  refine fro_nl ?_ (fun b5 => ?_)
  ·
    exact fro_some c_h3
  ·
    refine fro_nl ?_ (fun b6 => ?_)
    ·
      exact fro_some c_h3
    ·
      refine fro_bnd (frX6_tally b5 b6 (-1) h3) (fun _ a => a.pick [0, 1, 2, 3, 4, 5, 6, 7, 8, 9, 10] rfl) c_h3 (fun _ h7 c_h7 => ?_)
      refine fro_if ?_ ?_
      ·
        exact fro_some c_h7
      refine fro_if ?_ ?_
      ·
        exact fro_some c_h7
      refine fro_if ?_ ?_
      ·
        exact fro_some c_h7
      exact fro_some c_h7
def wX8_waysFrom (a0 : Nat) : List FE := []
set_option maxHeartbeats 4000000 in
theorem frX8_waysFrom_l4 (a0 : Nat) (l1 : Int32) (K : Int32 → Hp → Option (Int32 × Hp)) (h0 : Hp) (hK : ∀ (y2 : Int32) (h : Hp), Fr (wX8_waysFrom a0) h0 h → FrO (wX8_waysFrom a0) h0 (K y2 h)) : ∀ (n : Nat) (l2 l3 : Int32) (h : Hp), Fr (wX8_waysFrom a0) h0 h → FrO (wX8_waysFrom a0) h0 (itr2 (fX8_waysFrom_l4 a0 l1 K) n l2 l3 h) := by
  refine fro_itr2 ?_
  intro rec hrec l2 l3 h c_h
  unfold fX8_waysFrom_l4
  refine fro_if ?_ ?_
  ·
    exact hK l2 h c_h
  ·
    refine fro_ck ?_
    refine fro_bnd (frX8_way a0 l1 (ra h 33 a0 l3) h) (fun _ a => a.pick [] rfl) c_h (fun x2 h1 c_h1 => ?_)
    refine fro_let (fun x3 => ?_)
    refine fro_let (fun x4 => ?_)
    exact hrec x3 x4 h1 c_h1
set_option maxHeartbeats 4000000 in
theorem frX8_waysFrom (a0 : Nat) (l1 : Int32) (h : Hp) : FrO (wX8_waysFrom a0) h (fX8_waysFrom a0 l1 h) := by
  have c_h : Fr (wX8_waysFrom a0) h h := Fr.rf
  unfold fX8_waysFrom
  refine frX8_waysFrom_l4 a0 l1 _ _ (fun y5 h6 c_h6 => ?_) FU 0 0 h c_h
  exact fro_some c_h6
def wX8_centre (a0 : Nat) : List FE := []
set_option maxHeartbeats 4000000 in
theorem frX8_centre_l4 (a0 : Nat) (K : Int32 → Hp → Option (Int32 × Hp)) (h0 : Hp) (hK : ∀ (y1 : Int32) (h : Hp), Fr (wX8_centre a0) h0 h → FrO (wX8_centre a0) h0 (K y1 h)) : ∀ (n : Nat) (l1 l2 : Int32) (h : Hp), Fr (wX8_centre a0) h0 h → FrO (wX8_centre a0) h0 (itr2 (fX8_centre_l4 a0 K) n l1 l2 h) := by
  refine fro_itr2 ?_
  intro rec hrec l1 l2 h c_h
  unfold fX8_centre_l4
  refine fro_if ?_ ?_
  ·
    exact hK l1 h c_h
  ·
    refine fro_bnd (frX8_waysFrom a0 l2 h) (fun _ a => a.pick [] rfl) c_h (fun x2 h1 c_h1 => ?_)
    refine fro_bnd (frX8_waysFrom a0 l1 h1) (fun _ a => a.pick [] rfl) c_h1 (fun x4 h3 c_h3 => ?_)
    refine fro_jn (fun (k25_4 : Int32 → Hp → Option (Int32 × Hp)) => ∀ (y1_4 : Int32) (h6 : Hp), Fr (wX8_centre a0) h0 h6 → FrO (wX8_centre a0) h0 (k25_4 y1_4 h6)) (fun y1_4 h6 c_h6 => ?_) (fun k25_4 Hk25_4 => ?_)
    ·
      refine fro_let (fun x7 => ?_)
      exact hrec y1_4 x7 h6 c_h6
    refine fro_if ?_ ?_
    ·
      exact Hk25_4 l1 h3 c_h3
    ·
      exact Hk25_4 l2 h3 c_h3
set_option maxHeartbeats 4000000 in
theorem frX8_centre (a0 : Nat) (h : Hp) : FrO (wX8_centre a0) h (fX8_centre a0 h) := by
  have c_h : Fr (wX8_centre a0) h h := Fr.rf
  unfold fX8_centre
  refine frX8_centre_l4 a0 _ _ (fun y8 h9 c_h9 => ?_) FU 0 1 h c_h
  exact fro_some c_h9
def wX8_closeCouples (a0 : Nat) : List FE := []
set_option maxHeartbeats 4000000 in
theorem frX8_closeCouples_l16 (a0 : Nat) (l2 : Int32) (K : Int32 → Hp → Option (Int32 × Hp)) (h0 : Hp) (hK : ∀ (y1 : Int32) (h : Hp), Fr (wX8_closeCouples a0) h0 h → FrO (wX8_closeCouples a0) h0 (K y1 h)) : ∀ (n : Nat) (l1 l3 : Int32) (h : Hp), Fr (wX8_closeCouples a0) h0 h → FrO (wX8_closeCouples a0) h0 (itr2 (fX8_closeCouples_l16 a0 l2 K) n l1 l3 h) := by
  refine fro_itr2 ?_
  intro rec hrec l1 l3 h c_h
  unfold fX8_closeCouples_l16
  refine fro_if ?_ ?_
  ·
    exact hK l1 h c_h
  ·
    refine fro_ck ?_
    refine fro_ck ?_
    refine fro_jn (fun (k42_1 : Int32 → Hp → Option (Int32 × Hp)) => ∀ (y1_1 : Int32) (h3 : Hp), Fr (wX8_closeCouples a0) h0 h3 → FrO (wX8_closeCouples a0) h0 (k42_1 y1_1 h3)) (fun y1_1 h3 c_h3 => ?_) (fun k42_1 Hk42_1 => ?_)
    ·
      refine fro_let (fun x4 => ?_)
      exact hrec y1_1 x4 h3 c_h3
    refine fro_if ?_ ?_
    ·
      refine fro_let (fun x5 => ?_)
      exact Hk42_1 x5 h c_h
    ·
      exact Hk42_1 l1 h c_h
set_option maxHeartbeats 4000000 in
theorem frX8_closeCouples_l4 (a0 : Nat) (K : Int32 → Hp → Option (Int32 × Hp)) (h0 : Hp) (hK : ∀ (y1 : Int32) (h : Hp), Fr (wX8_closeCouples a0) h0 h → FrO (wX8_closeCouples a0) h0 (K y1 h)) : ∀ (n : Nat) (l1 l2 : Int32) (h : Hp), Fr (wX8_closeCouples a0) h0 h → FrO (wX8_closeCouples a0) h0 (itr2 (fX8_closeCouples_l4 a0 K) n l1 l2 h) := by
  refine fro_itr2 ?_
  intro rec hrec l1 l2 h c_h
  unfold fX8_closeCouples_l4
  refine fro_if ?_ ?_
  ·
    exact hK l1 h c_h
  ·
    refine fro_let (fun x1 => ?_)
    refine frX8_closeCouples_l16 a0 l2 _ _ (fun y6 h7 c_h7 => ?_) FU l1 x1 h c_h
    refine fro_let (fun x8 => ?_)
    exact hrec y6 x8 h7 c_h7
set_option maxHeartbeats 4000000 in
theorem frX8_closeCouples (a0 : Nat) (h : Hp) : FrO (wX8_closeCouples a0) h (fX8_closeCouples a0 h) := by
  have c_h : Fr (wX8_closeCouples a0) h h := Fr.rf
  unfold fX8_closeCouples
  refine frX8_closeCouples_l4 a0 _ _ (fun y9 h10 c_h10 => ?_) FU 0 0 h c_h
  exact fro_some c_h10
def wX8_fallsBefore (a0 : Nat) : List FE := []
set_option maxHeartbeats 4000000 in
theorem frX8_fallsBefore_l4 (a0 : Nat) (l1 : Int32) (K : Int32 → Hp → Option (Int32 × Hp)) (h0 : Hp) (hK : ∀ (y2 : Int32) (h : Hp), Fr (wX8_fallsBefore a0) h0 h → FrO (wX8_fallsBefore a0) h0 (K y2 h)) : ∀ (n : Nat) (l2 l3 : Int32) (h : Hp), Fr (wX8_fallsBefore a0) h0 h → FrO (wX8_fallsBefore a0) h0 (itr2 (fX8_fallsBefore_l4 a0 l1 K) n l2 l3 h) := by
  refine fro_itr2 ?_
  intro rec hrec l2 l3 h c_h
  unfold fX8_fallsBefore_l4
  refine fro_if ?_ ?_
  ·
    exact hK l2 h c_h
  ·
    refine fro_ck ?_
    refine fro_ck ?_
    refine fro_jn (fun (k50_0 : Int32 → Hp → Option (Int32 × Hp)) => ∀ (y2_0 : Int32) (h2 : Hp), Fr (wX8_fallsBefore a0) h0 h2 → FrO (wX8_fallsBefore a0) h0 (k50_0 y2_0 h2)) (fun y2_0 h2 c_h2 => ?_) (fun k50_0 Hk50_0 => ?_)
    ·
      refine fro_let (fun x3 => ?_)
      exact hrec y2_0 x3 h2 c_h2
    refine fro_jn (fun (k47_3 : Hp → Option (Int32 × Hp)) => ∀ (h5 : Hp), Fr (wX8_fallsBefore a0) h0 h5 → FrO (wX8_fallsBefore a0) h0 (k47_3 h5)) (fun h5 c_h5 => ?_) (fun k47_3 Hk47_3 => ?_)
    ·
      refine fro_let (fun x6 => ?_)
      exact Hk50_0 x6 h5 c_h5
    refine fro_if ?_ ?_
    ·
      exact Hk47_3 h c_h
    ·
      refine fro_ck ?_
      refine fro_ck ?_
      refine fro_if ?_ ?_
      ·
        refine fro_if ?_ ?_
        ·
          exact Hk50_0 l2 h c_h
        ·
          exact Hk47_3 h c_h
      ·
        exact Hk50_0 l2 h c_h
set_option maxHeartbeats 4000000 in
theorem frX8_fallsBefore (a0 : Nat) (l1 : Int32) (h : Hp) : FrO (wX8_fallsBefore a0) h (fX8_fallsBefore a0 l1 h) := by
  have c_h : Fr (wX8_fallsBefore a0) h h := Fr.rf
  unfold fX8_fallsBefore
  refine frX8_fallsBefore_l4 a0 l1 _ _ (fun y7 h8 c_h8 => ?_) FU 0 0 h c_h
  exact fro_some c_h8
def wX8_falling (a0 : Nat) : List FE := []
set_option maxHeartbeats 4000000 in
theorem frX8_falling_l2 (a0 : Nat) (l1 : Int32) (K : Hp → Option (Int32 × Hp)) (h0 : Hp) (hK : ∀ (h : Hp), Fr (wX8_falling a0) h0 h → FrO (wX8_falling a0) h0 (K  h)) : ∀ (n : Nat) (l2 : Int32) (h : Hp), Fr (wX8_falling a0) h0 h → FrO (wX8_falling a0) h0 (itr1 (fX8_falling_l2 a0 l1 K) n l2 h) := by
  refine fro_itr1 ?_
  intro rec hrec l2 h c_h
  unfold fX8_falling_l2
  refine fro_if ?_ ?_
  ·
    exact hK h c_h
  ·
    refine fro_bnd (frX8_fallsBefore a0 l2 h) (fun _ a => a.pick [] rfl) c_h (fun x2 h1 c_h1 => ?_)
    refine fro_if ?_ ?_
    ·
      exact fro_some c_h1
    ·
      refine fro_let (fun x3 => ?_)
      exact hrec x3 h1 c_h1
set_option maxHeartbeats 4000000 in
theorem frX8_falling (a0 : Nat) (l1 : Int32) (h : Hp) : FrO (wX8_falling a0) h (fX8_falling a0 l1 h) := by
  have c_h : Fr (wX8_falling a0) h h := Fr.rf
  unfold fX8_falling
  refine frX8_falling_l2 a0 l1 _ _ (fun h4 c_h4 => ?_) FU 0 h c_h
  exact fro_some c_h4
def wX8_latePlates (a0 : Nat) : List FE := []
set_option maxHeartbeats 4000000 in
theorem frX8_latePlates_l4 (a0 : Nat) (K : Int32 → Hp → Option (Int32 × Hp)) (h0 : Hp) (hK : ∀ (y1 : Int32) (h : Hp), Fr (wX8_latePlates a0) h0 h → FrO (wX8_latePlates a0) h0 (K y1 h)) : ∀ (n : Nat) (l1 l2 : Int32) (h : Hp), Fr (wX8_latePlates a0) h0 h → FrO (wX8_latePlates a0) h0 (itr2 (fX8_latePlates_l4 a0 K) n l1 l2 h) := by
  refine fro_itr2 ?_
  intro rec hrec l1 l2 h c_h
  unfold fX8_latePlates_l4
  refine fro_if ?_ ?_
  ·
    exact hK l1 h c_h
  ·
    refine fro_ck ?_
    refine fro_ck ?_
    refine fro_bnd (frX8_way a0 (rd h 6 a0 1) (ra h 33 a0 l2) h) (fun _ a => a.pick [] rfl) c_h (fun x2 h1 c_h1 => ?_)
    refine fro_jn (fun (k41_2 : Int32 → Hp → Option (Int32 × Hp)) => ∀ (y1_2 : Int32) (h4 : Hp), Fr (wX8_latePlates a0) h0 h4 → FrO (wX8_latePlates a0) h0 (k41_2 y1_2 h4)) (fun y1_2 h4 c_h4 => ?_) (fun k41_2 Hk41_2 => ?_)
    ·
      refine fro_let (fun x5 => ?_)
      exact hrec y1_2 x5 h4 c_h4
    refine fro_if ?_ ?_
    ·
      exact Hk41_2 l1 h1 c_h1
    ·
      refine fro_let (fun x6 => ?_)
      exact Hk41_2 x6 h1 c_h1
set_option maxHeartbeats 4000000 in
theorem frX8_latePlates (a0 : Nat) (h : Hp) : FrO (wX8_latePlates a0) h (fX8_latePlates a0 h) := by
  have c_h : Fr (wX8_latePlates a0) h h := Fr.rf
  unfold fX8_latePlates
  refine frX8_latePlates_l4 a0 _ _ (fun y7 h8 c_h8 => ?_) FU 0 0 h c_h
  exact fro_some c_h8
def wX8_loadPart (a0 : Nat) : List FE := []
set_option maxHeartbeats 4000000 in
theorem frX8_loadPart_l4 (a0 : Nat) (K : Int32 → Hp → Option (Int32 × Hp)) (h0 : Hp) (hK : ∀ (y2 : Int32) (h : Hp), Fr (wX8_loadPart a0) h0 h → FrO (wX8_loadPart a0) h0 (K y2 h)) : ∀ (n : Nat) (l2 l3 : Int32) (h : Hp), Fr (wX8_loadPart a0) h0 h → FrO (wX8_loadPart a0) h0 (itr2 (fX8_loadPart_l4 a0 K) n l2 l3 h) := by
  refine fro_itr2 ?_
  intro rec hrec l2 l3 h c_h
  unfold fX8_loadPart_l4
  refine fro_if ?_ ?_
  ·
    exact hK l2 h c_h
  ·
    refine fro_ck ?_
    refine fro_let (fun x1 => ?_)
    refine fro_ck ?_
    refine fro_let (fun x2 => ?_)
    refine fro_let (fun x3 => ?_)
    exact hrec x2 x3 h c_h
set_option maxHeartbeats 4000000 in
theorem frX8_loadPart (a0 : Nat) (l1 : Int32) (h : Hp) : FrO (wX8_loadPart a0) h (fX8_loadPart a0 l1 h) := by
  have c_h : Fr (wX8_loadPart a0) h h := Fr.rf
  unfold fX8_loadPart
  refine frX8_loadPart_l4 a0 _ _ (fun y4 h5 c_h5 => ?_) FU 0 0 h c_h
  refine fro_bnd (frX11_commonDivisor y4 60 h5) (fun _ a => a.pick [] rfl) c_h5 (fun x7 h6 c_h6 => ?_)
  refine fro_let (fun x8 => ?_)
  refine fro_if ?_ ?_
  ·
    refine fro_ck ?_
    exact fro_some c_h6
  ·
    refine fro_ck ?_
    exact fro_some c_h6
def wX8_span (a0 : Nat) : List FE := []
set_option maxHeartbeats 4000000 in
theorem frX8_span_l25 (a0 : Nat) (K : Int32 → Int32 → Hp → Option (Int32 × Hp)) (h0 : Hp) (hK : ∀ (y1 y2 : Int32) (h : Hp), Fr (wX8_span a0) h0 h → FrO (wX8_span a0) h0 (K y1 y2 h)) : ∀ (n : Nat) (l1 l2 l3 : Int32) (h : Hp), Fr (wX8_span a0) h0 h → FrO (wX8_span a0) h0 (itr3 (fX8_span_l25 a0 K) n l1 l2 l3 h) := by
  refine fro_itr3 ?_
  intro rec hrec l1 l2 l3 h c_h
  unfold fX8_span_l25
  refine fro_if ?_ ?_
  ·
    exact hK l1 l2 h c_h
  ·
    refine fro_ck ?_
    refine fro_let (fun x3 => ?_)
    refine fro_ck ?_
    refine fro_let (fun x4 => ?_)
    refine fro_let (fun x5 => ?_)
    exact hrec x3 x4 x5 h c_h
set_option maxHeartbeats 4000000 in
theorem frX8_span (a0 : Nat) (h : Hp) : FrO (wX8_span a0) h (fX8_span a0 h) := by
  have c_h : Fr (wX8_span a0) h h := Fr.rf
  unfold fX8_span
  refine fro_if ?_ ?_
  ·
    exact fro_some c_h
  ·
    refine fro_ck ?_
    refine fro_let (fun x1 => ?_)
    refine fro_ck ?_
    refine fro_let (fun x2 => ?_)
    refine frX8_span_l25 a0 _ _ (fun y6 y7 h8 c_h8 => ?_) FU x1 x2 1 h c_h
    exact fro_some c_h8
def wX11_load : List FE := [(6, some 11, some 0), (6, some 11, some 1), (6, some 11, some 2), (33, some 11, none), (34, some 11, none), (35, some 11, none), (11, some 0, none), (0, some 0, some 2), (6, some 10, some 0), (6, some 10, some 1), (6, some 10, some 2), (33, some 10, none), (34, some 10, none), (35, some 10, none), (0, some 0, some 1), (0, some 0, some 3), (12, some 0, none), (13, some 0, none), (14, some 0, none), (17, some 0, none), (15, some 0, none), (18, some 0, none), (16, some 0, none)]
set_option maxHeartbeats 4000000 in
theorem frX11_load (l1 : Int32) (l2 : Int32) (h : Hp) : FrO wX11_load h (fX11_load l1 l2 h) := by
  have c_h : Fr wX11_load h h := Fr.rf
  unfold fX11_load
  refine fro_bnd (frX9_stageAt 0 l1 h) (fun _ a => a.pick [] rfl) c_h (fun x2 h1 c_h1 => ?_)
  refine fro_nl ?_ (fun b3 => ?_)
  ·
    exact fro_some c_h1
  ·
    refine fro_if ?_ ?_
    ·
      refine fro_bnd (frX8_loadPart b3 0 h1) (fun _ a => a.pick [] rfl) c_h1 (fun x6 h5 c_h5 => ?_)
      exact fro_some c_h5
    refine fro_if ?_ ?_
    ·
      refine fro_bnd (frX8_loadPart b3 1 h1) (fun _ a => a.pick [] rfl) c_h1 (fun x9 h8 c_h8 => ?_)
      exact fro_some c_h8
    refine fro_if ?_ ?_
    ·
      refine fro_if ?_ ?_
      ·
        exact fro_some c_h1
      ·
        refine fro_bnd (frX8_packed b3 h1) (fun _ a => a.pick [] rfl) c_h1 (fun x12 h11 c_h11 => ?_)
        refine fro_bnd (frX0_soonest b3 x12 h11) (fun _ a => a.pick [] rfl) c_h11 (fun x14 h13 c_h13 => ?_)
        exact fro_some c_h13
    refine fro_if ?_ ?_
    ·
      refine fro_bnd (frX8_span b3 h1) (fun _ a => a.pick [] rfl) c_h1 (fun x17 h16 c_h16 => ?_)
      exact fro_some c_h16
    refine fro_if ?_ ?_
    ·
      refine fro_bnd (frX8_closeCouples b3 h1) (fun _ a => a.pick [] rfl) c_h1 (fun x20 h19 c_h19 => ?_)
      exact fro_some c_h19
    refine fro_if ?_ ?_
    ·
      refine fro_bnd (frX10_alonePlates b3 h1) (fun _ a => a.pick [0, 1, 2, 3, 4, 5, 6, 7, 8, 9, 10, 11, 12, 13, 14, 15, 16, 17, 18, 19, 20, 21, 22] rfl) c_h1 (fun x23 h22 c_h22 => ?_)
      exact fro_some c_h22
    refine fro_if ?_ ?_
    ·
      refine fro_bnd (frX10_couplesAlone b3 h1) (fun _ a => a.pick [0, 1, 2, 3, 4, 5, 6, 7, 8, 9, 10, 11, 12, 13, 14, 15, 16, 17, 18, 19, 20, 21, 22] rfl) c_h1 (fun x26 h25 c_h25 => ?_)
      exact fro_some c_h25
    refine fro_if ?_ ?_
    ·
      refine fro_bnd (frX8_latePlates b3 h1) (fun _ a => a.pick [] rfl) c_h1 (fun x29 h28 c_h28 => ?_)
      exact fro_some c_h28
    refine fro_if ?_ ?_
    ·
      refine fro_bnd (frX0_inRow b3 h1) (fun _ a => a.pick [] rfl) c_h1 (fun x32 h31 c_h31 => ?_)
      refine fro_jn (fun (k165_32 : Hp → Option (Int32 × Hp)) => ∀ (h34 : Hp), Fr wX11_load h h34 → FrO wX11_load h (k165_32 h34)) (fun h34 c_h34 => ?_) (fun k165_32 Hk165_32 => ?_)
      ·
        exact fro_some c_h34
      refine fro_if ?_ ?_
      ·
        exact Hk165_32 h31 c_h31
      ·
        refine fro_if ?_ ?_
        ·
          exact Hk165_32 h31 c_h31
        ·
          exact fro_some c_h31
    refine fro_if ?_ ?_
    ·
      refine fro_bnd (frX0_inRow b3 h1) (fun _ a => a.pick [] rfl) c_h1 (fun x37 h36 c_h36 => ?_)
      exact fro_some c_h36
    refine fro_if ?_ ?_
    ·
      refine fro_bnd (frX8_centre b3 h1) (fun _ a => a.pick [] rfl) c_h1 (fun x40 h39 c_h39 => ?_)
      exact fro_some c_h39
    refine fro_if ?_ ?_
    ·
      refine fro_bnd (frX8_centre b3 h1) (fun _ a => a.pick [] rfl) c_h1 (fun x43 h42 c_h42 => ?_)
      refine fro_bnd (frX8_waysFrom b3 x43 h42) (fun _ a => a.pick [] rfl) c_h42 (fun x45 h44 c_h44 => ?_)
      exact fro_some c_h44
    refine fro_if ?_ ?_
    ·
      refine fro_bnd (frX10_bestSwap b3 h1) (fun _ a => a.pick [6, 7, 8, 9, 10, 11, 12, 13, 14, 15, 16, 17, 18, 19, 20, 21, 22, 0, 1, 2, 3, 4, 5] rfl) c_h1 (fun x48 h47 c_h47 => ?_)
      exact fro_some c_h47
    refine fro_if ?_ ?_
    ·
      exact fro_some c_h1
    ·
      refine fro_bnd (frX8_falling b3 (l2 - (20 : Int32)) h1) (fun _ a => a.pick [] rfl) c_h1 (fun x50 h49 c_h49 => ?_)
      exact fro_some c_h49
def wX3_factPart (a0 : Nat) : List FE := []
set_option maxHeartbeats 4000000 in
theorem frX3_factPart (a0 : Nat) (l1 : Int32) (h : Hp) : FrO (wX3_factPart a0) h (fX3_factPart a0 l1 h) := by
  have c_h : Fr (wX3_factPart a0) h h := Fr.rf
  unfold fX3_factPart
  refine fro_let (fun x1 => ?_)
  refine fro_if ?_ ?_
  ·
    exact fro_some c_h
  ·
    refine fro_if ?_ ?_
    ·
      refine fro_let (fun x2 => ?_)
      refine fro_if ?_ ?_
      ·
        refine fro_ck ?_
        exact fro_some c_h
      refine fro_if ?_ ?_
      ·
        refine fro_ck ?_
        exact fro_some c_h
      refine fro_if ?_ ?_
      ·
        refine fro_ck ?_
        exact fro_some c_h
      exact fro_some c_h
    ·
      exact fro_some c_h
def wX11_log : List FE := []
set_option maxHeartbeats 4000000 in
theorem frX11_log (l1 : Int32) (l2 : Int32) (h : Hp) : FrO wX11_log h (fX11_log l1 l2 h) := by
  have c_h : Fr wX11_log h h := Fr.rf
  unfold fX11_log
  refine fro_bnd (frX9_logAt 0 l1 h) (fun _ a => a.pick [] rfl) c_h (fun x2 h1 c_h1 => ?_)
  refine fro_nl ?_ (fun b3 => ?_)
  ·
    exact fro_some c_h1
  ·
    refine fro_if ?_ ?_
    ·
      exact fro_some c_h1
    refine fro_if ?_ ?_
    ·
      exact fro_some c_h1
    refine fro_bnd (frX3_factPart b3 l2 h1) (fun _ a => a.pick [] rfl) c_h1 (fun x7 h6 c_h6 => ?_)
    exact fro_some c_h6
def wX11_needOfPlate (a1 : Nat) : List FE := [(6, some 11, some 0), (6, some 11, some 1), (6, some 11, some 2), (33, some 11, none), (34, some 11, none), (35, some 11, none), (11, some 0, none), (0, some 0, some 2), (6, some 10, some 0), (6, some 10, some 1), (6, some 10, some 2), (33, some 10, none), (34, some 10, none), (35, some 10, none), (0, some 0, some 1), (0, some 0, some 3), (12, some 0, none), (13, some 0, none), (14, some 0, none), (17, some 0, none), (15, some 0, none), (18, some 0, none), (16, some 0, none)]
set_option maxHeartbeats 4000000 in
theorem frX11_needOfPlate (a1 : Nat) (l2 : Int32) (h : Hp) : FrO (wX11_needOfPlate a1) h (fX11_needOfPlate a1 l2 h) := by
  have c_h : Fr (wX11_needOfPlate a1) h h := Fr.rf
  unfold fX11_needOfPlate
  refine fro_bnd (frX8_has a1 (l2 - (10 : Int32)) h) (fun _ a => a.pick [] rfl) c_h (fun x2 h1 c_h1 => ?_)
  refine fro_if ?_ ?_
  ·
    refine fro_bnd (frX8_has a1 (l2 - (20 : Int32)) h1) (fun _ a => a.pick [] rfl) c_h1 (fun x4 h3 c_h3 => ?_)
    refine fro_if ?_ ?_
    ·
      exact fro_some c_h3
    ·
      refine fro_bnd (frX10_movePlaces a1 (l2 - (20 : Int32)) h3) (fun _ a => a.pick [0, 1, 2, 3, 4, 5, 6, 7, 8, 9, 10, 11, 12, 13, 14, 15, 16, 17, 18, 19, 20, 21, 22] rfl) c_h3 (fun x6 h5 c_h5 => ?_)
      exact fro_some c_h5
  ·
    refine fro_bnd (frX10_leastLife a1 (l2 - (10 : Int32)) h1) (fun _ a => a.pick [0, 1, 2, 3, 4, 5, 6, 7, 8, 9, 10, 11, 12, 13, 14, 15, 16, 17, 18, 19, 20, 21, 22] rfl) c_h1 (fun x8 h7 c_h7 => ?_)
    exact fro_some c_h7
def wX2_reached : List FE := []
set_option maxHeartbeats 4000000 in
theorem frX2_reached (h : Hp) : FrO wX2_reached h (fX2_reached h) := by
  have c_h : Fr wX2_reached h h := Fr.rf
  unfold fX2_reached
  exact fro_some c_h
def wX2_safe : List FE := []
set_option maxHeartbeats 4000000 in
theorem frX2_safe_l4 (K : Int32 → Hp → Option (Int32 × Hp)) (h0 : Hp) (hK : ∀ (y1 : Int32) (h : Hp), Fr wX2_safe h0 h → FrO wX2_safe h0 (K y1 h)) : ∀ (n : Nat) (l1 l2 : Int32) (h : Hp), Fr wX2_safe h0 h → FrO wX2_safe h0 (itr2 (fX2_safe_l4 K) n l1 l2 h) := by
  refine fro_itr2 ?_
  intro rec hrec l1 l2 h c_h
  unfold fX2_safe_l4
  refine fro_if ?_ ?_
  ·
    exact hK l1 h c_h
  ·
    refine fro_ck ?_
    refine fro_jn (fun (k25_0 : Int32 → Hp → Option (Int32 × Hp)) => ∀ (y1_0 : Int32) (h2 : Hp), Fr wX2_safe h0 h2 → FrO wX2_safe h0 (k25_0 y1_0 h2)) (fun y1_0 h2 c_h2 => ?_) (fun k25_0 Hk25_0 => ?_)
    ·
      refine fro_let (fun x3 => ?_)
      exact hrec y1_0 x3 h2 c_h2
    refine fro_if ?_ ?_
    ·
      refine fro_let (fun x4 => ?_)
      exact Hk25_0 x4 h c_h
    ·
      exact Hk25_0 l1 h c_h
set_option maxHeartbeats 4000000 in
theorem frX2_safe (h : Hp) : FrO wX2_safe h (fX2_safe h) := by
  have c_h : Fr wX2_safe h h := Fr.rf
  unfold fX2_safe
  refine frX2_safe_l4 _ _ (fun y5 h6 c_h6 => ?_) FU 0 0 h c_h
  exact fro_some c_h6
def wX11_need : List FE := [(6, some 11, some 0), (6, some 11, some 1), (6, some 11, some 2), (33, some 11, none), (34, some 11, none), (35, some 11, none), (11, some 0, none), (0, some 0, some 2), (6, some 10, some 0), (6, some 10, some 1), (6, some 10, some 2), (33, some 10, none), (34, some 10, none), (35, some 10, none), (0, some 0, some 1), (0, some 0, some 3), (12, some 0, none), (13, some 0, none), (14, some 0, none), (17, some 0, none), (15, some 0, none), (18, some 0, none), (16, some 0, none)]
set_option maxHeartbeats 4000000 in
theorem frX11_need (l1 : Int32) (l2 : Int32) (h : Hp) : FrO wX11_need h (fX11_need l1 l2 h) := by
  have c_h : Fr wX11_need h h := Fr.rf
  unfold fX11_need
  refine fro_bnd (frX9_stageAt 0 l1 h) (fun _ a => a.pick [] rfl) c_h (fun x2 h1 c_h1 => ?_)
  refine fro_nl ?_ (fun b3 => ?_)
  ·
    exact fro_some c_h1
  ·
    refine fro_if ?_ ?_
    ·
      refine fro_bnd (frX10_leastSpeed b3 h1) (fun _ a => a.pick [0, 1, 2, 3, 4, 5, 6, 7, 8, 9, 10, 11, 12, 13, 14, 15, 16, 17, 18, 19, 20, 21, 22] rfl) c_h1 (fun x6 h5 c_h5 => ?_)
      exact fro_some c_h5
    refine fro_if ?_ ?_
    ·
      refine fro_bnd (frX10_startPlaces b3 h1) (fun _ a => a.pick [0, 1, 2, 3, 4, 5, 6, 7, 8, 9, 10, 11, 12, 13, 14, 15, 16, 17, 18, 19, 20, 21, 22] rfl) c_h1 (fun x9 h8 c_h8 => ?_)
      exact fro_some c_h8
    refine fro_if ?_ ?_
    ·
      refine fro_bnd (frX10_mostKept b3 h1) (fun _ a => a.pick [0, 1, 2, 3, 4, 5, 6, 7, 8, 9, 10, 11, 12, 13, 14, 15, 16, 17, 18, 19, 20, 21, 22] rfl) c_h1 (fun x12 h11 c_h11 => ?_)
      refine fro_bnd (frJ6_bitCount_0f7a4 x12 h11) (fun _ a => a.pick [] rfl) c_h11 (fun x14 h13 c_h13 => ?_)
      exact fro_some c_h13
    refine fro_if ?_ ?_
    ·
      refine fro_bnd (frX10_mostKept b3 h1) (fun _ a => a.pick [0, 1, 2, 3, 4, 5, 6, 7, 8, 9, 10, 11, 12, 13, 14, 15, 16, 17, 18, 19, 20, 21, 22] rfl) c_h1 (fun x17 h16 c_h16 => ?_)
      exact fro_some c_h16
    refine fro_if ?_ ?_
    ·
      refine fro_bnd (frX10_sparePlates b3 h1) (fun _ a => a.pick [0, 1, 2, 3, 4, 5, 6, 7, 8, 9, 10, 11, 12, 13, 14, 15, 16, 17, 18, 19, 20, 21, 22] rfl) c_h1 (fun x20 h19 c_h19 => ?_)
      exact fro_some c_h19
    refine fro_if ?_ ?_
    ·
      refine fro_bnd (frX2_exploreAll b3 h1) (fun _ a => a.pick [6, 7, 8, 9, 10, 11, 12, 13, 14, 15, 16, 17, 18, 19, 20, 21, 22] rfl) c_h1 (fun _ h22 c_h22 => ?_)
      refine fro_bnd (frX2_reached h22) (fun _ a => a.pick [] rfl) c_h22 (fun x24 h23 c_h23 => ?_)
      exact fro_some c_h23
    refine fro_if ?_ ?_
    ·
      refine fro_bnd (frX2_exploreAll b3 h1) (fun _ a => a.pick [6, 7, 8, 9, 10, 11, 12, 13, 14, 15, 16, 17, 18, 19, 20, 21, 22] rfl) c_h1 (fun _ h26 c_h26 => ?_)
      refine fro_bnd (frX2_safe h26) (fun _ a => a.pick [] rfl) c_h26 (fun x28 h27 c_h27 => ?_)
      exact fro_some c_h27
    refine fro_bnd (frX11_needOfPlate b3 l2 h1) (fun _ a => a.pick [0, 1, 2, 3, 4, 5, 6, 7, 8, 9, 10, 11, 12, 13, 14, 15, 16, 17, 18, 19, 20, 21, 22] rfl) c_h1 (fun x30 h29 c_h29 => ?_)
    exact fro_some c_h29
def wX11_numberFor : List FE := []
set_option maxHeartbeats 4000000 in
theorem frX11_numberFor (l1 : Int32) (l2 : Int32) (h : Hp) : FrO wX11_numberFor h (fX11_numberFor l1 l2 h) := by
  have c_h : Fr wX11_numberFor h h := Fr.rf
  unfold fX11_numberFor
  refine fro_bnd (frX9_has 0 l1 h) (fun _ a => a.pick [] rfl) c_h (fun x2 h1 c_h1 => ?_)
  refine fro_if ?_ ?_
  ·
    exact fro_some c_h1
  ·
    refine fro_ck ?_
    refine fro_let (fun x3 => ?_)
    refine fro_if ?_ ?_
    ·
      refine fro_if ?_ ?_
      ·
        exact fro_some c_h1
      ·
        exact fro_some c_h1
    ·
      refine fro_jn (fun (k54_3 : Hp → Option (Int32 × Hp)) => ∀ (h5 : Hp), Fr wX11_numberFor h h5 → FrO wX11_numberFor h (k54_3 h5)) (fun h5 c_h5 => ?_) (fun k54_3 Hk54_3 => ?_)
      ·
        exact fro_some c_h5
      refine fro_if ?_ ?_
      ·
        exact Hk54_3 h1 c_h1
      ·
        refine fro_if ?_ ?_
        ·
          exact Hk54_3 h1 c_h1
        ·
          exact fro_some c_h1
def wX11_waysToStand : List FE := []
set_option maxHeartbeats 4000000 in
theorem frX11_waysToStand_l8 (l0 : Int32) (l1 : Int32) (l2 : Int32) (K : Int32 → Hp → Option (Int32 × Hp)) (h0 : Hp) (hK : ∀ (y3 : Int32) (h : Hp), Fr wX11_waysToStand h0 h → FrO wX11_waysToStand h0 (K y3 h)) : ∀ (n : Nat) (l3 l4 l5 : Int32) (h : Hp), Fr wX11_waysToStand h0 h → FrO wX11_waysToStand h0 (itr3 (fX11_waysToStand_l8 l0 l1 l2 K) n l3 l4 l5 h) := by
  refine fro_itr3 ?_
  intro rec hrec l3 l4 l5 h c_h
  unfold fX11_waysToStand_l8
  refine fro_if ?_ ?_
  ·
    exact hK l3 h c_h
  ·
    refine fro_jn (fun (k46_0 : Int32 → Hp → Option (Int32 × Hp)) => ∀ (y3_0 : Int32) (h2 : Hp), Fr wX11_waysToStand h0 h2 → FrO wX11_waysToStand h0 (k46_0 y3_0 h2)) (fun y3_0 h2 c_h2 => ?_) (fun k46_0 Hk46_0 => ?_)
    ·
      refine fro_ck ?_
      refine fro_let (fun x3 => ?_)
      refine fro_let (fun x4 => ?_)
      exact hrec y3_0 x3 x4 h2 c_h2
    refine fro_if ?_ ?_
    ·
      exact Hk46_0 l3 h c_h
    ·
      refine fro_bnd (frX11_power l1 l5 h) (fun _ a => a.pick [] rfl) c_h (fun x6 h5 c_h5 => ?_)
      refine fro_bnd (frX11_power ((10 : Int32) - l1) (l2 - l5) h5) (fun _ a => a.pick [] rfl) c_h5 (fun x8 h7 c_h7 => ?_)
      refine fro_let (fun x9 => ?_)
      exact Hk46_0 x9 h7 c_h7
set_option maxHeartbeats 4000000 in
theorem frX11_waysToStand (l0 : Int32) (l1 : Int32) (l2 : Int32) (h : Hp) : FrO wX11_waysToStand h (fX11_waysToStand l0 l1 l2 h) := by
  have c_h : Fr wX11_waysToStand h h := Fr.rf
  unfold fX11_waysToStand
  refine frX11_waysToStand_l8 l0 l1 l2 _ _ (fun y10 h11 c_h11 => ?_) FU 0 1 0 h c_h
  exact fro_some c_h11
def wX11_odds : List FE := []
set_option maxHeartbeats 4000000 in
theorem frX11_odds (l1 : Int32) (l2 : Int32) (l3 : Int32) (l4 : Int32) (l5 : Int32) (h : Hp) : FrO wX11_odds h (fX11_odds l1 l2 l3 l4 l5 h) := by
  have c_h : Fr wX11_odds h h := Fr.rf
  unfold fX11_odds
  refine fro_bnd (frX9_stageAt 0 l1 h) (fun _ a => a.pick [] rfl) c_h (fun x2 h1 c_h1 => ?_)
  refine fro_nl ?_ (fun b3 => ?_)
  ·
    exact fro_some c_h1
  ·
    refine fro_bnd (frX8_has b3 l2 h1) (fun _ a => a.pick [] rfl) c_h1 (fun x5 h4 c_h4 => ?_)
    refine fro_if ?_ ?_
    ·
      exact fro_some c_h4
    ·
      refine fro_if ?_ ?_
      ·
        exact fro_some c_h4
      ·
        refine fro_if ?_ ?_
        ·
          exact fro_some c_h4
        ·
          refine fro_if ?_ ?_
          ·
            exact fro_some c_h4
          ·
            refine fro_if ?_ ?_
            ·
              refine fro_ck ?_
              refine fro_bnd (frX11_waysToStand (ra h4 35 b3 l2) l3 l4 h4) (fun _ a => a.pick [] rfl) c_h4 (fun x7 h6 c_h6 => ?_)
              refine fro_bnd (frX11_power 10 l4 h6) (fun _ a => a.pick [] rfl) c_h6 (fun x9 h8 c_h8 => ?_)
              refine fro_bnd (frX11_commonDivisor x7 x9 h8) (fun _ a => a.pick [] rfl) c_h8 (fun x11 h10 c_h10 => ?_)
              refine fro_jn (fun (k95_11 : Int32 → Hp → Option (Int32 × Hp)) => ∀ (z0_11 : Int32) (h13 : Hp), Fr wX11_odds h h13 → FrO wX11_odds h (k95_11 z0_11 h13)) (fun z0_11 h13 c_h13 => ?_) (fun k95_11 Hk95_11 => ?_)
              ·
                refine fro_let (fun x14 => ?_)
                refine fro_ck ?_
                exact fro_some c_h13
              refine fro_if ?_ ?_
              ·
                exact Hk95_11 x7 h10 c_h10
              ·
                exact Hk95_11 x9 h10 c_h10
            ·
              exact fro_some c_h4
def wX1_bestSaving (a0 : Nat) : List FE := []
set_option maxHeartbeats 4000000 in
theorem frX1_bestSaving_l28 (self : Nat → Int32 → Int32 → Int32 → Hp → Option (Int32 × Hp)) (hself : ∀ (a0 : Nat) (l1 l2 l3 : Int32) (h : Hp), FrO [] h (self a0 l1 l2 l3 h)) (a0 : Nat) (l1 : Int32) (l2 : Int32) (l3 : Int32) (l4 : Int32) (K : Int32 → Hp → Option (Int32 × Hp)) (h0 : Hp) (hK : ∀ (y5 : Int32) (h : Hp), Fr (wX1_bestSaving a0) h0 h → FrO (wX1_bestSaving a0) h0 (K y5 h)) : ∀ (n : Nat) (l5 l6 : Int32) (h : Hp), Fr (wX1_bestSaving a0) h0 h → FrO (wX1_bestSaving a0) h0 (itr2 (fX1_bestSaving_l28 self a0 l1 l2 l3 l4 K) n l5 l6 h) := by
  refine fro_itr2 ?_
  intro rec hrec l5 l6 h c_h
  unfold fX1_bestSaving_l28
  refine fro_if ?_ ?_
  ·
    exact hK l5 h c_h
  ·
    refine fro_bnd (frX1_valueOf l5 h) (fun _ a => a.pick [] rfl) c_h (fun x8 h7 c_h7 => ?_)
    refine fro_if ?_ ?_
    ·
      exact hK l5 h7 c_h7
    ·
      refine fro_ck ?_
      refine fro_bnd (frX8_way a0 l1 (ra h7 33 a0 l6) h7) (fun _ a => a.pick [] rfl) c_h7 (fun x10 h9 c_h9 => ?_)
      refine fro_let (fun x11 => ?_)
      refine fro_bnd (frX0_leftOf l2 l6 h9) (fun _ a => a.pick [] rfl) c_h9 (fun x13 h12 c_h12 => ?_)
      refine fro_jn (fun (k124_13 : Int32 → Hp → Option (Int32 × Hp)) => ∀ (y5_13 : Int32) (h15 : Hp), Fr (wX1_bestSaving a0) h0 h15 → FrO (wX1_bestSaving a0) h0 (k124_13 y5_13 h15)) (fun y5_13 h15 c_h15 => ?_) (fun k124_13 Hk124_13 => ?_)
      ·
        refine fro_let (fun x16 => ?_)
        exact hrec y5_13 x16 h15 c_h15
      refine fro_if ?_ ?_
      ·
        exact Hk124_13 l5 h12 c_h12
      ·
        refine fro_if ?_ ?_
        ·
          exact Hk124_13 l5 h12 c_h12
        ·
          refine fro_bnd (frX0_behindRun a0 l1 l2 l6 h12) (fun _ a => a.pick [] rfl) c_h12 (fun x18 h17 c_h17 => ?_)
          refine fro_ck ?_
          refine fro_bnd (hself a0 (ra h17 33 a0 l6) x18 (l3 - x11) h17) (fun _ a => a.pick [] rfl) c_h17 (fun x20 h19 c_h19 => ?_)
          refine fro_bnd (frX1_valueOf x20 h19) (fun _ a => a.pick [] rfl) c_h19 (fun x22 h21 c_h21 => ?_)
          refine fro_bnd (frX1_rated x22 l6 h21) (fun _ a => a.pick [] rfl) c_h21 (fun x24 h23 c_h23 => ?_)
          refine fro_let (fun x25 => ?_)
          exact Hk124_13 x25 h23 c_h23
set_option maxHeartbeats 4000000 in
theorem frX1_bestSaving (self : Nat → Int32 → Int32 → Int32 → Hp → Option (Int32 × Hp)) (hself : ∀ (a0 : Nat) (l1 l2 l3 : Int32) (h : Hp), FrO [] h (self a0 l1 l2 l3 h)) (a0 : Nat) (l1 : Int32) (l2 : Int32) (l3 : Int32) (h : Hp) : FrO (wX1_bestSaving a0) h (fX1_bestSaving self a0 l1 l2 l3 h) := by
  have c_h : Fr (wX1_bestSaving a0) h h := Fr.rf
  unfold fX1_bestSaving
  refine fro_bnd (frX0_standing l2 h) (fun _ a => a.pick [] rfl) c_h (fun x2 h1 c_h1 => ?_)
  refine fro_jn (fun (k15_2 : Hp → Option (Int32 × Hp)) => ∀ (h4 : Hp), Fr (wX1_bestSaving a0) h h4 → FrO (wX1_bestSaving a0) h (k15_2 h4)) (fun h4 c_h4 => ?_) (fun k15_2 Hk15_2 => ?_)
  ·
    refine fro_bnd (frX1_rated x2 5 h4) (fun _ a => a.pick [] rfl) c_h4 (fun x6 h5 c_h5 => ?_)
    exact fro_some c_h5
  refine fro_if ?_ ?_
  ·
    exact Hk15_2 h1 c_h1
  ·
    refine fro_if ?_ ?_
    ·
      exact Hk15_2 h1 c_h1
    ·
      refine frX1_bestSaving_l28 self hself a0 l1 l2 l3 x2 _ _ (fun y26 h27 c_h27 => ?_) FU (-1) 0 h1 c_h1
      refine fro_bnd (frX1_valueOf y26 h27) (fun _ a => a.pick [] rfl) c_h27 (fun x29 h28 c_h28 => ?_)
      refine fro_if ?_ ?_
      ·
        exact fro_some c_h28
      ·
        refine fro_bnd (frX0_passed l2 1 h28) (fun _ a => a.pick [] rfl) c_h28 (fun x31 h30 c_h30 => ?_)
        refine fro_bnd (hself a0 l1 x31 (l3 - (1 : Int32)) h30) (fun _ a => a.pick [] rfl) c_h30 (fun x33 h32 c_h32 => ?_)
        refine fro_bnd (frX1_valueOf x33 h32) (fun _ a => a.pick [] rfl) c_h32 (fun x35 h34 c_h34 => ?_)
        refine fro_bnd (frX1_rated x35 5 h34) (fun _ a => a.pick [] rfl) c_h34 (fun x37 h36 c_h36 => ?_)
        refine fro_let (fun x38 => ?_)
        exact fro_some c_h36
theorem frxX1_bestSaving : ∀ (n : Nat) (a0 : Nat) (l1 l2 l3 : Int32) (h : Hp), FrO [] h (fxX1_bestSaving n a0 l1 l2 l3 h) := by
  intro n
  induction n with
  | zero => intro a0 l1 l2 l3 h; exact fro_none
  | succ n ih => exact fun a0 l1 l2 l3 h => frX1_bestSaving (fxX1_bestSaving n) ih a0 l1 l2 l3 h
def wX1_saving (a0 : Nat) : List FE := []
set_option maxHeartbeats 4000000 in
theorem frX1_saving (a0 : Nat) (l1 : Int32) (h : Hp) : FrO (wX1_saving a0) h (fX1_saving a0 l1 h) := by
  have c_h : Fr (wX1_saving a0) h h := Fr.rf
  unfold fX1_saving
  refine fro_bnd (frX8_packed a0 h) (fun _ a => a.pick [] rfl) c_h (fun x2 h1 c_h1 => ?_)
  refine fro_let (fun x3 => ?_)
  refine fro_bnd (frxX1_bestSaving 8 a0 (rd h 6 a0 1) x2 x3 h1) (fun _ a => a.pick [] rfl) c_h1 (fun x5 h4 c_h4 => ?_)
  exact fro_some c_h4
def wX11_save : List FE := []
set_option maxHeartbeats 4000000 in
theorem frX11_save (l1 : Int32) (l2 : Int32) (l3 : Int32) (h : Hp) : FrO wX11_save h (fX11_save l1 l2 l3 h) := by
  have c_h : Fr wX11_save h h := Fr.rf
  unfold fX11_save
  refine fro_bnd (frX9_stageAt 0 l1 h) (fun _ a => a.pick [] rfl) c_h (fun x2 h1 c_h1 => ?_)
  refine fro_nl ?_ (fun b3 => ?_)
  ·
    exact fro_some c_h1
  ·
    refine fro_if ?_ ?_
    ·
      exact fro_some c_h1
    ·
      refine fro_if ?_ ?_
      ·
        refine fro_jn (fun (k38_3 : Hp → Option (Int32 × Hp)) => ∀ (h5 : Hp), Fr wX11_save h h5 → FrO wX11_save h (k38_3 h5)) (fun h5 c_h5 => ?_) (fun k38_3 Hk38_3 => ?_)
        ·
          refine fro_bnd (frX1_saving b3 l2 h5) (fun _ a => a.pick [] rfl) c_h5 (fun x7 h6 c_h6 => ?_)
          refine fro_if ?_ ?_
          ·
            refine fro_bnd (frX1_valueOf x7 h6) (fun _ a => a.pick [] rfl) c_h6 (fun x9 h8 c_h8 => ?_)
            exact fro_some c_h8
          ·
            refine fro_bnd (frX1_choiceOf x7 h6) (fun _ a => a.pick [] rfl) c_h6 (fun x11 h10 c_h10 => ?_)
            exact fro_some c_h10
        refine fro_if ?_ ?_
        ·
          exact Hk38_3 h1 c_h1
        ·
          refine fro_if ?_ ?_
          ·
            exact fro_some c_h1
          ·
            exact Hk38_3 h1 c_h1
      ·
        exact fro_some c_h1
def wX8_plateFact (a0 : Nat) : List FE := []
set_option maxHeartbeats 4000000 in
theorem frX8_plateFact (a0 : Nat) (l1 : Int32) (h : Hp) : FrO (wX8_plateFact a0) h (fX8_plateFact a0 l1 h) := by
  have c_h : Fr (wX8_plateFact a0) h h := Fr.rf
  unfold fX8_plateFact
  refine fro_let (fun x1 => ?_)
  refine fro_bnd (frX8_has a0 x1 h) (fun _ a => a.pick [] rfl) c_h (fun x3 h2 c_h2 => ?_)
  refine fro_if ?_ ?_
  ·
    exact fro_some c_h2
  ·
    refine fro_let (fun x4 => ?_)
    refine fro_if ?_ ?_
    ·
      refine fro_ck ?_
      exact fro_some c_h2
    refine fro_if ?_ ?_
    ·
      refine fro_ck ?_
      exact fro_some c_h2
    refine fro_if ?_ ?_
    ·
      refine fro_ck ?_
      exact fro_some c_h2
    exact fro_some c_h2
def wX11_stage : List FE := []
set_option maxHeartbeats 4000000 in
theorem frX11_stage (l1 : Int32) (l2 : Int32) (h : Hp) : FrO wX11_stage h (fX11_stage l1 l2 h) := by
  have c_h : Fr wX11_stage h h := Fr.rf
  unfold fX11_stage
  refine fro_bnd (frX9_stageAt 0 l1 h) (fun _ a => a.pick [] rfl) c_h (fun x2 h1 c_h1 => ?_)
  refine fro_nl ?_ (fun b3 => ?_)
  ·
    exact fro_some c_h1
  ·
    refine fro_if ?_ ?_
    ·
      exact fro_some c_h1
    refine fro_if ?_ ?_
    ·
      exact fro_some c_h1
    refine fro_if ?_ ?_
    ·
      exact fro_some c_h1
    refine fro_bnd (frX8_plateFact b3 l2 h1) (fun _ a => a.pick [] rfl) c_h1 (fun x8 h7 c_h7 => ?_)
    exact fro_some c_h7
def wX11_state : List FE := [(6, some 9, some 0), (6, some 9, some 1), (6, some 9, some 2), (33, some 9, none), (34, some 9, none), (35, some 9, none), (2, some 0, some 2), (2, some 0, some 3), (2, some 0, some 4), (2, some 0, some 5), (2, some 0, some 6), (2, some 0, some 8), (2, some 0, some 9), (2, some 0, some 10), (2, some 0, some 11), (2, some 0, some 12), (24, some 0, none)]
set_option maxHeartbeats 4000000 in
theorem frX11_state (l1 : Int32) (l2 : Int32) (l3 : Int32) (l4 : Int32) (h : Hp) : FrO wX11_state h (fX11_state l1 l2 l3 l4 h) := by
  have c_h : Fr wX11_state h h := Fr.rf
  unfold fX11_state
  refine fro_bnd (frX9_stageAt 0 l1 h) (fun _ a => a.pick [] rfl) c_h (fun x2 h1 c_h1 => ?_)
  refine fro_bnd (frX9_showAt 0 l2 h1) (fun _ a => a.pick [] rfl) c_h1 (fun x4 h3 c_h3 => ?_)
  refine fro_nl ?_ (fun b5 => ?_)
  ·
    exact fro_some c_h3
  ·
    refine fro_nl ?_ (fun b6 => ?_)
    ·
      exact fro_some c_h3
    ·
      refine fro_if ?_ ?_
      ·
        refine fro_bnd (frX4_play b5 b6 l3 h3) (fun _ a => a.pick [0, 1, 2, 3, 4, 5, 6, 7, 8, 9, 10, 11, 12, 13, 14, 15, 16] rfl) c_h3 (fun x8 h7 c_h7 => ?_)
        refine fro_if ?_ ?_
        ·
          refine fro_bnd (frX4_view l4 h7) (fun _ a => a.pick [] rfl) c_h7 (fun x10 h9 c_h9 => ?_)
          exact fro_some c_h9
        ·
          exact fro_some c_h7
      ·
        exact fro_some c_h3
def wX11_stop : List FE := [(6, some 9, some 0), (6, some 9, some 1), (6, some 9, some 2), (33, some 9, none), (34, some 9, none), (35, some 9, none), (2, some 0, some 2), (2, some 0, some 3), (2, some 0, some 4), (2, some 0, some 5), (2, some 0, some 6), (2, some 0, some 8), (2, some 0, some 9), (2, some 0, some 10), (2, some 0, some 11), (2, some 0, some 12), (24, some 0, none)]
set_option maxHeartbeats 4000000 in
theorem frX11_stop (l1 : Int32) (l2 : Int32) (h : Hp) : FrO wX11_stop h (fX11_stop l1 l2 h) := by
  have c_h : Fr wX11_stop h h := Fr.rf
  unfold fX11_stop
  refine fro_bnd (frX9_stageAt 0 l1 h) (fun _ a => a.pick [] rfl) c_h (fun x2 h1 c_h1 => ?_)
  refine fro_bnd (frX9_showAt 0 l2 h1) (fun _ a => a.pick [] rfl) c_h1 (fun x4 h3 c_h3 => ?_)
  refine fro_nl ?_ (fun b5 => ?_)
  ·
    exact fro_some c_h3
  ·
    refine fro_nl ?_ (fun b6 => ?_)
    ·
      exact fro_some c_h3
    ·
      refine fro_bnd (frX4_play b5 b6 40 h3) (fun _ a => a.pick [0, 1, 2, 3, 4, 5, 6, 7, 8, 9, 10, 11, 12, 13, 14, 15, 16] rfl) c_h3 (fun x8 h7 c_h7 => ?_)
      exact fro_some c_h7
def wX11_takeRead : List FE := [(6, none, none), (33, none, none), (34, none, none), (35, none, none), (5, none, none), (31, none, none), (32, none, none), (1, none, none), (21, none, none), (22, none, none), (23, none, none), (37, some 0, none)]
set_option maxHeartbeats 4000000 in
theorem frX11_takeRead (l1 : Int32) (l2 : Int32) (h : Hp) : FrO wX11_takeRead h (fX11_takeRead l1 l2 h) := by
  have c_h : Fr wX11_takeRead h h := Fr.rf
  unfold fX11_takeRead
  refine fro_bnd (frX9_has 0 l1 h) (fun _ a => a.pick [] rfl) c_h (fun x2 h1 c_h1 => ?_)
  refine fro_if ?_ ?_
  ·
    exact fro_some c_h1
  ·
    refine fro_if ?_ ?_
    ·
      exact fro_some c_h1
    ·
      refine fro_if ?_ ?_
      ·
        refine fro_ck ?_
        refine fro_jn (fun (k47_2 : Hp → Option (Unit × Hp)) => ∀ (h4 : Hp), Fr wX11_takeRead h h4 → FrO wX11_takeRead h (k47_2 h4)) (fun h4 c_h4 => ?_) (fun k47_2 Hk47_2 => ?_)
        ·
          refine fro_if ?_ ?_
          ·
            refine fro_ck ?_
            refine fro_bnd (frX8_copyFrom (2 * (0 % cnt 38) + 1 * l2.toNatClampNeg + 0) 8 h4) (fun _ a => a.wide (List.forall_mem_cons.mpr ⟨⟨_, List.mem_of_getElem? (i := 0) rfl, rfl, Or.inl rfl, Or.inl rfl⟩, (List.forall_mem_cons.mpr ⟨⟨_, List.mem_of_getElem? (i := 0) rfl, rfl, Or.inl rfl, Or.inl rfl⟩, (List.forall_mem_cons.mpr ⟨⟨_, List.mem_of_getElem? (i := 0) rfl, rfl, Or.inl rfl, Or.inl rfl⟩, (List.forall_mem_cons.mpr ⟨⟨_, List.mem_of_getElem? (i := 1) rfl, rfl, Or.inl rfl, Or.inl rfl⟩, (List.forall_mem_cons.mpr ⟨⟨_, List.mem_of_getElem? (i := 2) rfl, rfl, Or.inl rfl, Or.inl rfl⟩, (List.forall_mem_cons.mpr ⟨⟨_, List.mem_of_getElem? (i := 3) rfl, rfl, Or.inl rfl, Or.inl rfl⟩, (fun _ h => absurd h List.not_mem_nil)⟩)⟩)⟩)⟩)⟩)⟩)) c_h4 (fun _ h6 c_h6 => ?_)
            exact fro_some c_h6
          refine fro_if ?_ ?_
          ·
            refine fro_ck ?_
            refine fro_bnd (frX7_copyFrom (2 * (0 % cnt 39) + 1 * l2.toNatClampNeg + 0) 8 h4) (fun _ a => a.wide (List.forall_mem_cons.mpr ⟨⟨_, List.mem_of_getElem? (i := 4) rfl, rfl, Or.inl rfl, Or.inl rfl⟩, (List.forall_mem_cons.mpr ⟨⟨_, List.mem_of_getElem? (i := 5) rfl, rfl, Or.inl rfl, Or.inl rfl⟩, (List.forall_mem_cons.mpr ⟨⟨_, List.mem_of_getElem? (i := 6) rfl, rfl, Or.inl rfl, Or.inl rfl⟩, (fun _ h => absurd h List.not_mem_nil)⟩)⟩)⟩)) c_h4 (fun _ h8 c_h8 => ?_)
            exact fro_some c_h8
          refine fro_ck ?_
          refine fro_bnd (frX3_copyFrom (2 * (0 % cnt 40) + 1 * l2.toNatClampNeg + 0) 8 h4) (fun _ a => a.wide (List.forall_mem_cons.mpr ⟨⟨_, List.mem_of_getElem? (i := 7) rfl, rfl, Or.inl rfl, Or.inl rfl⟩, (List.forall_mem_cons.mpr ⟨⟨_, List.mem_of_getElem? (i := 7) rfl, rfl, Or.inl rfl, Or.inl rfl⟩, (List.forall_mem_cons.mpr ⟨⟨_, List.mem_of_getElem? (i := 8) rfl, rfl, Or.inl rfl, Or.inl rfl⟩, (List.forall_mem_cons.mpr ⟨⟨_, List.mem_of_getElem? (i := 9) rfl, rfl, Or.inl rfl, Or.inl rfl⟩, (List.forall_mem_cons.mpr ⟨⟨_, List.mem_of_getElem? (i := 10) rfl, rfl, Or.inl rfl, Or.inl rfl⟩, (fun _ h => absurd h List.not_mem_nil)⟩)⟩)⟩)⟩)⟩)) c_h4 (fun _ h9 c_h9 => ?_)
          exact fro_some c_h9
        refine fro_if ?_ ?_
        ·
          refine fro_ck ?_
          refine fro_ck ?_
          refine fro_h (fr_wa 11 rfl) c_h1 (fun h10 c_h10 => ?_)
          exact Hk47_2 h10 c_h10
        ·
          exact Hk47_2 h1 c_h1
      ·
        exact fro_some c_h1
def wX3_clear (a0 : Nat) : List FE := [(1, some (a0 % cnt 1), some 0), (1, some (a0 % cnt 1), some 1)]
set_option maxHeartbeats 4000000 in
theorem frX3_clear (a0 : Nat) (h : Hp) : FrO (wX3_clear a0) h (fX3_clear a0 h) := by
  have c_h : Fr (wX3_clear a0) h h := Fr.rf
  unfold fX3_clear
  refine fro_h (fr_wr 0 rfl) c_h (fun h1 c_h1 => ?_)
  refine fro_h (fr_wr 1 rfl) c_h1 (fun h2 c_h2 => ?_)
  exact fro_some c_h2
def wX5_byteAt : List FE := []
set_option maxHeartbeats 4000000 in
theorem frX5_byteAt (l1 : Int32) (h : Hp) : FrO wX5_byteAt h (fX5_byteAt l1 h) := by
  have c_h : Fr wX5_byteAt h h := Fr.rf
  unfold fX5_byteAt
  refine fro_jn (fun (k34_0 : Hp → Option (Int32 × Hp)) => ∀ (h2 : Hp), Fr wX5_byteAt h h2 → FrO wX5_byteAt h (k34_0 h2)) (fun h2 c_h2 => ?_) (fun k34_0 Hk34_0 => ?_)
  ·
    exact fro_some c_h2
  refine fro_if ?_ ?_
  ·
    exact Hk34_0 h c_h
  ·
    refine fro_if ?_ ?_
    ·
      exact Hk34_0 h c_h
    ·
      refine fro_ck ?_
      refine fro_if ?_ ?_
      ·
        exact Hk34_0 h c_h
      ·
        refine fro_ck ?_
        refine fro_ck ?_
        exact fro_some c_h
def wX5_isBlank : List FE := []
set_option maxHeartbeats 4000000 in
theorem frX5_isBlank (l0 : Int32) (h : Hp) : FrO wX5_isBlank h (fX5_isBlank l0 h) := by
  have c_h : Fr wX5_isBlank h h := Fr.rf
  unfold fX5_isBlank
  refine fro_jn (fun (k12_0 : Hp → Option (Int32 × Hp)) => ∀ (h2 : Hp), Fr wX5_isBlank h h2 → FrO wX5_isBlank h (k12_0 h2)) (fun h2 c_h2 => ?_) (fun k12_0 Hk12_0 => ?_)
  ·
    refine fro_ck ?_
    exact fro_some c_h2
  refine fro_if ?_ ?_
  ·
    exact Hk12_0 h c_h
  ·
    refine fro_if ?_ ?_
    ·
      exact Hk12_0 h c_h
    ·
      refine fro_ck ?_
      exact fro_some c_h
def wX5_isDigit : List FE := []
set_option maxHeartbeats 4000000 in
theorem frX5_isDigit (l0 : Int32) (h : Hp) : FrO wX5_isDigit h (fX5_isDigit l0 h) := by
  have c_h : Fr wX5_isDigit h h := Fr.rf
  unfold fX5_isDigit
  refine fro_jn (fun (k16_0 : Hp → Option (Int32 × Hp)) => ∀ (h2 : Hp), Fr wX5_isDigit h h2 → FrO wX5_isDigit h (k16_0 h2)) (fun h2 c_h2 => ?_) (fun k16_0 Hk16_0 => ?_)
  ·
    refine fro_ck ?_
    exact fro_some c_h2
  refine fro_if ?_ ?_
  ·
    exact Hk16_0 h c_h
  ·
    refine fro_if ?_ ?_
    ·
      exact Hk16_0 h c_h
    ·
      refine fro_ck ?_
      exact fro_some c_h
def wX5_isLetter : List FE := []
set_option maxHeartbeats 4000000 in
theorem frX5_isLetter (l0 : Int32) (h : Hp) : FrO wX5_isLetter h (fX5_isLetter l0 h) := by
  have c_h : Fr wX5_isLetter h h := Fr.rf
  unfold fX5_isLetter
  refine fro_jn (fun (k16_0 : Hp → Option (Int32 × Hp)) => ∀ (h2 : Hp), Fr wX5_isLetter h h2 → FrO wX5_isLetter h (k16_0 h2)) (fun h2 c_h2 => ?_) (fun k16_0 Hk16_0 => ?_)
  ·
    refine fro_ck ?_
    exact fro_some c_h2
  refine fro_if ?_ ?_
  ·
    exact Hk16_0 h c_h
  ·
    refine fro_if ?_ ?_
    ·
      exact Hk16_0 h c_h
    ·
      refine fro_ck ?_
      exact fro_some c_h
def wX5_nextToken : List FE := [(3, some 0, some 7), (3, some 0, some 9), (3, some 0, some 8)]
set_option maxHeartbeats 4000000 in
theorem frX5_nextToken_l0 (K : Hp → Option (Unit × Hp)) (h0 : Hp) (hK : ∀ (h : Hp), Fr wX5_nextToken h0 h → FrO wX5_nextToken h0 (K  h)) : ∀ (n : Nat) (h : Hp), Fr wX5_nextToken h0 h → FrO wX5_nextToken h0 (itr0 (fX5_nextToken_l0 K) n  h) := by
  refine fro_itr0 ?_
  intro rec hrec  h c_h
  unfold fX5_nextToken_l0
  refine fro_if ?_ ?_
  ·
    exact hK h c_h
  ·
    refine fro_bnd (frX5_byteAt (rd h 3 0 7) h) (fun _ a => a.pick [] rfl) c_h (fun x2 h1 c_h1 => ?_)
    refine fro_bnd (frX5_isBlank x2 h1) (fun _ a => a.pick [] rfl) c_h1 (fun x4 h3 c_h3 => ?_)
    refine fro_if ?_ ?_
    ·
      exact hK h3 c_h3
    ·
      refine fro_h (fr_wr 0 rfl) c_h3 (fun h5 c_h5 => ?_)
      exact hrec h5 c_h5
set_option maxHeartbeats 4000000 in
theorem frX5_nextToken_l149 (K : Hp → Option (Unit × Hp)) (h0 : Hp) (hK : ∀ (h : Hp), Fr wX5_nextToken h0 h → FrO wX5_nextToken h0 (K  h)) : ∀ (n : Nat) (h : Hp), Fr wX5_nextToken h0 h → FrO wX5_nextToken h0 (itr0 (fX5_nextToken_l149 K) n  h) := by
  refine fro_itr0 ?_
  intro rec hrec  h c_h
  unfold fX5_nextToken_l149
  refine fro_if ?_ ?_
  ·
    exact hK h c_h
  ·
    refine fro_bnd (frX5_byteAt (rd h 3 0 7) h) (fun _ a => a.pick [] rfl) c_h (fun x19 h18 c_h18 => ?_)
    refine fro_bnd (frX5_isDigit x19 h18) (fun _ a => a.pick [] rfl) c_h18 (fun x21 h20 c_h20 => ?_)
    refine fro_if ?_ ?_
    ·
      exact hK h20 c_h20
    ·
      refine fro_h (fr_wr 0 rfl) c_h20 (fun h22 c_h22 => ?_)
      exact hrec h22 c_h22
set_option maxHeartbeats 4000000 in
theorem frX5_nextToken_l104 (K : Hp → Option (Unit × Hp)) (h0 : Hp) (hK : ∀ (h : Hp), Fr wX5_nextToken h0 h → FrO wX5_nextToken h0 (K  h)) : ∀ (n : Nat) (h : Hp), Fr wX5_nextToken h0 h → FrO wX5_nextToken h0 (itr0 (fX5_nextToken_l104 K) n  h) := by
  refine fro_itr0 ?_
  intro rec hrec  h c_h
  unfold fX5_nextToken_l104
  refine fro_if ?_ ?_
  ·
    exact hK h c_h
  ·
    refine fro_bnd (frX5_byteAt (rd h 3 0 7) h) (fun _ a => a.pick [] rfl) c_h (fun x29 h28 c_h28 => ?_)
    refine fro_bnd (frX5_isLetter x29 h28) (fun _ a => a.pick [] rfl) c_h28 (fun x31 h30 c_h30 => ?_)
    refine fro_if ?_ ?_
    ·
      exact hK h30 c_h30
    ·
      refine fro_h (fr_wr 0 rfl) c_h30 (fun h32 c_h32 => ?_)
      exact hrec h32 c_h32
set_option maxHeartbeats 4000000 in
theorem frX5_nextToken (h : Hp) : FrO wX5_nextToken h (fX5_nextToken h) := by
  have c_h : Fr wX5_nextToken h h := Fr.rf
  unfold fX5_nextToken
  refine frX5_nextToken_l0 _ _ (fun h6 c_h6 => ?_) FU h c_h
  refine fro_h (fr_wr 1 rfl) c_h6 (fun h7 c_h7 => ?_)
  refine fro_bnd (frX5_byteAt (rd h7 3 0 7) h7) (fun _ a => a.pick [] rfl) c_h7 (fun x9 h8 c_h8 => ?_)
  refine fro_if ?_ ?_
  ·
    refine fro_h (fr_wr 2 rfl) c_h8 (fun h10 c_h10 => ?_)
    exact fro_some c_h10
  ·
    refine fro_if ?_ ?_
    ·
      refine fro_h (fr_wr 2 rfl) c_h8 (fun h11 c_h11 => ?_)
      refine fro_h (fr_wr 0 rfl) c_h11 (fun h12 c_h12 => ?_)
      exact fro_some c_h12
    ·
      refine fro_bnd (frX5_isLetter x9 h8) (fun _ a => a.pick [] rfl) c_h8 (fun x14 h13 c_h13 => ?_)
      refine fro_if ?_ ?_
      ·
        refine fro_bnd (frX5_isDigit x9 h13) (fun _ a => a.pick [] rfl) c_h13 (fun x16 h15 c_h15 => ?_)
        refine fro_if ?_ ?_
        ·
          refine fro_h (fr_wr 2 rfl) c_h15 (fun h17 c_h17 => ?_)
          exact fro_some c_h17
        ·
          refine frX5_nextToken_l149 _ _ (fun h23 c_h23 => ?_) FU h15 c_h15
          refine fro_jn (fun (k206_23 : Int32 → Hp → Option (Unit × Hp)) => ∀ (z0_23 : Int32) (h25 : Hp), Fr wX5_nextToken h h25 → FrO wX5_nextToken h (k206_23 z0_23 h25)) (fun z0_23 h25 c_h25 => ?_) (fun k206_23 Hk206_23 => ?_)
          ·
            refine fro_h (fr_wr 2 rfl) c_h25 (fun h26 c_h26 => ?_)
            exact fro_some c_h26
          refine fro_if ?_ ?_
          ·
            exact Hk206_23 4 h23 c_h23
          ·
            exact Hk206_23 2 h23 c_h23
      ·
        refine fro_h (fr_wr 2 rfl) c_h13 (fun h27 c_h27 => ?_)
        refine frX5_nextToken_l104 _ _ (fun h33 c_h33 => ?_) FU h27 c_h27
        exact fro_some c_h33
def wX5_blame : List FE := [(3, some 0, some 3), (3, some 0, some 4)]
set_option maxHeartbeats 4000000 in
theorem frX5_blame (l1 : Int32) (h : Hp) : FrO wX5_blame h (fX5_blame l1 h) := by
  have c_h : Fr wX5_blame h h := Fr.rf
  unfold fX5_blame
  refine fro_if ?_ ?_
  ·
    refine fro_h (fr_wr 0 rfl) c_h (fun h1 c_h1 => ?_)
    refine fro_h (fr_wr 1 rfl) c_h1 (fun h2 c_h2 => ?_)
    exact fro_some c_h2
  ·
    exact fro_some c_h
def wX5_canBeOfPlate : List FE := []
set_option maxHeartbeats 4000000 in
theorem frX5_canBeOfPlate (l1 : Int32) (h : Hp) : FrO wX5_canBeOfPlate h (fX5_canBeOfPlate l1 h) := by
  have c_h : Fr wX5_canBeOfPlate h h := Fr.rf
  unfold fX5_canBeOfPlate
  refine fro_if ?_ ?_
  ·
    refine fro_ck ?_
    refine fro_if ?_ ?_
    ·
      refine fro_ck ?_
      exact fro_some c_h
    ·
      refine fro_ck ?_
      exact fro_some c_h
  refine fro_if ?_ ?_
  ·
    refine fro_ck ?_
    refine fro_jn (fun (k70_2 : Hp → Option (Int32 × Hp)) => ∀ (h4 : Hp), Fr wX5_canBeOfPlate h h4 → FrO wX5_canBeOfPlate h (k70_2 h4)) (fun h4 c_h4 => ?_) (fun k70_2 Hk70_2 => ?_)
    ·
      refine fro_ck ?_
      exact fro_some c_h4
    refine fro_if ?_ ?_
    ·
      exact Hk70_2 h c_h
    ·
      refine fro_ck ?_
      refine fro_if ?_ ?_
      ·
        exact Hk70_2 h c_h
      ·
        refine fro_ck ?_
        exact fro_some c_h
  refine fro_ck ?_
  refine fro_jn (fun (k112_4 : Hp → Option (Int32 × Hp)) => ∀ (h6 : Hp), Fr wX5_canBeOfPlate h h6 → FrO wX5_canBeOfPlate h (k112_4 h6)) (fun h6 c_h6 => ?_) (fun k112_4 Hk112_4 => ?_)
  ·
    refine fro_ck ?_
    exact fro_some c_h6
  refine fro_if ?_ ?_
  ·
    exact Hk112_4 h c_h
  ·
    refine fro_ck ?_
    refine fro_if ?_ ?_
    ·
      exact Hk112_4 h c_h
    ·
      refine fro_ck ?_
      refine fro_ck ?_
      refine fro_if ?_ ?_
      ·
        exact Hk112_4 h c_h
      ·
        refine fro_ck ?_
        exact fro_some c_h
def wX5_canBe : List FE := []
set_option maxHeartbeats 4000000 in
theorem frX5_canBe (l1 : Int32) (l2 : Int32) (h : Hp) : FrO wX5_canBe h (fX5_canBe l1 l2 h) := by
  have c_h : Fr wX5_canBe h h := Fr.rf
  unfold fX5_canBe
  refine fro_ck ?_
  refine fro_let (fun x1 => ?_)
  refine fro_if ?_ ?_
  ·
    refine fro_jn (fun (k83_2 : Hp → Option (Int32 × Hp)) => ∀ (h4 : Hp), Fr wX5_canBe h h4 → FrO wX5_canBe h (k83_2 h4)) (fun h4 c_h4 => ?_) (fun k83_2 Hk83_2 => ?_)
    ·
      refine fro_ck ?_
      exact fro_some c_h4
    refine fro_if ?_ ?_
    ·
      exact Hk83_2 h c_h
    ·
      refine fro_if ?_ ?_
      ·
        exact Hk83_2 h c_h
      ·
        refine fro_ck ?_
        exact fro_some c_h
  refine fro_if ?_ ?_
  ·
    refine fro_if ?_ ?_
    ·
      refine fro_ck ?_
      exact fro_some c_h
    ·
      refine fro_ck ?_
      exact fro_some c_h
  refine fro_if ?_ ?_
  ·
    refine fro_bnd (frX5_canBeOfPlate l2 h) (fun _ a => a.pick [] rfl) c_h (fun x8 h7 c_h7 => ?_)
    refine fro_ck ?_
    exact fro_some c_h7
  refine fro_if ?_ ?_
  ·
    refine fro_if ?_ ?_
    ·
      refine fro_ck ?_
      exact fro_some c_h
    ·
      refine fro_ck ?_
      exact fro_some c_h
  refine fro_if ?_ ?_
  ·
    refine fro_if ?_ ?_
    ·
      refine fro_ck ?_
      exact fro_some c_h
    ·
      refine fro_ck ?_
      exact fro_some c_h
  refine fro_if ?_ ?_
  ·
    refine fro_if ?_ ?_
    ·
      refine fro_ck ?_
      exact fro_some c_h
    ·
      refine fro_ck ?_
      exact fro_some c_h
  refine fro_if ?_ ?_
  ·
    refine fro_if ?_ ?_
    ·
      refine fro_ck ?_
      exact fro_some c_h
    ·
      refine fro_ck ?_
      exact fro_some c_h
  refine fro_if ?_ ?_
  ·
    refine fro_if ?_ ?_
    ·
      refine fro_ck ?_
      exact fro_some c_h
    ·
      refine fro_ck ?_
      exact fro_some c_h
  refine fro_if ?_ ?_
  ·
    refine fro_if ?_ ?_
    ·
      refine fro_ck ?_
      exact fro_some c_h
    ·
      refine fro_ck ?_
      exact fro_some c_h
  refine fro_if ?_ ?_
  ·
    refine fro_if ?_ ?_
    ·
      refine fro_if ?_ ?_
      ·
        refine fro_ck ?_
        exact fro_some c_h
      ·
        refine fro_ck ?_
        exact fro_some c_h
    ·
      refine fro_if ?_ ?_
      ·
        refine fro_ck ?_
        exact fro_some c_h
      ·
        refine fro_ck ?_
        exact fro_some c_h
  refine fro_if ?_ ?_
  ·
    refine fro_if ?_ ?_
    ·
      refine fro_if ?_ ?_
      ·
        refine fro_ck ?_
        exact fro_some c_h
      ·
        refine fro_ck ?_
        exact fro_some c_h
    ·
      refine fro_if ?_ ?_
      ·
        refine fro_ck ?_
        exact fro_some c_h
      ·
        refine fro_ck ?_
        exact fro_some c_h
  refine fro_if ?_ ?_
  ·
    refine fro_ck ?_
    exact fro_some c_h
  ·
    refine fro_ck ?_
    exact fro_some c_h
def wX5_isWord : List FE := []
set_option maxHeartbeats 4000000 in
theorem frX5_isWord_l20 (a1 : Nat) (K : Hp → Option (Int32 × Hp)) (h0 : Hp) (hK : ∀ (h : Hp), Fr wX5_isWord h0 h → FrO wX5_isWord h0 (K  h)) : ∀ (n : Nat) (l2 : Int32) (h : Hp), Fr wX5_isWord h0 h → FrO wX5_isWord h0 (itr1 (fX5_isWord_l20 a1 K) n l2 h) := by
  refine fro_itr1 ?_
  intro rec hrec l2 h c_h
  unfold fX5_isWord_l20
  refine fro_ck ?_
  refine fro_if ?_ ?_
  ·
    exact hK h c_h
  ·
    refine fro_bnd (frX5_byteAt ((rd h 3 0 9) + l2) h) (fun _ a => a.pick [] rfl) c_h (fun x2 h1 c_h1 => ?_)
    refine fro_ck ?_
    refine fro_ck ?_
    refine fro_if ?_ ?_
    ·
      refine fro_let (fun x3 => ?_)
      exact hrec x3 h1 c_h1
    ·
      refine fro_ck ?_
      exact fro_some c_h1
set_option maxHeartbeats 4000000 in
theorem frX5_isWord (a1 : Nat) (h : Hp) : FrO wX5_isWord h (fX5_isWord a1 h) := by
  have c_h : Fr wX5_isWord h h := Fr.rf
  unfold fX5_isWord
  refine fro_ck ?_
  refine fro_if ?_ ?_
  ·
    refine frX5_isWord_l20 a1 _ _ (fun h4 c_h4 => ?_) FU 0 h c_h
    refine fro_ck ?_
    exact fro_some c_h4
  ·
    refine fro_ck ?_
    exact fro_some c_h
def wX5_wordOf : List FE := []
set_option maxHeartbeats 4000000 in
theorem frX5_wordOf (l0 : Int32) (h : Hp) : FrO wX5_wordOf h (fX5_wordOf l0 h) := by
  have c_h : Fr wX5_wordOf h h := Fr.rf
  unfold fX5_wordOf
  refine fro_if ?_ ?_
  ·
    exact fro_some c_h
  refine fro_if ?_ ?_
  ·
    exact fro_some c_h
  refine fro_if ?_ ?_
  ·
    exact fro_some c_h
  refine fro_if ?_ ?_
  ·
    exact fro_some c_h
  refine fro_if ?_ ?_
  ·
    exact fro_some c_h
  refine fro_if ?_ ?_
  ·
    exact fro_some c_h
  refine fro_if ?_ ?_
  ·
    exact fro_some c_h
  refine fro_if ?_ ?_
  ·
    exact fro_some c_h
  refine fro_if ?_ ?_
  ·
    exact fro_some c_h
  refine fro_if ?_ ?_
  ·
    exact fro_some c_h
  exact fro_some c_h
def wX5_headOf : List FE := []
set_option maxHeartbeats 4000000 in
theorem frX5_headOf_l54 (l3 : Int32) (K : Hp → Option (Int32 × Hp)) (h0 : Hp) (hK : ∀ (h : Hp), Fr wX5_headOf h0 h → FrO wX5_headOf h0 (K  h)) : ∀ (n : Nat) (l4 : Int32) (h : Hp), Fr wX5_headOf h0 h → FrO wX5_headOf h0 (itr1 (fX5_headOf_l54 l3 K) n l4 h) := by
  refine fro_itr1 ?_
  intro rec hrec l4 h c_h
  unfold fX5_headOf_l54
  refine fro_if ?_ ?_
  ·
    exact hK h c_h
  ·
    refine fro_bnd (frX5_wordOf l4 h) (fun _ a => a.pick [] rfl) c_h (fun x6 h5 c_h5 => ?_)
    refine fro_bnd (frX5_isWord x6 h5) (fun _ a => a.pick [] rfl) c_h5 (fun x8 h7 c_h7 => ?_)
    refine fro_if ?_ ?_
    ·
      refine fro_let (fun x9 => ?_)
      exact hrec x9 h7 c_h7
    ·
      exact fro_some c_h7
set_option maxHeartbeats 4000000 in
theorem frX5_headOf (l1 : Int32) (h : Hp) : FrO wX5_headOf h (fX5_headOf l1 h) := by
  have c_h : Fr wX5_headOf h h := Fr.rf
  unfold fX5_headOf
  refine fro_if ?_ ?_
  ·
    refine fro_jn (fun (k29_0 : Int32 → Hp → Option (Int32 × Hp)) => ∀ (z0_0 : Int32) (h2 : Hp), Fr wX5_headOf h h2 → FrO wX5_headOf h (k29_0 z0_0 h2)) (fun z0_0 h2 c_h2 => ?_) (fun k29_0 Hk29_0 => ?_)
    ·
      refine fro_jn (fun (k50_2 : Int32 → Hp → Option (Int32 × Hp)) => ∀ (z0_2 : Int32) (h4 : Hp), Fr wX5_headOf h h4 → FrO wX5_headOf h (k50_2 z0_2 h4)) (fun z0_2 h4 c_h4 => ?_) (fun k50_2 Hk50_2 => ?_)
      ·
        refine frX5_headOf_l54 z0_2 _ _ (fun h10 c_h10 => ?_) FU z0_0 h4 c_h4
        exact fro_some c_h10
      refine fro_if ?_ ?_
      ·
        exact Hk50_2 2 h2 c_h2
      ·
        refine fro_if ?_ ?_
        ·
          exact Hk50_2 7 h2 c_h2
        ·
          exact Hk50_2 10 h2 c_h2
    refine fro_if ?_ ?_
    ·
      exact Hk29_0 0 h c_h
    ·
      refine fro_if ?_ ?_
      ·
        exact Hk29_0 3 h c_h
      ·
        exact Hk29_0 8 h c_h
  ·
    exact fro_some c_h
def wX5_isFull : List FE := []
set_option maxHeartbeats 4000000 in
theorem frX5_isFull (l1 : Int32) (h : Hp) : FrO wX5_isFull h (fX5_isFull l1 h) := by
  have c_h : Fr wX5_isFull h h := Fr.rf
  unfold fX5_isFull
  refine fro_if ?_ ?_
  ·
    refine fro_ck ?_
    exact fro_some c_h
  refine fro_if ?_ ?_
  ·
    refine fro_ck ?_
    exact fro_some c_h
  refine fro_if ?_ ?_
  ·
    refine fro_if ?_ ?_
    ·
      refine fro_ck ?_
      exact fro_some c_h
    ·
      refine fro_ck ?_
      exact fro_some c_h
  refine fro_if ?_ ?_
  ·
    refine fro_if ?_ ?_
    ·
      refine fro_ck ?_
      exact fro_some c_h
    ·
      refine fro_ck ?_
      exact fro_some c_h
  refine fro_if ?_ ?_
  ·
    refine fro_if ?_ ?_
    ·
      refine fro_ck ?_
      exact fro_some c_h
    ·
      refine fro_ck ?_
      exact fro_some c_h
  refine fro_if ?_ ?_
  ·
    refine fro_if ?_ ?_
    ·
      refine fro_ck ?_
      exact fro_some c_h
    ·
      refine fro_ck ?_
      exact fro_some c_h
  refine fro_if ?_ ?_
  ·
    refine fro_if ?_ ?_
    ·
      refine fro_ck ?_
      exact fro_some c_h
    ·
      refine fro_ck ?_
      exact fro_some c_h
  refine fro_if ?_ ?_
  ·
    refine fro_if ?_ ?_
    ·
      refine fro_ck ?_
      exact fro_some c_h
    ·
      refine fro_ck ?_
      exact fro_some c_h
  refine fro_if ?_ ?_
  ·
    refine fro_ck ?_
    exact fro_some c_h
  refine fro_if ?_ ?_
  ·
    refine fro_if ?_ ?_
    ·
      refine fro_ck ?_
      exact fro_some c_h
    ·
      refine fro_ck ?_
      exact fro_some c_h
  refine fro_if ?_ ?_
  ·
    refine fro_if ?_ ?_
    ·
      refine fro_ck ?_
      exact fro_some c_h
    ·
      refine fro_ck ?_
      exact fro_some c_h
  refine fro_if ?_ ?_
  ·
    refine fro_ck ?_
    exact fro_some c_h
  ·
    refine fro_ck ?_
    exact fro_some c_h
def wX5_numberRead : List FE := []
set_option maxHeartbeats 4000000 in
theorem frX5_numberRead_l7 (K : Int32 → Hp → Option (Int32 × Hp)) (h0 : Hp) (hK : ∀ (y1 : Int32) (h : Hp), Fr wX5_numberRead h0 h → FrO wX5_numberRead h0 (K y1 h)) : ∀ (n : Nat) (l1 l2 : Int32) (h : Hp), Fr wX5_numberRead h0 h → FrO wX5_numberRead h0 (itr2 (fX5_numberRead_l7 K) n l1 l2 h) := by
  refine fro_itr2 ?_
  intro rec hrec l1 l2 h c_h
  unfold fX5_numberRead_l7
  refine fro_if ?_ ?_
  ·
    exact hK l1 h c_h
  ·
    refine fro_bnd (frX5_byteAt l2 h) (fun _ a => a.pick [] rfl) c_h (fun x3 h2 c_h2 => ?_)
    refine fro_let (fun x4 => ?_)
    refine fro_let (fun x5 => ?_)
    exact hrec x4 x5 h2 c_h2
set_option maxHeartbeats 4000000 in
theorem frX5_numberRead (h : Hp) : FrO wX5_numberRead h (fX5_numberRead h) := by
  have c_h : Fr wX5_numberRead h h := Fr.rf
  unfold fX5_numberRead
  refine fro_let (fun x1 => ?_)
  refine frX5_numberRead_l7 _ _ (fun y6 h7 c_h7 => ?_) FU 0 x1 h c_h
  exact fro_some c_h7
def wX5_numbersOf : List FE := []
set_option maxHeartbeats 4000000 in
theorem frX5_numbersOf (l0 : Int32) (h : Hp) : FrO wX5_numbersOf h (fX5_numbersOf l0 h) := by
  have c_h : Fr wX5_numbersOf h h := Fr.rf
  unfold fX5_numbersOf
  refine fro_if ?_ ?_
  ·
    exact fro_some c_h
  refine fro_if ?_ ?_
  ·
    exact fro_some c_h
  refine fro_if ?_ ?_
  ·
    exact fro_some c_h
  refine fro_if ?_ ?_
  ·
    exact fro_some c_h
  refine fro_if ?_ ?_
  ·
    exact fro_some c_h
  refine fro_if ?_ ?_
  ·
    exact fro_some c_h
  refine fro_if ?_ ?_
  ·
    exact fro_some c_h
  refine fro_if ?_ ?_
  ·
    exact fro_some c_h
  refine fro_if ?_ ?_
  ·
    exact fro_some c_h
  exact fro_some c_h
def wX5_refuse : List FE := [(3, some 0, some 3), (3, some 0, some 4)]
set_option maxHeartbeats 4000000 in
theorem frX5_refuse (h : Hp) : FrO wX5_refuse h (fX5_refuse h) := by
  have c_h : Fr wX5_refuse h h := Fr.rf
  unfold fX5_refuse
  refine fro_h (fr_wr 0 rfl) c_h (fun h1 c_h1 => ?_)
  refine fro_h (fr_wr 1 rfl) c_h1 (fun h2 c_h2 => ?_)
  refine fro_ck ?_
  exact fro_some c_h2
def wX3_add (a0 : Nat) : List FE := [(21, some (a0 % cnt 21), none), (22, some (a0 % cnt 22), none), (23, some (a0 % cnt 23), none), (1, some (a0 % cnt 1), some 1)]
set_option maxHeartbeats 4000000 in
theorem frX3_add (a0 : Nat) (l1 : Int32) (l2 : Int32) (l3 : Int32) (h : Hp) : FrO (wX3_add a0) h (fX3_add a0 l1 l2 l3 h) := by
  have c_h : Fr (wX3_add a0) h h := Fr.rf
  unfold fX3_add
  refine fro_if ?_ ?_
  ·
    refine fro_ck ?_
    refine fro_h (fr_wa 0 rfl) c_h (fun h1 c_h1 => ?_)
    refine fro_ck ?_
    refine fro_h (fr_wa 1 rfl) c_h1 (fun h2 c_h2 => ?_)
    refine fro_ck ?_
    refine fro_h (fr_wa 2 rfl) c_h2 (fun h3 c_h3 => ?_)
    refine fro_h (fr_wr 3 rfl) c_h3 (fun h4 c_h4 => ?_)
    exact fro_some c_h4
  ·
    exact fro_some c_h
def wX7_add (a0 : Nat) : List FE := [(31, some (a0 % cnt 31), none), (32, some (a0 % cnt 32), none), (5, some (a0 % cnt 5), some 0)]
set_option maxHeartbeats 4000000 in
theorem frX7_add (a0 : Nat) (l1 : Int32) (l2 : Int32) (h : Hp) : FrO (wX7_add a0) h (fX7_add a0 l1 l2 h) := by
  have c_h : Fr (wX7_add a0) h h := Fr.rf
  unfold fX7_add
  refine fro_if ?_ ?_
  ·
    refine fro_ck ?_
    refine fro_h (fr_wa 0 rfl) c_h (fun h1 c_h1 => ?_)
    refine fro_ck ?_
    refine fro_h (fr_wa 1 rfl) c_h1 (fun h2 c_h2 => ?_)
    refine fro_h (fr_wr 2 rfl) c_h2 (fun h3 c_h3 => ?_)
    exact fro_some c_h3
  ·
    exact fro_some c_h
def wX5_tell : List FE := [(6, some 8, some 0), (6, some 8, some 1), (33, some 8, none), (34, some 8, none), (35, some 8, none), (6, some 8, some 2), (31, some 8, none), (32, some 8, none), (5, some 8, some 0), (1, some 8, some 0), (21, some 8, none), (22, some 8, none), (23, some 8, none), (1, some 8, some 1)]
set_option maxHeartbeats 4000000 in
theorem frX5_tell (l1 : Int32) (h : Hp) : FrO wX5_tell h (fX5_tell l1 h) := by
  have c_h : Fr wX5_tell h h := Fr.rf
  unfold fX5_tell
  refine fro_if ?_ ?_
  ·
    refine fro_ck ?_
    refine fro_h (fr_wr 0 rfl) c_h (fun h2 c_h2 => ?_)
    exact fro_some c_h2
  refine fro_if ?_ ?_
  ·
    refine fro_ck ?_
    refine fro_h (fr_wr 1 rfl) c_h (fun h4 c_h4 => ?_)
    exact fro_some c_h4
  refine fro_if ?_ ?_
  ·
    refine fro_ck ?_
    refine fro_ck ?_
    refine fro_ck ?_
    refine fro_bnd (frX8_add 8 (ra h 26 0 0) (ra h 26 0 1) (ra h 26 0 2) h) (fun _ a => a.pick [2, 3, 4, 5] rfl) c_h (fun _ h6 c_h6 => ?_)
    exact fro_some c_h6
  refine fro_if ?_ ?_
  ·
    refine fro_bnd (frX7_add 8 0 (-1) h) (fun _ a => a.pick [6, 7, 8] rfl) c_h (fun _ h8 c_h8 => ?_)
    exact fro_some c_h8
  refine fro_if ?_ ?_
  ·
    refine fro_ck ?_
    refine fro_bnd (frX7_add 8 (l1 - (3 : Int32)) (ra h 26 0 0) h) (fun _ a => a.pick [6, 7, 8] rfl) c_h (fun _ h10 c_h10 => ?_)
    exact fro_some c_h10
  refine fro_if ?_ ?_
  ·
    refine fro_ck ?_
    refine fro_bnd (frX7_add 8 (l1 - (3 : Int32)) (ra h 26 0 0) h) (fun _ a => a.pick [6, 7, 8] rfl) c_h (fun _ h12 c_h12 => ?_)
    exact fro_some c_h12
  refine fro_if ?_ ?_
  ·
    refine fro_ck ?_
    refine fro_bnd (frX7_add 8 (l1 - (3 : Int32)) (ra h 26 0 0) h) (fun _ a => a.pick [6, 7, 8] rfl) c_h (fun _ h14 c_h14 => ?_)
    exact fro_some c_h14
  refine fro_if ?_ ?_
  ·
    refine fro_ck ?_
    refine fro_bnd (frX7_add 8 (l1 - (3 : Int32)) (ra h 26 0 0) h) (fun _ a => a.pick [6, 7, 8] rfl) c_h (fun _ h16 c_h16 => ?_)
    exact fro_some c_h16
  refine fro_if ?_ ?_
  ·
    refine fro_ck ?_
    refine fro_h (fr_wr 9 rfl) c_h (fun h18 c_h18 => ?_)
    exact fro_some c_h18
  refine fro_if ?_ ?_
  ·
    refine fro_ck ?_
    refine fro_ck ?_
    refine fro_bnd (frX3_add 8 1 (ra h 26 0 0) (ra h 26 0 1) h) (fun _ a => a.pick [10, 11, 12, 13] rfl) c_h (fun _ h20 c_h20 => ?_)
    exact fro_some c_h20
  refine fro_if ?_ ?_
  ·
    refine fro_ck ?_
    refine fro_ck ?_
    refine fro_bnd (frX3_add 8 0 (ra h 26 0 0) (ra h 26 0 1) h) (fun _ a => a.pick [10, 11, 12, 13] rfl) c_h (fun _ h22 c_h22 => ?_)
    exact fro_some c_h22
  refine fro_ck ?_
  refine fro_bnd (frX7_add 8 (l1 - (3 : Int32)) (ra h 26 0 0) h) (fun _ a => a.pick [6, 7, 8] rfl) c_h (fun _ h23 c_h23 => ?_)
  exact fro_some c_h23
def wX5_readLine : List FE := [(3, some 0, some 3), (3, some 0, some 4), (3, some 0, some 7), (3, some 0, some 9), (3, some 0, some 8), (26, some 0, none), (6, some 8, some 0), (6, some 8, some 1), (33, some 8, none), (34, some 8, none), (35, some 8, none), (6, some 8, some 2), (31, some 8, none), (32, some 8, none), (5, some 8, some 0), (1, some 8, some 0), (21, some 8, none), (22, some 8, none), (23, some 8, none), (1, some 8, some 1)]
set_option maxHeartbeats 4000000 in
theorem frX5_readLine_l31 (l2 : Int32) (K : Hp → Option (Int32 × Hp)) (h0 : Hp) (hK : ∀ (h : Hp), Fr wX5_readLine h0 h → FrO wX5_readLine h0 (K  h)) : ∀ (n : Nat) (l3 : Int32) (h : Hp), Fr wX5_readLine h0 h → FrO wX5_readLine h0 (itr1 (fX5_readLine_l31 l2 K) n l3 h) := by
  refine fro_itr1 ?_
  intro rec hrec l3 h c_h
  unfold fX5_readLine_l31
  refine fro_bnd (frX5_numbersOf l2 h) (fun _ a => a.pick [] rfl) c_h (fun x10 h9 c_h9 => ?_)
  refine fro_if ?_ ?_
  ·
    exact hK h9 c_h9
  ·
    refine fro_bnd (frX5_nextToken h9) (fun _ a => a.pick [2, 3, 4] rfl) c_h9 (fun _ h11 c_h11 => ?_)
    refine fro_if ?_ ?_
    ·
      refine fro_bnd (frX5_numberRead h11) (fun _ a => a.pick [] rfl) c_h11 (fun x13 h12 c_h12 => ?_)
      refine fro_ck ?_
      refine fro_h (fr_wa 5 rfl) c_h12 (fun h14 c_h14 => ?_)
      refine fro_bnd (frX5_canBe l2 l3 h14) (fun _ a => a.pick [] rfl) c_h14 (fun x16 h15 c_h15 => ?_)
      refine fro_jn (fun (k80_16 : Hp → Option (Int32 × Hp)) => ∀ (h18 : Hp), Fr wX5_readLine h0 h18 → FrO wX5_readLine h0 (k80_16 h18)) (fun h18 c_h18 => ?_) (fun k80_16 Hk80_16 => ?_)
      ·
        refine fro_let (fun x19 => ?_)
        exact hrec x19 h18 c_h18
      refine fro_if ?_ ?_
      ·
        refine fro_bnd (frX5_blame 2 h15) (fun _ a => a.pick [0, 1] rfl) c_h15 (fun _ h20 c_h20 => ?_)
        exact Hk80_16 h20 c_h20
      ·
        exact Hk80_16 h15 c_h15
    ·
      refine fro_bnd (frX5_refuse h11) (fun _ a => a.pick [0, 1] rfl) c_h11 (fun x22 h21 c_h21 => ?_)
      refine fro_ck ?_
      exact fro_some c_h21
set_option maxHeartbeats 4000000 in
theorem frX5_readLine (l1 : Int32) (h : Hp) : FrO wX5_readLine h (fX5_readLine l1 h) := by
  have c_h : Fr wX5_readLine h h := Fr.rf
  unfold fX5_readLine
  refine fro_bnd (frX5_headOf l1 h) (fun _ a => a.pick [] rfl) c_h (fun x2 h1 c_h1 => ?_)
  refine fro_if ?_ ?_
  ·
    refine fro_bnd (frX5_refuse h1) (fun _ a => a.pick [0, 1] rfl) c_h1 (fun x4 h3 c_h3 => ?_)
    refine fro_ck ?_
    exact fro_some c_h3
  ·
    refine fro_bnd (frX5_isFull x2 h1) (fun _ a => a.pick [] rfl) c_h1 (fun x6 h5 c_h5 => ?_)
    refine fro_jn (fun (k29_6 : Hp → Option (Int32 × Hp)) => ∀ (h8 : Hp), Fr wX5_readLine h h8 → FrO wX5_readLine h (k29_6 h8)) (fun h8 c_h8 => ?_) (fun k29_6 Hk29_6 => ?_)
    ·
      refine frX5_readLine_l31 x2 _ _ (fun h23 c_h23 => ?_) FU 0 h8 c_h8
      refine fro_bnd (frX5_nextToken h23) (fun _ a => a.pick [2, 3, 4] rfl) c_h23 (fun _ h24 c_h24 => ?_)
      refine fro_if ?_ ?_
      ·
        refine fro_bnd (frX5_tell x2 h24) (fun _ a => a.pick [6, 7, 8, 9, 10, 11, 12, 13, 14, 15, 16, 17, 18, 19] rfl) c_h24 (fun _ h25 c_h25 => ?_)
        refine fro_ck ?_
        exact fro_some c_h25
      ·
        refine fro_bnd (frX5_refuse h24) (fun _ a => a.pick [0, 1] rfl) c_h24 (fun x27 h26 c_h26 => ?_)
        refine fro_ck ?_
        exact fro_some c_h26
    refine fro_if ?_ ?_
    ·
      exact Hk29_6 h5 c_h5
    ·
      refine fro_bnd (frX5_blame 3 h5) (fun _ a => a.pick [0, 1] rfl) c_h5 (fun _ h28 c_h28 => ?_)
      exact Hk29_6 h28 c_h28
def wX8_clear (a0 : Nat) : List FE := [(6, some (a0 % cnt 6), some 0), (6, some (a0 % cnt 6), some 1), (6, some (a0 % cnt 6), some 2)]
set_option maxHeartbeats 4000000 in
theorem frX8_clear (a0 : Nat) (h : Hp) : FrO (wX8_clear a0) h (fX8_clear a0 h) := by
  have c_h : Fr (wX8_clear a0) h h := Fr.rf
  unfold fX8_clear
  refine fro_h (fr_wr 0 rfl) c_h (fun h1 c_h1 => ?_)
  refine fro_h (fr_wr 1 rfl) c_h1 (fun h2 c_h2 => ?_)
  refine fro_h (fr_wr 2 rfl) c_h2 (fun h3 c_h3 => ?_)
  exact fro_some c_h3
def wX5_readTape (a1 : Nat) : List FE := [(3, some 0, some 5), (3, some 0, some 6), (3, some 0, some 7), (3, some 0, some 3), (3, some 0, some 4), (6, some 8, some 0), (6, some 8, some 1), (6, some 8, some 2), (5, some 8, some 0), (1, some 8, some 0), (1, some 8, some 1), (3, some 0, some 9), (3, some 0, some 8), (26, some 0, none), (33, some 8, none), (34, some 8, none), (35, some 8, none), (31, some 8, none), (32, some 8, none), (21, some 8, none), (22, some 8, none), (23, some 8, none)]
set_option maxHeartbeats 4000000 in
theorem frX5_readTape_l63 (a1 : Nat) (l2 : Int32) (K : Hp → Option (Unit × Hp)) (h0 : Hp) (hK : ∀ (h : Hp), Fr (wX5_readTape a1) h0 h → FrO (wX5_readTape a1) h0 (K  h)) : ∀ (n : Nat) (l3 : Int32) (h : Hp), Fr (wX5_readTape a1) h0 h → FrO (wX5_readTape a1) h0 (itr1 (fX5_readTape_l63 l2 K) n l3 h) := by
  refine fro_itr1 ?_
  intro rec hrec l3 h c_h
  unfold fX5_readTape_l63
  refine fro_if ?_ ?_
  ·
    exact hK h c_h
  ·
    refine fro_bnd (frX5_nextToken h) (fun _ a => a.pick [2, 11, 12] rfl) c_h (fun _ h10 c_h10 => ?_)
    refine fro_if ?_ ?_
    ·
      exact fro_some c_h10
    ·
      refine fro_bnd (frX5_readLine l2 h10) (fun _ a => a.pick [3, 4, 2, 11, 12, 13, 5, 6, 14, 15, 16, 7, 17, 18, 8, 9, 19, 20, 21, 10] rfl) c_h10 (fun x12 h11 c_h11 => ?_)
      refine fro_if ?_ ?_
      ·
        exact fro_some c_h11
      ·
        refine fro_let (fun x13 => ?_)
        exact hrec x13 h11 c_h11
set_option maxHeartbeats 4000000 in
theorem frX5_readTape (a1 : Nat) (l2 : Int32) (h : Hp) : FrO (wX5_readTape a1) h (fX5_readTape a1 l2 h) := by
  have c_h : Fr (wX5_readTape a1) h h := Fr.rf
  unfold fX5_readTape
  refine fro_ck ?_
  refine fro_h (fr_wr 0 rfl) c_h (fun h1 c_h1 => ?_)
  refine fro_ck ?_
  refine fro_let (fun x2 => ?_)
  refine fro_h (fr_wr 1 rfl) c_h1 (fun h3 c_h3 => ?_)
  refine fro_h (fr_wr 2 rfl) c_h3 (fun h4 c_h4 => ?_)
  refine fro_h (fr_wr 3 rfl) c_h4 (fun h5 c_h5 => ?_)
  refine fro_h (fr_wr 4 rfl) c_h5 (fun h6 c_h6 => ?_)
  refine fro_bnd (frX8_clear 8 h6) (fun _ a => a.pick [5, 6, 7] rfl) c_h6 (fun _ h7 c_h7 => ?_)
  refine fro_h (fr_wr 8 rfl) c_h7 (fun h8 c_h8 => ?_)
  refine fro_bnd (frX3_clear 8 h8) (fun _ a => a.pick [9, 10] rfl) c_h8 (fun _ h9 c_h9 => ?_)
  refine frX5_readTape_l63 a1 l2 _ _ (fun h14 c_h14 => ?_) FU 0 h9 c_h9
  exact fro_some c_h14
def wX11_text : List FE := [(7, some 0, some 1), (7, some 0, some 2), (7, some 0, some 3), (3, some 0, some 5), (3, some 0, some 6), (3, some 0, some 7), (3, some 0, some 3), (3, some 0, some 4), (6, some 8, some 0), (6, some 8, some 1), (6, some 8, some 2), (5, some 8, some 0), (1, some 8, some 0), (1, some 8, some 1), (3, some 0, some 9), (3, some 0, some 8), (26, some 0, none), (33, some 8, none), (34, some 8, none), (35, some 8, none), (31, some 8, none), (32, some 8, none), (21, some 8, none), (22, some 8, none), (23, some 8, none), (6, none, none), (33, none, none), (34, none, none), (35, none, none), (5, none, none), (31, none, none), (32, none, none), (1, none, none), (21, none, none), (22, none, none), (23, none, none), (37, some 0, none)]
set_option maxHeartbeats 4000000 in
theorem frX11_text (l1 : Int32) (l2 : Int32) (h : Hp) : FrO wX11_text h (fX11_text l1 l2 h) := by
  have c_h : Fr wX11_text h h := Fr.rf
  unfold fX11_text
  refine fro_bnd (frX11_numberFor l1 l2 h) (fun _ a => a.pick [] rfl) c_h (fun x2 h1 c_h1 => ?_)
  refine fro_if ?_ ?_
  ·
    refine fro_h (fr_wr 0 rfl) c_h1 (fun h3 c_h3 => ?_)
    refine fro_h (fr_wr 1 rfl) c_h3 (fun h4 c_h4 => ?_)
    refine fro_h (fr_wr 2 rfl) c_h4 (fun h5 c_h5 => ?_)
    exact fro_some c_h5
  ·
    refine fro_bnd (frX5_readTape 0 l1 h1) (fun _ a => a.pick [3, 4, 5, 6, 7, 8, 9, 10, 11, 12, 13, 14, 15, 16, 17, 18, 19, 20, 21, 22, 23, 24] rfl) c_h1 (fun _ h6 c_h6 => ?_)
    refine fro_h (fr_wr 0 rfl) c_h6 (fun h7 c_h7 => ?_)
    refine fro_h (fr_wr 1 rfl) c_h7 (fun h8 c_h8 => ?_)
    refine fro_h (fr_wr 2 rfl) c_h8 (fun h9 c_h9 => ?_)
    refine fro_if ?_ ?_
    ·
      refine fro_bnd (frX11_takeRead l1 x2 h9) (fun _ a => a.wide (List.forall_mem_cons.mpr ⟨⟨_, List.mem_of_getElem? (i := 25) rfl, rfl, Or.inl rfl, Or.inl rfl⟩, (List.forall_mem_cons.mpr ⟨⟨_, List.mem_of_getElem? (i := 26) rfl, rfl, Or.inl rfl, Or.inl rfl⟩, (List.forall_mem_cons.mpr ⟨⟨_, List.mem_of_getElem? (i := 27) rfl, rfl, Or.inl rfl, Or.inl rfl⟩, (List.forall_mem_cons.mpr ⟨⟨_, List.mem_of_getElem? (i := 28) rfl, rfl, Or.inl rfl, Or.inl rfl⟩, (List.forall_mem_cons.mpr ⟨⟨_, List.mem_of_getElem? (i := 29) rfl, rfl, Or.inl rfl, Or.inl rfl⟩, (List.forall_mem_cons.mpr ⟨⟨_, List.mem_of_getElem? (i := 30) rfl, rfl, Or.inl rfl, Or.inl rfl⟩, (List.forall_mem_cons.mpr ⟨⟨_, List.mem_of_getElem? (i := 31) rfl, rfl, Or.inl rfl, Or.inl rfl⟩, (List.forall_mem_cons.mpr ⟨⟨_, List.mem_of_getElem? (i := 32) rfl, rfl, Or.inl rfl, Or.inl rfl⟩, (List.forall_mem_cons.mpr ⟨⟨_, List.mem_of_getElem? (i := 33) rfl, rfl, Or.inl rfl, Or.inl rfl⟩, (List.forall_mem_cons.mpr ⟨⟨_, List.mem_of_getElem? (i := 34) rfl, rfl, Or.inl rfl, Or.inl rfl⟩, (List.forall_mem_cons.mpr ⟨⟨_, List.mem_of_getElem? (i := 35) rfl, rfl, Or.inl rfl, Or.inl rfl⟩, (List.forall_mem_cons.mpr ⟨⟨_, List.mem_of_getElem? (i := 36) rfl, rfl, Or.inr rfl, Or.inr rfl⟩, (fun _ h => absurd h List.not_mem_nil)⟩)⟩)⟩)⟩)⟩)⟩)⟩)⟩)⟩)⟩)⟩)⟩)) c_h9 (fun _ h10 c_h10 => ?_)
      exact fro_some c_h10
    ·
      exact fro_some c_h9
