/-! FROM THE ENTRY: the two objects are made, then the loop -/
theorem au_conv {b : Nat} {gg : (Nat → ClassId) × va_G × Launch × (Nat → Nat) × (Nat → Nat)} {u : Nat} {h : Hp} (hiw : ∀ x ∈ ids u, IW b (adB b, gg) h x.1 x.2) {D : va_G} {H : Heap} (hP : va_P D vwCl (wz b (blkPlateRunner (adB b, gg) b ++ blkModel (adB b, gg) (b + 160))) H) : va_P D vwCl (wsOf u (adB b, gg) h) H := by
  intro k q hq
  unfold wsOf at hq
  rw [List.getElem?_map] at hq
  cases hx : (ids u)[k]? with
  | none => rw [hx] at hq; cases hq
  | some x =>
    rw [hx] at hq
    cases hq
    obtain ⟨j, e1, ee, e2, e3⟩ := hiw x (List.mem_of_getElem? hx)
    have h1 := hP j _ (wz_at e2)
    have h2 := e3 D H h1
    show va_at D vwCl ((adB b, gg).1 x.1 x.2, cellOf (adB b, gg) h x.1 x.2) H
    rw [e1]
    exact h2
theorem adB_inj : (∀ x ∈ ids 0, ∀ y ∈ ids 0, (offT.getD x.1 []).getD x.2 0 = (offT.getD y.1 []).getD y.2 0 → x = y) ∧ (∀ x ∈ ids 1, ∀ y ∈ ids 1, (offT.getD x.1 []).getD x.2 0 = (offT.getD y.1 []).getD y.2 0 → x = y) ∧ (∀ x ∈ ids 0, ∀ y ∈ ids 1, (offT.getD x.1 []).getD x.2 0 ≠ (offT.getD y.1 []).getD y.2 0) := by
  refine ⟨?_, ?_, ?_⟩ <;> decide +kernel
section LMake
variable {g : GE} {p : Program} {e : Env} {s : State} {m : MethodId} {below : List Frame} {meth : Method} {c : Code} {bS L : Nat} {xs : Nat → Int32}
/-- the law makes an object: new, dup, invokespecial -/
theorem l_make {B pc ix ix2 ci N d' mc' ms' k n : Nat} {Co : String} {T0 : u_T} {ty0 : Nat → FieldType} {fs : List Value} {pre : List va_E} {M' : MI} {blk : Nat → List va_E} {rest : List Value} {H : Heap} {locs : List Loc} {lsA : Array Slot} {ls : List (Nat × Value)} (C0 : lw_At p s m meth c bS L xs) (hK : va_K g.2.2.1 vwCl (tysOf g) s) (hNX : NX s) (hc : CLK ci Co T0 N ty0) (_ : pc ≤ pc) (h1 : Cond.classLink R_law ix Co ∈ lw_tbl) (h2 : Cond.instantiable Co N ∈ lw_tbl) (h3 : Cond.initialized Co ∈ lw_tbl) (hfs : ∀ i, i < N → defaultValue (ty0 i) = vp_V fs i) (hcl : M'.1.cls = Co)
    (hP : va_P g.2.2.1 vwCl (wz B pre) H) (hz : H.size = B + pre.length) (hS : va_S (fun q => B ≤ q) s.heap H locs) (hk : k + 1 ≤ 600000) (hns : n + N ≤ 7302250) (hd : decode code pc = .ok (.new ix, 3)) (hd2 : decode code (pc + 3) = .ok (.dup, 1)) (hrest : rest = []) (hM : ConN g M' d' mc' ms' (.inr (ci, fs)) blk) (hm : MD M' 0) (hnm : M'.1.name = "<init>") (hrt : M'.2.2.2 = none) (hlk : Cond.methodLink R_law ix2 M'.1 ∈ lw_tbl) (hin : Cond.instanceMethod M'.1 ∈ lw_tbl) (hdd : d' ≤ 100) (hk2 : k + 1 + mc' ≤ 600000) (hns2 : n + N + ms' ≤ 7302250) (hr : (([.ref (B + pre.length)] : List Value).map fun v => v.category).sum ≤ 8) (hl : lv_has lsA 4 ls) (hd3 : decode code (pc + 3 + 1) = .ok (.invokespecial ix2, 3)) (hBs : B ≤ s.heap.size)
    (kk : ∀ (H1 : Heap) (locs1 : List Loc), va_P g.2.2.1 vwCl (wz B (pre ++ blk (B + pre.length))) H1 → H1.size = B + (pre ++ blk (B + pre.length)).length → va_S (fun q => B ≤ q) s.heap H1 locs1 → W p g.2.2.2.1 e room_1 s m #[Value.ref bS] below meth c H1 locs1 (k + 1 + mc') (n + N + ms') (lw_Z below #[Value.ref bS] s) (F0 m (pc + 3 + 1 + 3) lsA [.ref (B + pre.length)])) :
    W p g.2.2.2.1 e room_1 s m #[Value.ref bS] below meth c H locs k n (lw_Z below #[Value.ref bS] s) (F0 m pc lsA []) := by
  obtain ⟨hx, hb, hrr, hml, hown, hts, hX, hbl, hlocks, hgv⟩ := C0
  have htu : ∀ w ∈ UW, w.before #[Value.ref bS] s = true := fun w hw => hts w (UW_tbl hw)
  have hKn := hK.1 ci _ hc.1
  refine W.newcK hx hb hown (hts _ h1) (hts _ h2) (hts _ h3) rfl hd hk hns hKn.2.1 rfl fun H1 kC hkC e1 z1 o1 => ?_
  have hk3 : ∀ (k : Nat) (x : Nat × va_E), (wz B pre)[k]? = some x → H1[x.1]? = H[x.1]? := fun k x hx => o1 x.1 ((hP k x hx).lt)
  have hP1 : va_P g.2.2.1 vwCl (wz B pre ++ [(H.size, .inr (ci, fs))]) H1 := (hP.kept hk3).app (fun k x hx => by
    have hz0 : k < 1 := (List.getElem?_eq_some_iff.mp hx).1
    rw [show k = 0 by omega] at hx
    cases hx
    exact ⟨_, hc.1, (u_born ty0 htu hc.2.1 hKn hkC e1 hc.2.2.1).to hfs⟩)
  rw [hz, wz_push] at hP1
  have hS1 : va_S (fun q => B ≤ q) s.heap H1 locs := ⟨Nat.le_trans hS.1 (by omega), fun x h1 h2 => (o1 x (Nat.lt_of_lt_of_le h1 hS.1)).trans (hS.2.1 x h1 h2), hS.2.2⟩
  have hz1 : H1.size = B + (pre ++ [(.inr (ci, fs) : va_E)]).length := by rw [z1, hz]; simp; omega
  refine W.eq (g2 := F0 m (pc + 3) lsA [.ref (B + pre.length)]) (by rw [hz]) ?_
  refine lv_dup hx hb hd2 rfl ?_
  obtain ⟨m1, m2, m3, m4, m5, m6⟩ := hm
  have hfr : FrameBlind (va_Pc [.ref (B + pre.length)] (BefN g B (pre ++ [.inr (ci, fs)]))) := by
    intro a0 U fr mk q
    obtain ⟨q0, qP, qz, qK, qX⟩ := q
    exact ⟨q0, qP, qz, va_K.moved (u := U) (U := U.calling fr mk a0) (Vm.Alike.refl U.vm) qK, qX.same rfl⟩
  have hPre : PreS s H1 (va_Pc [.ref (B + pre.length)] (BefN g B (pre ++ [.inr (ci, fs)]))) (.ref (B + pre.length) :: []) := ⟨hfr, fun U hU hW => ⟨rfl, by rw [hU]; exact hP1, by rw [hU, hz1], va_K.moved hW.alike hK, hNX.warm hW⟩⟩
  have hcb : CallB room_1 s #[Value.ref bS] R_law ix2 M'.1 M'.2.1 M'.2.2.1 none (Cond.code M'.1 M'.2.1 M'.2.2.1 M'.2.2.2 :: UW) (rmn d' mc' ms') mc' ms' 0 := callB_of 0 htu (fun w hw => by
    rcases List.mem_cons.mp hw with rfl | hw
    · exact ⟨m5, UW_good m5⟩
    · exact ⟨hw, UW_good hw⟩) (by rw [hrt]) rfl rfl (htu _ m6) (hts _ hlk) ⟨m1, m2, m3⟩ ⟨by show d' + 1 ≤ 2048; omega, by show 8 + (M'.2.2.1 + 11) + 64 * d' ≤ 84000; omega⟩
  have hrun := va_runI (p := p) (e := e) (below := below) (meth := meth) (locs := locs) (cells := k + 1) (slots := n + N) (As := []) (rest := [.ref (B + pre.length)]) (b := B + pre.length) (Ts := UW) (cc := code) (nL := 4) (g := F0 m (pc + 3 + 1) lsA [.ref (B + pre.length), .ref (B + pre.length)]) ⟨hx, hb, hml, hown, htu⟩ (hM B pre) ⟨hcb, hnm, hts _ hin⟩ hPre rfl rfl hl.1 rfl (by show 2 * 0 + _ ≤ 8; omega) hd3 ⟨hk2, hns2⟩
  intro T hT X
  obtain ⟨v, st₀, t, T', Lc, h0, X', hL, e1', e2, ⟨hv, hPt, hzt, hz2, hkk⟩, stp⟩ := hrun T hT X
  have hv : v = none := by injection hv
  subst hv
  rw [h0] at hz2 hkk
  obtain ⟨t2, a1, b1⟩ := kk T'.heap (locs ++ Lc) (by rw [e1']; exact hPt) (by rw [e1']; exact hzt)
    ⟨Nat.le_trans hS1.1 (by rw [e1']; exact hz2), fun q h1 h2 => by rw [e1', hkk q (Nat.lt_of_lt_of_le h1 hS1.1) h2]; exact hS1.2.1 q h1 h2, fun q hq => by
      rcases List.mem_append.mp hq with h | h
      · exact hS1.2.2 q h
      · exact hL q h⟩ T' rfl X'
  exact ⟨t2, stp t2 a1, b1⟩
end LMake
