/-! THE CLAIM OUT OF ONE WALK OF THE LAW'S BODY. Your part is whole_start (and what it stands on); all else here is the same for every law, but numbers. -/
def R_law : String := "PlateRunnerLaw"
def lw_P (b : Addr) (xs : List Int32) (args : Array Value) (s : State) : Prop := args = #[.ref b] ∧ s.IntsAt b xs ∧ xs.length ≤ 3072 ∧ (Jvm.Cond.and given_1 narrow_1).before args s = true
def lw_Q (_ : Array Value) (s : State) (o : Outcome) (t : State) : Prop := o = .returned (some (.int 1)) ∧ Framed s o t [] 600000 7302250
def lw_Z (below : List Frame) (a : Array Value) (s : State) : State → Prop := fun t => ∃ o, t.status = .running ∧ Ended t below o ∧ lw_Q a s o t
/-- the law's own end, with 1 on the stack, nothing written that was there before, its room as the claim has it -/
theorem lw_ret {p : Program} {l : Launch} {e : Env} {s : State} {m : MethodId} {below : List Frame} {meth : Method} {c : Code} {b : Nat} (hx : p.tables.exec = Jvm.exec) (hb : c.code = code) (hr : meth.sig.returnType = ret) (hlocks : meth.locks = false) {pc : Nat} {H : Heap} {ls : Array Slot} (hdg : decode code pc = .ok (.ireturn, 1)) : W p l e room_1 s m #[Value.ref b] below meth c H [] 600000 7302250 (lw_Z below #[Value.ref b] s) (F0 m pc ls [.int 1]) := by
  intro T hT X
  obtain ⟨fs, hret, hrun, hended, hW, hframe⟩ := X.leave (v := some (.int 1)) (hlocks := hlocks) (fun h => by rw [hr] at h; cases h)
  have hmeth' : T.vm.method? m = some meth := X.method'
  refine ⟨T.setFrames fs, ?_, .returned (some (.int 1)), hrun, hended, rfl, ⟨_, rfl⟩, hW, hframe⟩
  jvm_step X.here [X.here.top, hx, hb, hdg, hmeth', hr, ret, narrow_b1]
  (try refine ⟨rfl, ?_⟩); (try refine ⟨rfl, ?_⟩)
  first | (intro acts; rw [hret _ acts rfl rfl rfl]) | rw [hret _ _ rfl rfl rfl]
  exact Steps.refl _
/-- what holds at the law's entry: the machine, the code, the tables' words (any of lw_tbl by 'hts w (by decide +kernel)'), the script of L ints xs at the cell b, what the Statement gives of the start (any of its parts by flat_of_before) -/
def lw_At (p : Program) (s : State) (m : MethodId) (meth : Method) (c : Code) (b L : Nat) (xs : Nat → Int32) : Prop :=
  p.tables.exec = Jvm.exec ∧ c.code = code ∧ meth.sig.returnType = ret ∧ c.maxLocals = 4 ∧ s.vm.findClass R_law = some m.cls ∧ (∀ w ∈ lw_tbl, w.before #[Value.ref b] s = true) ∧ va_X b L xs s s.heap ∧ b < s.heap.size ∧ meth.locks = false ∧ (Jvm.Cond.and given_1 narrow_1).before #[Value.ref b] s = true
/-! THE LAW'S WALK, over the two flat heaps -/
def LCx (g : GE) (p : Program) (s : State) (m : MethodId) (meth : Method) (c : Code) (bS L : Nat) (xs : Nat → Int32) : Prop :=
  lw_At p s m meth c bS L xs ∧ va_K g.2.2.1 vwCl (tysOf g) s ∧ Inj 0 g ∧ Inj 1 g ∧ Strs 0 g s ∧ Strs 1 g s ∧ (∀ x ∈ ids 0, ∀ y ∈ ids 1, g.1 x.1 x.2 ≠ g.1 y.1 y.2) ∧ (∀ x ∈ ids 0, s.heap.size ≤ g.1 x.1 x.2) ∧ (∀ x ∈ ids 1, s.heap.size ≤ g.1 x.1 x.2)
def LW (g : GE) (p : Program) (e : Env) (s : State) (m : MethodId) (below : List Frame) (meth : Method) (c : Code) (bS : Nat) (pc : Nat) (ls : List (Nat × Value)) (st : List Value) (hC hM : Hp) : Prop :=
  ∀ (H : Heap) (locs : List Loc) (lsA : Array Slot), va_P g.2.2.1 vwCl (wsOf 0 g hC) H → va_P g.2.2.1 vwCl (wsOf 1 g hM) H → va_S (fun q => s.heap.size ≤ q) s.heap H locs → lv_has lsA 4 ls → W p g.2.2.2.1 e room_1 s m #[Value.ref bS] below meth c H locs 186 273885 (lw_Z below #[Value.ref bS] s) (F0 m pc lsA st)
section LRows
variable {g : GE} {p : Program} {e : Env} {s : State} {m : MethodId} {below : List Frame} {meth : Method} {c : Code} {bS L : Nat} {xs : Nat → Int32} {pc : Nat} {ls : List (Nat × Value)} {st : List Value} {hC hM : Hp}
theorem l_aload_n (C : LCx g p s m meth c bS L xs) (j : Nat) {kk : Fin 4} {i x : Nat} (hd : decode code pc = .ok (.aload_n kk, 1)) (hi : (kk : Nat) = i) (hj : ls[j]? = some (i, .ref x)) (k : LW g p e s m below meth c bS (pc + 1) ls (.ref x :: st) hC hM) : LW g p e s m below meth c bS pc ls st hC hM := fun H locs lsA h0 h1 hS hl => lv_aload_n C.1.1 C.1.2.1 hd hi (lv_at hl j hj) (k H locs lsA h0 h1 hS hl)
theorem l_iload_n (C : LCx g p s m meth c bS L xs) (j : Nat) {kk : Fin 4} {i : Nat} {x : Int32} (hd : decode code pc = .ok (.iload_n kk, 1)) (hi : (kk : Nat) = i) (hj : ls[j]? = some (i, .int x)) (k : LW g p e s m below meth c bS (pc + 1) ls (.int x :: st) hC hM) : LW g p e s m below meth c bS pc ls st hC hM := fun H locs lsA h0 h1 hS hl => lv_iload_n C.1.1 C.1.2.1 hd hi (lv_at hl j hj) (k H locs lsA h0 h1 hS hl)
theorem l_iconst (C : LCx g p s m meth c bS L xs) {n : Int} {v : Int32} (hd : decode code pc = .ok (.iconst n, 1)) (hv : Int32.ofInt n = v) (k : LW g p e s m below meth c bS (pc + 1) ls (.int v :: st) hC hM) : LW g p e s m below meth c bS pc ls st hC hM := fun H locs lsA h0 h1 hS hl => lv_iconst C.1.1 C.1.2.1 hd hv (k H locs lsA h0 h1 hS hl)
theorem l_bipush (C : LCx g p s m meth c bS L xs) {n : Int} {v : Int32} (hd : decode code pc = .ok (.bipush n, 2)) (hv : (Int8.ofInt n).toInt32 = v) (k : LW g p e s m below meth c bS (pc + 2) ls (.int v :: st) hC hM) : LW g p e s m below meth c bS pc ls st hC hM := fun H locs lsA h0 h1 hS hl => lv_bipush C.1.1 C.1.2.1 hd hv (k H locs lsA h0 h1 hS hl)
theorem l_iadd (C : LCx g p s m meth c bS L xs) {x y : Int32} (hd : decode code pc = .ok (.iadd, 1)) (k : LW g p e s m below meth c bS (pc + 1) ls (.int (x + y) :: st) hC hM) : LW g p e s m below meth c bS pc ls (.int y :: .int x :: st) hC hM := fun H locs lsA h0 h1 hS hl => lv_iadd C.1.1 C.1.2.1 hd (k H locs lsA h0 h1 hS hl)
theorem l_isub (C : LCx g p s m meth c bS L xs) {x y : Int32} (hd : decode code pc = .ok (.isub, 1)) (k : LW g p e s m below meth c bS (pc + 1) ls (.int (x - y) :: st) hC hM) : LW g p e s m below meth c bS pc ls (.int y :: .int x :: st) hC hM := fun H locs lsA h0 h1 hS hl => lv_isub C.1.1 C.1.2.1 hd (k H locs lsA h0 h1 hS hl)
theorem l_iand (C : LCx g p s m meth c bS L xs) {x y : Int32} (hd : decode code pc = .ok (.iand, 1)) (k : LW g p e s m below meth c bS (pc + 1) ls (.int (x &&& y) :: st) hC hM) : LW g p e s m below meth c bS pc ls (.int y :: .int x :: st) hC hM := fun H locs lsA h0 h1 hS hl => lv_iand C.1.1 C.1.2.1 hd (k H locs lsA h0 h1 hS hl)
theorem l_goto (C : LCx g p s m meth c bS L xs) {off : Int} {tgt : Nat} (hd : decode code pc = .ok (.goto off, 3)) (ht : (pc : Int) + off = (tgt : Int)) (k : LW g p e s m below meth c bS tgt ls st hC hM) : LW g p e s m below meth c bS pc ls st hC hM := fun H locs lsA h0 h1 hS hl => lv_goto C.1.1 C.1.2.1 hd ht (k H locs lsA h0 h1 hS hl)
theorem l_eq (C : LCx g p s m meth c bS L xs) {x : Int32} {off : Int} {tgt : Nat} (hd : decode code pc = .ok (.if_icmp .eq off, 3)) (ht : (pc : Int) + off = (tgt : Int)) (k : LW g p e s m below meth c bS tgt ls st hC hM) : LW g p e s m below meth c bS pc ls (.int x :: .int x :: st) hC hM := fun H locs lsA h0 h1 hS hl => lv_icmp_eq C.1.1 C.1.2.1 hd ht (fun _ => k H locs lsA h0 h1 hS hl) (fun q => absurd rfl q)
theorem l_ifeqT (C : LCx g p s m meth c bS L xs) {x : Int32} {off : Int} {tgt : Nat} (hc : x = 0) (hd : decode code pc = .ok (.ifCond .eq off, 3)) (ht : (pc : Int) + off = (tgt : Int)) (k : LW g p e s m below meth c bS tgt ls st hC hM) : LW g p e s m below meth c bS pc ls (.int x :: st) hC hM := fun H locs lsA h0 h1 hS hl => lv_if_eq C.1.1 C.1.2.1 hd ht (fun _ => k H locs lsA h0 h1 hS hl) (fun q => absurd hc q)
theorem l_ifeqF (C : LCx g p s m meth c bS L xs) {x : Int32} {off : Int} {tgt : Nat} (hc : ¬ x = 0) (hd : decode code pc = .ok (.ifCond .eq off, 3)) (ht : (pc : Int) + off = (tgt : Int)) (k : LW g p e s m below meth c bS (pc + 3) ls st hC hM) : LW g p e s m below meth c bS pc ls (.int x :: st) hC hM := fun H locs lsA h0 h1 hS hl => lv_if_eq C.1.1 C.1.2.1 hd ht (fun q => absurd q hc) (fun _ => k H locs lsA h0 h1 hS hl)
theorem l_sld (C : LCx g p s m meth c bS L xs) (j : Nat) {x : Int32} (hx : x = nI j) (hj : j < L) (hL : L ≤ 3072) (hd : decode code pc = .ok (.iaload, 1)) (k : LW g p e s m below meth c bS (pc + 1) ls (.int (xs j) :: st) hC hM) : LW g p e s m below meth c bS pc ls (.int x :: .ref bS :: st) hC hM := by
  intro H locs lsA h0 h1 hS hl
  subst hx
  have hin : vp_in (nI j) L := vp_in_nI hj (by omega)
  obtain ⟨hx, hb, hr, hml, hown, hts, hX, hbl, hlocks, hgv⟩ := C.1
  refine va_sld hx hb hX hbl (Nat.not_le.mpr hbl) hS hin hd ?_
  rw [nI_clamp (by omega)]
  exact k H locs lsA h0 h1 hS hl
theorem l_slen (C : LCx g p s m meth c bS L xs) (hd : decode code pc = .ok (.arraylength, 1)) (k : LW g p e s m below meth c bS (pc + 1) ls (.int (nI L) :: st) hC hM) : LW g p e s m below meth c bS pc ls (.ref bS :: st) hC hM := by
  intro H locs lsA h0 h1 hS hl
  obtain ⟨hx, hb, hr, hml, hown, hts, hX, hbl, hlocks, hgv⟩ := C.1
  exact va_slen hx hb hX hbl (Nat.not_le.mpr hbl) hS hd (k H locs lsA h0 h1 hS hl)
theorem strs_at {u : Nat} {U : State} {H : Heap} {locs : List Loc} (h : Strs u g s) (hS : va_S (fun q => s.heap.size ≤ q) s.heap H locs) (hW : s.WarmedH U.vm) (hU : U.heap = H) : Strs u g U := by
  refine h.step (H := H) (locs := []) ⟨hS.1, fun q hq _ => hS.2.1 q hq (Nat.not_le.mpr hq), fun _ h => by cases h⟩ hW hU
theorem au_free {u : Nat} (hlo : ∀ x ∈ ids u, s.heap.size ≤ g.1 x.1 x.2) {q : Nat} (h : Au u g q) : s.heap.size ≤ q := by
  obtain ⟨x, hx, rfl⟩ := h
  exact hlo x hx
theorem keep_other {u v : Nat} {h : Hp} {H H1 : Heap} (hP : va_P g.2.2.1 vwCl (wsOf v g h) H) (hap : ∀ y ∈ ids v, ¬ Au u g (g.1 y.1 y.2)) (hk : ∀ q : Nat, q < H.size → ¬ Au u g q → H1[q]? = H[q]?) : va_P g.2.2.1 vwCl (wsOf v g h) H1 := by
  refine hP.kept (fun k q hq => ?_)
  have hlt := (hP k q hq).lt
  unfold wsOf at hq
  rw [List.getElem?_map] at hq
  cases hx : (ids v)[k]? with
  | none => rw [hx] at hq; cases hq
  | some x =>
    rw [hx] at hq
    cases hq
    exact hk _ hlt (hap x (List.mem_of_getElem? hx))
theorem l_call {u v : Nat} {hu hv hu1 : Hp} {M' : MI} {d' ix kd n : Nat} {As rest st0 : List Value} {r : Int32} {H : Heap} {locs : List Loc} {lsA : Array Slot} (C : LCx g p s m meth c bS L xs) (hI : Inj u g) (hSt : Strs u g s) (hlo : ∀ x ∈ ids u, s.heap.size ≤ g.1 x.1 x.2) (hap : ∀ y ∈ ids v, ¬ Au u g (g.1 y.1 y.2)) (hcnt : cnt kd = 1)
    (hM : Con cvi u g M' d' (rv g kd 0 :: As) hu (some (r, hu1))) (hvl : VL u R_law ix M' kd n) (hn : As.length = n) (hdd : d' ≤ 100) (hr : (rest.map fun v => v.category).sum ≤ 8) (hd : decode code pc = .ok (.invokevirtual ix, 3)) (hst : st0 = As.reverse ++ rv g kd 0 :: rest)
    (hP : va_P g.2.2.1 vwCl (wsOf u g hu) H) (hQ : va_P g.2.2.1 vwCl (wsOf v g hv) H) (hS : va_S (fun q => s.heap.size ≤ q) s.heap H locs) (hl : lv_has lsA 4 ls)
    (k : ∀ (H : Heap) (locs : List Loc), va_P g.2.2.1 vwCl (wsOf u g hu1) H → va_P g.2.2.1 vwCl (wsOf v g hv) H → va_S (fun q => s.heap.size ≤ q) s.heap H locs → W p g.2.2.2.1 e room_1 s m #[Value.ref bS] below meth c H locs 186 273885 (lw_Z below #[Value.ref bS] s) (F0 m (pc + 3) lsA (.int r :: rest))) :
    W p g.2.2.2.1 e room_1 s m #[Value.ref bS] below meth c H locs 186 273885 (lw_Z below #[Value.ref bS] s) (F0 m pc lsA st0) := by
  obtain ⟨⟨hx, hb, hrr, hml, hown, hts, hX, hbl, hlocks, hgv⟩, hK, -⟩ := C
  have htu : ∀ w ∈ UW, w.before #[Value.ref bS] s = true := fun w hw => hts w (UW_tbl hw)
  obtain ⟨hk, ⟨sl, hsl⟩, ⟨T, N, hcl⟩, ⟨m1, m2, m3, m4, m5, m6⟩, hlk, hin, hse⟩ := hvl
  obtain ⟨q0, hi, hq⟩ := ws_at (g := g) (h := hu) hk (Nat.mod_lt 0 (cnt_pos kd))
  rw [cellOf_obj hsl] at hq
  have hcb : CallB room_1 s #[Value.ref bS] R_law ix M'.1 M'.2.1 M'.2.2.1 M'.2.2.2 (Cond.code M'.1 M'.2.1 M'.2.2.1 M'.2.2.2 :: UW) (rm d') 0 0 n := callB_of n htu (fun w hw => by
    rcases List.mem_cons.mp hw with rfl | hw
    · exact ⟨m5, UW_good m5⟩
    · exact ⟨hw, UW_good hw⟩) rfl rfl rfl (htu _ m6) (htu _ hlk) ⟨m1, m2, m3⟩ ⟨by show d' + 1 ≤ 2048; omega, by show 8 + (M'.2.2.1 + 11) + 64 * d' ≤ 84000; omega⟩
  have hrun := va_runV (p := p) (e := e) (below := below) (meth := meth) (locs := locs) (cells := 186) (slots := 273885) (As := As) (rest := rest) (b := g.1 kd (0 % cnt kd)) (Ts := UW) (g := F0 m pc lsA st0) (cc := code) (nL := 4) ⟨hx, hb, hml, hown, htu⟩ (hM r hu1 rfl) ⟨hcb, htu _ hin, htu _ hse⟩ ⟨bef_blind _ u g hu, va_recv hK hP hcl hq, fun U hU hW => ⟨rfl, by rw [hU]; exact hP, va_K.moved hW.alike hK, hI, strs_at hSt hS hW hU⟩⟩ rfl hn hl.1 hst (by show 2 * 0 + _ ≤ 8; omega) hd ⟨Nat.le_of_ble_eq_true rfl, Nat.le_of_ble_eq_true rfl⟩
  intro T0 hT X
  obtain ⟨v0, st₀, t, T', Lc, h0, X', hL, e1, e2, ⟨hv0, hPt, hz, hkk⟩, stp⟩ := hrun T0 hT X
  have hv0 : v0 = cvi r := by injection hv0
  subst hv0
  rw [h0] at hz hkk
  obtain ⟨t2, a1, b1⟩ := k T'.heap (locs ++ Lc) (by rw [e1]; exact hPt) (by rw [e1]; exact keep_other hQ hap hkk)
    ⟨Nat.le_trans hS.1 (by rw [e1]; exact hz), fun q h1 h2 => by rw [e1, hkk q (Nat.lt_of_lt_of_le h1 hS.1) (fun z => h2 (au_free hlo z))]; exact hS.2.1 q h1 h2, fun q hq => by
      rcases List.mem_append.mp hq with h | h
      · exact hS.2.2 q h
      · exact au_free hlo (hL q h)⟩ T' rfl X'
  exact ⟨t2, stp t2 a1, b1⟩
theorem l_callC {hC1 : Hp} {M' : MI} {d' ix n : Nat} {As rest st0 : List Value} {r : Int32} {hM' : Hp} (C : LCx g p s m meth c bS L xs) (hM : Con cvi 0 g M' d' (rv g 9 0 :: As) hC (some (r, hC1))) (hvl : VL 0 R_law ix M' 9 n) (hn : As.length = n) (hdd : d' ≤ 100) (hr : (rest.map fun v => v.category).sum ≤ 8) (hd : decode code pc = .ok (.invokevirtual ix, 3)) (hst : st0 = As.reverse ++ rv g 9 0 :: rest) (k : LW g p e s m below meth c bS (pc + 3) ls (.int r :: rest) hC1 hM') : LW g p e s m below meth c bS pc ls st0 hC hM' :=
  fun H locs lsA h0 h1 hS hl => l_call (u := 0) (v := 1) C C.2.2.1 C.2.2.2.2.1 C.2.2.2.2.2.2.2.1 (fun y hy hz => by obtain ⟨x, hx, he⟩ := hz; exact C.2.2.2.2.2.2.1 x hx y hy he.symm) rfl hM hvl hn hdd hr hd hst h0 h1 hS hl (fun H locs hP hQ hS => k H locs lsA hP hQ hS hl)
theorem l_callM {hM1 : Hp} {M' : MI} {d' ix n : Nat} {As rest st0 : List Value} {r : Int32} (C : LCx g p s m meth c bS L xs) (hMc : Con cvi 1 g M' d' (rv g 10 0 :: As) hM (some (r, hM1))) (hvl : VL 1 R_law ix M' 10 n) (hn : As.length = n) (hdd : d' ≤ 100) (hr : (rest.map fun v => v.category).sum ≤ 8) (hd : decode code pc = .ok (.invokevirtual ix, 3)) (hst : st0 = As.reverse ++ rv g 10 0 :: rest) (k : LW g p e s m below meth c bS (pc + 3) ls (.int r :: rest) hC hM1) : LW g p e s m below meth c bS pc ls st0 hC hM :=
  fun H locs lsA h0 h1 hS hl => l_call (u := 1) (v := 0) C C.2.2.2.1 C.2.2.2.2.2.1 C.2.2.2.2.2.2.2.2 (fun y hy hz => by obtain ⟨x, hx, he⟩ := hz; exact C.2.2.2.2.2.2.1 y hy x hx he) rfl hMc hvl hn hdd hr hd hst h1 h0 hS hl (fun H locs hP hQ hS => k H locs lsA hQ hP hS hl)
end LRows
