/-! CONSTRUCTORS: cells in a row from address b on; pre stands already, cur is being made, its j-th at a + j -/
def wz (b : Nat) (cs : List va_E) : va_W := cs.mapIdx fun i e => (b + i, e)
theorem wz_get (b : Nat) (cs : List va_E) (i : Nat) : (wz b cs)[i]? = (cs[i]?).map fun e => (b + i, e) := by
  unfold wz; rw [List.getElem?_mapIdx]
theorem wz_at {b : Nat} {cs : List va_E} {i : Nat} {e : va_E} (h : cs[i]? = some e) : (wz b cs)[i]? = some (b + i, e) := by rw [wz_get, h]; rfl
theorem wz_set (b : Nat) (cs : List va_E) (i : Nat) (e : va_E) : (wz b cs).set i (b + i, e) = wz b (cs.set i e) := by
  apply List.ext_getElem?
  intro j
  rw [wz_get]
  by_cases hj : j = i
  · subst hj
    by_cases hl : j < cs.length
    · rw [List.getElem?_set_self (by unfold wz; rw [List.length_mapIdx]; exact hl), List.getElem?_set_self hl]; rfl
    · rw [List.getElem?_eq_none (by unfold wz; rw [List.length_set, List.length_mapIdx]; omega), List.getElem?_eq_none (by rw [List.length_set]; omega)]; rfl
  · rw [List.getElem?_set_ne (Ne.symm hj), wz_get, List.getElem?_set_ne (Ne.symm hj)]
theorem wz_push (b : Nat) (cs : List va_E) (e : va_E) : wz b cs ++ [(b + cs.length, e)] = wz b (cs ++ [e]) := by
  unfold wz; rw [List.mapIdx_append]; simp
theorem wz_D (b : Nat) (cs : List va_E) : va_D (fun q => b ≤ q) (wz b cs) := by
  have key : ∀ (k : Nat) (q : Nat × va_E), (wz b cs)[k]? = some q → q.1 = b + k := by
    intro k q hq
    rw [wz_get] at hq
    cases hc : cs[k]? with
    | none => rw [hc] at hq; cases hq
    | some e => rw [hc] at hq; cases hq; rfl
  refine ⟨fun i j p q hi hj hpq => ?_, fun k q hk => ?_⟩
  · have h1 := key i p hi
    have h2 := key j q hj
    omega
  · have h1 := key k q hk
    show b ≤ q.1
    omega
def nestL : List (String × Nat × MethodName) := [(RX9, 47, yX8_init), (RX9, 48, yX7_init), (RX9, 49, yX3_init), (RX11, 26, yX5_init), (RX5, 11, yX8_init), (RX5, 20, yX7_init), (RX5, 27, yX3_init), (RX11, 33, yX4_init), (RX4, 11, yX8_init), (RX11, 40, yX10_init), (RX10, 11, yX2_init), (RX2, 11, yX8_init), (RX10, 20, yX8_init), (RX11, 52, yX6_init)]
def NX (s : State) : Prop := (∀ q ∈ nestL, va_Nw (.methodLinkNest q.1 q.2.1 q.2.2 "PlateRunner") s) ∧ (va_AO RX8 s ∧ va_AO RX7 s ∧ va_AO RX3 s ∧ va_AO RX9 s)
theorem NX.warm {s U : State} (hW : s.WarmedH U.vm) (h : NX s) : NX U := ⟨fun q hq => (h.1 q hq).warmM hW, h.2.1.moved hW.alike, h.2.2.1.moved hW.alike, h.2.2.2.1.moved hW.alike, h.2.2.2.2.moved hW.alike⟩
theorem NX.same {U V : State} (hv : V.vm = U.vm) (h : NX U) : NX V := ⟨fun q hq => (h.1 q hq).same rfl hv.symm, h.2.1.moved (by rw [hv]; exact Vm.Alike.refl U.vm), h.2.2.1.moved (by rw [hv]; exact Vm.Alike.refl U.vm), h.2.2.2.1.moved (by rw [hv]; exact Vm.Alike.refl U.vm), h.2.2.2.2.moved (by rw [hv]; exact Vm.Alike.refl U.vm)⟩
def rmn (d mc ms : Nat) : Room := { frames := d, cells := mc, slots := ms, locals := 64 * d }
def NCx (g : GE) (M : MI) (p : Program) (s : State) (m : MethodId) (args : Array Value) (meth : Method) (c : Code) : Prop :=
  p.tables.exec = Jvm.exec ∧ c.code = M.2.1 ∧ meth.sig.returnType = none ∧ c.maxLocals = M.2.2.1 ∧ s.vm.findClass M.1.cls = some m.cls ∧ (∀ w ∈ UW, w.before args s = true) ∧ va_K g.2.2.1 vwCl (tysOf g) s ∧ meth.locks = false ∧ meth.name = "<init>" ∧ NX s
def QN (g : GE) (b : Nat) (cs : List va_E) : Array Value → State → Outcome → State → Prop := fun _ st oc t => oc = .returned none ∧ va_P g.2.2.1 vwCl (wz b cs) t.heap ∧ t.heap.size = b + cs.length ∧ va_F (fun q => b ≤ q) st t
def NSim (g : GE) (M : MI) (d mc ms pc : Nat) (ls : List (Nat × Value)) (st : List Value) (a b : Nat) (pre cur : List va_E) (k n : Nat) (fin : List va_E) : Prop :=
  ∀ (p : Program) (e : Env) (s : State) (m : MethodId) (args : Array Value) (below : List Frame) (meth : Method) (c : Code) (H : Heap) (locs : List Loc) (lsA : Array Slot), NCx g M p s m args meth c → a = b + pre.length → b ≤ s.heap.size → va_P g.2.2.1 vwCl (wz b (pre ++ cur)) H → H.size = b + (pre ++ cur).length → va_S (fun q => b ≤ q) s.heap H locs → lv_has lsA M.2.2.1 ls → W p g.2.2.2.1 e (rmn d mc ms) s m args below meth c H locs k n (MQ below (QN g b (pre ++ fin)) args s mc ms (fun q => b ≤ q)) (F0 m pc lsA st)
def BefN (g : GE) (b : Nat) (cs : List va_E) : State → Prop := fun U => va_P g.2.2.1 vwCl (wz b cs) U.heap ∧ U.heap.size = b + cs.length ∧ va_K g.2.2.1 vwCl (tysOf g) U ∧ NX U
def ConN (g : GE) (M : MI) (d mc ms : Nat) (dflt : va_E) (blk : Nat → List va_E) : Prop := ∀ (b : Nat) (pre : List va_E), Met g.2.2.2.1 M.1 (Cond.code M.1 M.2.1 M.2.2.1 M.2.2.2 :: UW) (rmn d mc ms) (va_Pc [.ref (b + pre.length)] (BefN g b (pre ++ [dflt]))) (QN g b (pre ++ blk (b + pre.length))) mc ms (fun q => b ≤ q)
theorem ConN.of {g : GE} {M : MI} {d mc ms : Nat} {dflt : va_E} {blk : Nat → List va_E} (hr : M.2.2.2 = none) (hnm : M.1.name = "<init>") (hy : plainName M.1.cls = true) (hn : 1 ≤ M.2.2.1) (hs : ∀ a b pre, NSim g M d mc ms 0 [(0, .ref a)] [] a b pre [dflt] 0 0 (blk a)) : ConN g M d mc ms dflt blk := by
  intro b pre
  refine Met.ofW (cc := M.2.1) (maxL := M.2.2.1) (ret := M.2.2.2) hy rfl ?_
  intro p e s m args below meth c s₁ B hml hv
  obtain ⟨rfl, hP, hsz, hK, hX⟩ := hv
  have hts := atoms_spec (ws := Cond.code M.1 M.2.1 M.2.2.1 M.2.2.2 :: UW) B.pre
  have hown : s.vm.findClass M.1.cls = some m.cls := findClass_of_methodNamed B.named
  have hin : meth.name = "<init>" := (name_of_methodNamed B.named B.method).1.trans hnm
  have hl := lv_entry [.ref (b + pre.length)] (n := M.2.2.1) hn
  rw [lg_entry_eq]
  exact hs (b + pre.length) b pre p e s m _ below meth c s.heap [] _ ⟨B.exec, B.bytes, B.returns.trans hr, hml, hown, fun w hw => hts w (List.mem_cons_of_mem _ hw), hK, B.notSynchronized, hin, hX⟩ rfl (by omega) hP hsz va_S.rf hl
theorem pc_get {pre cur : List va_E} {j : Nat} {e : va_E} (h : cur[j]? = some e) : (pre ++ cur)[pre.length + j]? = some e := by
  rw [List.getElem?_append_right (by omega)]; rw [show pre.length + j - pre.length = j by omega]; exact h
theorem pc_set (pre cur : List va_E) (j : Nat) (e : va_E) : (pre ++ cur).set (pre.length + j) e = pre ++ cur.set j e := by
  rw [List.set_append_right _ _ (by omega)]; rw [show pre.length + j - pre.length = j by omega]
section NRows
variable {g : GE} {M : MI} {d mc ms pc : Nat} {ls : List (Nat × Value)} {st : List Value} {a b : Nat} {pre cur : List va_E} {k n : Nat} {fin : List va_E}
theorem n_iconst {z : Int} {v : Int32} (hd : decode M.2.1 pc = .ok (.iconst z, 1)) (hv : Int32.ofInt z = v) (kk : NSim g M d mc ms (pc + 1) ls (.int v :: st) a b pre cur k n fin) : NSim g M d mc ms pc ls (st) a b pre cur k n fin := by
  intro p e s m args below meth c H locs lsA C ha hb hP hz hS hl
  exact lv_iconst C.1 C.2.1 hd hv (kk p e s m args below meth c H locs lsA C ha hb hP hz hS hl)
theorem n_bipush {z : Int} {v : Int32} (hd : decode M.2.1 pc = .ok (.bipush z, 2)) (hv : (Int8.ofInt z).toInt32 = v) (kk : NSim g M d mc ms (pc + 2) ls (.int v :: st) a b pre cur k n fin) : NSim g M d mc ms pc ls (st) a b pre cur k n fin := by
  intro p e s m args below meth c H locs lsA C ha hb hP hz hS hl
  exact lv_bipush C.1 C.2.1 hd hv (kk p e s m args below meth c H locs lsA C ha hb hP hz hS hl)
theorem n_sipush {z : Int} {v : Int32} (hd : decode M.2.1 pc = .ok (.sipush z, 3)) (hv : (Int16.ofInt z).toInt32 = v) (kk : NSim g M d mc ms (pc + 3) ls (.int v :: st) a b pre cur k n fin) : NSim g M d mc ms pc ls (st) a b pre cur k n fin := by
  intro p e s m args below meth c H locs lsA C ha hb hP hz hS hl
  exact lv_sipush C.1 C.2.1 hd hv (kk p e s m args below meth c H locs lsA C ha hb hP hz hS hl)
theorem n_ldc {ix : Nat} {v : Int32} (hd : decode M.2.1 pc = .ok (.ldc ix, 2)) (hw : Cond.constant M.1.cls ix v ∈ UW) (kk : NSim g M d mc ms (pc + 2) ls (.int v :: st) a b pre cur k n fin) : NSim g M d mc ms pc ls (st) a b pre cur k n fin := by
  intro p e s m args below meth c H locs lsA C ha hb hP hz hS hl
  exact lv_ldc C.1 C.2.1 C.2.2.2.2.1 (C.2.2.2.2.2.1 _ hw) hd (kk p e s m args below meth c H locs lsA C ha hb hP hz hS hl)
theorem n_dup {v : Value} (hd : decode M.2.1 pc = .ok (.dup, 1)) (hc : v.category = 1) (kk : NSim g M d mc ms (pc + 1) ls (v :: v :: st) a b pre cur k n fin) : NSim g M d mc ms pc ls (v :: st) a b pre cur k n fin := by
  intro p e s m args below meth c H locs lsA C ha hb hP hz hS hl
  exact lv_dup C.1 C.2.1 hd hc (kk p e s m args below meth c H locs lsA C ha hb hP hz hS hl)
theorem n_iload_n (j : Nat) {kx : Fin 4} {i : Nat} {x : Int32} (hd : decode M.2.1 pc = .ok (.iload_n kx, 1)) (hi : (kx : Nat) = i) (hj : ls[j]? = some (i, .int x)) (kk : NSim g M d mc ms (pc + 1) ls (.int x :: st) a b pre cur k n fin) : NSim g M d mc ms pc ls (st) a b pre cur k n fin := by
  intro p e s m args below meth c H locs lsA C ha hb hP hz hS hl
  exact lv_iload_n C.1 C.2.1 hd hi (lv_at hl j hj) (kk p e s m args below meth c H locs lsA C ha hb hP hz hS hl)
theorem n_aload_n (j : Nat) {kx : Fin 4} {i : Nat} {x : Nat} (hd : decode M.2.1 pc = .ok (.aload_n kx, 1)) (hi : (kx : Nat) = i) (hj : ls[j]? = some (i, .ref x)) (kk : NSim g M d mc ms (pc + 1) ls (.ref x :: st) a b pre cur k n fin) : NSim g M d mc ms pc ls (st) a b pre cur k n fin := by
  intro p e s m args below meth c H locs lsA C ha hb hP hz hS hl
  exact lv_aload_n C.1 C.2.1 hd hi (lv_at hl j hj) (kk p e s m args below meth c H locs lsA C ha hb hP hz hS hl)
theorem n_istore_n {kx : Fin 4} {i : Nat} {x : Int32} {ls' : List (Nat × Value)} (hd : decode M.2.1 pc = .ok (.istore_n kx, 1)) (hi : (kx : Nat) = i) (hn : i < M.2.2.1) (he : (i, Value.int x) :: ls.filter (fun q => !(q.1 == i) && !(q.1 + 1 == i && q.2.category == 2)) = ls') (kk : NSim g M d mc ms (pc + 1) ls' st a b pre cur k n fin) : NSim g M d mc ms pc ls (.int x :: st) a b pre cur k n fin := by
  intro p e s m args below meth c H locs lsA C ha hb hP hz hS hl
  exact lv_istore_n C.1 C.2.1 hd hi hl hn he (fun lsA hl => kk p e s m args below meth c H locs lsA C ha hb hP hz hS hl)
theorem n_iinc (j : Nat) {i : Nat} {z : Int} {x v : Int32} {ls' : List (Nat × Value)} (hd : decode M.2.1 pc = .ok (.iinc i z, 3)) (hj : ls[j]? = some (i, .int x)) (hv : x + Int32.ofInt z = v) (hn : i < M.2.2.1) (he : (i, Value.int v) :: ls.filter (fun q => !(q.1 == i) && !(q.1 + 1 == i && q.2.category == 2)) = ls') (kk : NSim g M d mc ms (pc + 3) ls' st a b pre cur k n fin) : NSim g M d mc ms pc ls st a b pre cur k n fin := by
  intro p e s m args below meth c H locs lsA C ha hb hP hz hS hl
  exact lv_iinc C.1 C.2.1 hd hl hj hv hn he (fun lsA hl => kk p e s m args below meth c H locs lsA C ha hb hP hz hS hl)
theorem n_goto {off : Int} {tgt : Nat} (hd : decode M.2.1 pc = .ok (.goto off, 3)) (ht : (pc : Int) + off = (tgt : Int)) (kk : NSim g M d mc ms tgt ls st a b pre cur k n fin) : NSim g M d mc ms pc ls st a b pre cur k n fin := by
  intro p e s m args below meth c H locs lsA C ha hb hP hz hS hl
  exact lv_goto C.1 C.2.1 hd ht (kk p e s m args below meth c H locs lsA C ha hb hP hz hS hl)
theorem n_geT {x y : Int32} {off : Int} {tgt : Nat} (hd : decode M.2.1 pc = .ok (.if_icmp .ge off, 3)) (ht : (pc : Int) + off = (tgt : Int)) (hc : y ≤ x) (kk : NSim g M d mc ms tgt ls st a b pre cur k n fin) : NSim g M d mc ms pc ls (.int y :: .int x :: st) a b pre cur k n fin := by
  intro p e s m args below meth c H locs lsA C ha hb hP hz hS hl
  exact lv_icmp_ge C.1 C.2.1 hd ht (fun _ => kk p e s m args below meth c H locs lsA C ha hb hP hz hS hl) (fun q => absurd hc q)
theorem n_geF {x y : Int32} {off : Int} {tgt : Nat} (hd : decode M.2.1 pc = .ok (.if_icmp .ge off, 3)) (ht : (pc : Int) + off = (tgt : Int)) (hc : ¬ y ≤ x) (kk : NSim g M d mc ms (pc + 3) ls st a b pre cur k n fin) : NSim g M d mc ms pc ls (.int y :: .int x :: st) a b pre cur k n fin := by
  intro p e s m args below meth c H locs lsA C ha hb hP hz hS hl
  exact lv_icmp_ge C.1 C.2.1 hd ht (fun q => absurd q hc) (fun _ => kk p e s m args below meth c H locs lsA C ha hb hP hz hS hl)
theorem n_ret (hd : decode M.2.1 pc = .ok (.return_, 1)) (hk : k = mc) (hn : n = ms) (hf : cur = fin) : NSim g M d mc ms pc ls [] a b pre cur k n fin := by
  intro p e s m args below meth c H locs lsA C ha hb hP hz hS hl
  subst hk; subst hn; subst hf
  exact W.vret (Qc := QN g b (pre ++ cur)) C.1 C.2.1 C.2.2.1 (fun t ht hW => ⟨rfl, by rw [ht]; exact hP, by rw [ht]; exact hz, hS.F ht⟩) hS.2.2 hd C.2.2.2.2.2.2.2.1
theorem n_get {j ix ci i : Nat} {C0 : String} {T0 : u_T} {N : Nat} {ty0 : Nat → FieldType} {fs : List Value} {v : Value} (hc : CLK ci C0 T0 N ty0) (hj : cur[j]? = some (.inr (ci, fs))) (hi : i < N) (hlink : Cond.fieldLink M.1.cls ix (T0 i).1 (T0 i).2.1 (T0 i).2.2.1 ∈ UW) (hv : fs[i]? = some v) (hd : decode M.2.1 pc = .ok (.getfield ix, 3)) (kk : NSim g M d mc ms (pc + 3) ls (v :: st) a b pre cur k n fin) : NSim g M d mc ms pc ls (.ref (a + j) :: st) a b pre cur k n fin := by
  intro p e s m args below meth c H locs lsA C ha hb hP hz hS hl
  have hq := wz_at (b := b) (pc_get (pre := pre) hj)
  rw [← Nat.add_assoc, ← ha] at hq
  exact va_get C.1 C.2.1 C.2.2.2.2.2.1 hc.2.1 C.2.2.2.2.1 C.2.2.2.2.2.2.1 hP _ hq hc.1 i hi (C.2.2.2.2.2.1 _ hlink) (fun _ z => z) hv hd (kk p e s m args below meth c H locs lsA C ha hb hP hz hS hl)
theorem n_put {j ix ci i : Nat} {C0 : String} {T0 : u_T} {N : Nat} {ty0 : Nat → FieldType} {fs : List Value} {v : Value} {cur' : List va_E} (hc : CLK ci C0 T0 N ty0) (hj : cur[j]? = some (.inr (ci, fs))) (hi : i < N) (hlink : Cond.fieldLink M.1.cls ix (T0 i).1 (T0 i).2.1 (T0 i).2.2.1 ∈ UW) (hfin : (T0 i).2.2.2 = true → (T0 i).1 = M.1.cls) (hn : narrow (ty0 i) v = v) (hfit : fits (ty0 i) v = true) (hl2 : i < fs.length) (hcur : cur.set j (.inr (ci, fs.set i v)) = cur') (hd : decode M.2.1 pc = .ok (.putfield ix, 3)) (kk : NSim g M d mc ms (pc + 3) ls st a b pre cur' k n fin) : NSim g M d mc ms pc ls (v :: .ref (a + j) :: st) a b pre cur k n fin := by
  intro p e s m args below meth c H locs lsA C ha hb hP hz hS hl
  have hq := wz_at (b := b) (pc_get (pre := pre) hj)
  have e1 : b + (pre.length + j) = a + j := by omega
  have key : ∀ (H1 : Heap) (locs1 : List Loc), H1.size = H.size → va_P g.2.2.1 vwCl ((wz b (pre ++ cur)).set (pre.length + j) (a + j, .inr (ci, fs.set i v))) H1 → va_S (fun q => b ≤ q) s.heap H1 locs1 → W p g.2.2.2.1 e (rmn d mc ms) s m args below meth c H1 locs1 k n (MQ below (QN g b (pre ++ fin)) args s mc ms (fun q => b ≤ q)) (F0 m (pc + 3) lsA st) := by
    intro H1 locs1 hsz hP1 hS1
    rw [← e1, wz_set, pc_set, hcur] at hP1
    exact kk p e s m args below meth c H1 locs1 lsA C ha hb hP1 (by rw [hsz, hz, ← hcur]; simp) hS1 hl
  rw [e1] at hq
  obtain ⟨r, h1, cell, q1, q2, q3, q4⟩ := hP _ _ hq
  have hr : r = (C0, T0, N) := Option.some.inj (h1.symm.trans hc.1)
  subst hr
  have hap := va_apart (own := M.1.cls) C.2.2.2.2.2.1 hc.2.1 ty0 hc.2.2.1 hc.2.2.2 C.2.2.2.2.2.2.1 hc.1
  obtain ⟨hSl, hfc, kC, hkC, hkind⟩ := C.2.2.2.2.2.2.1.1 ci _ hc.1
  obtain ⟨cf, kf, fi, f, hif, hsl⟩ := hSl i hi
  have hlay := C.2.2.2.2.2.1 _ (hc.2.1 _ (u_in_lay hi))
  have hst := (u_facts hfc hkC (u_lays C.2.2.2.2.2.1 hc.2.1 hi) hif).1
  have goon : ∀ H', H'[a + j]? = some (cell.setSlot (g.2.2.1.2 ci i) v) → H'.size = H.size → (∀ q : Nat, q ≠ a + j → H'[q]? = H[q]?) → va_P g.2.2.1 vwCl ((wz b (pre ++ cur)).set (pre.length + j) (a + j, .inr (ci, fs.set i v))) H' := fun H' e1 e2 e3 => hP.set (wz_D b _) hq ⟨_, hc.1, t_OB.to (V := updV (vp_V fs) i v) ⟨_, e1, q2, q3, t_set q4 hap hi v⟩ (fun j _ => vp_updV_set hl2 v j)⟩ e3
  by_cases hF : (T0 i).2.2.2 = true
  · unfold u_lay at hlay
    rw [if_pos hF] at hlay
    have hcf : m.cls = cf := by
      obtain ⟨_, _, c', _, _, _, -, -, hf', -, -, -, hown2, -⟩ := Cond.laysFinal_spec hlay
      have e1 : c' = cf := by have := hif.symm.trans hf'; simp at this; exact this.1.symm
      rw [hfin hF] at hown2
      rw [← e1]; exact Option.some.inj (C.2.2.2.2.1.symm.trans hown2)
    have h6 := u_fits hfc hkC hkind (Or.inr hlay) hif (hc.2.2.1 i hi) hn hfit
    refine W.putFinK C.1 C.2.1 C.2.2.2.2.1 (C.2.2.2.2.2.1 _ hlink) hif hst hcf C.2.2.2.2.2.2.2.2.1 (by rw [q2]; exact h6) q1 q3 (by rw [hsl]; exact k2_hasslot (q4 i hi)) rfl rfl hd fun H' e1 e2 e3 => ?_
    rw [hsl] at e1 ⊢
    exact key H' _ e2 (goon H' e1 e2 e3) (hS.put e2 e3 (show b ≤ a + j by omega))
  · unfold u_lay at hlay
    rw [if_neg hF] at hlay
    have h6 := u_store hfc hkC hkind hlay hif (hc.2.2.1 i hi) hn hfit
    refine W.putK C.1 C.2.1 (f := f) ⟨C.2.2.2.2.1, C.2.2.2.2.2.1 _ hlink, ⟨_, _, _, hif⟩, hst⟩ (by rw [q2]; exact h6) q1 q3 (by rw [hsl]; exact k2_hasslot (q4 i hi)) rfl rfl hd fun H' e1 e2 e3 => ?_
    rw [hsl] at e1 ⊢
    exact key H' _ e2 (goon H' e1 e2 e3) (hS.put e2 e3 (show b ≤ a + j by omega))
theorem n_objInit {ix : Nat} (h1 : Cond.methodLink M.1.cls ix objectInit ∈ UW) (h2 : Cond.instanceMethod objectInit ∈ UW) (h3 : Cond.code objectInit ⟨#[0xb1]⟩ 1 none ∈ UW) (hdd : 1 ≤ d) (hd : decode M.2.1 pc = .ok (.invokespecial ix, 3)) (kk : NSim g M d mc ms (pc + 3) ls [] a b pre cur k n fin) : NSim g M d mc ms pc ls [.ref a] a b pre cur k n fin := by
  intro p e s m args below meth c H locs lsA C ha hb hP hz hS hl
  refine W.objInit C.1 C.2.1 C.2.2.2.2.1 (C.2.2.2.2.2.1 _ h1) (C.2.2.2.2.2.1 _ h2) (C.2.2.2.2.2.1 _ h3) rfl (by rw [C.2.2.2.1]; exact hl.1) rfl hd hdd (by show 2 * 0 + 0 + 12 ≤ 64 * d; omega) ?_
  exact kk p e s m args below meth c H locs lsA C ha hb hP hz hS hl
theorem n_new {ix ci N : Nat} {C0 : String} {T0 : u_T} {ty0 : Nat → FieldType} {fs : List Value} {cur' : List va_E} {j : Nat} (hc : CLK ci C0 T0 N ty0) (h1 : Cond.classLink M.1.cls ix C0 ∈ UW) (h2 : Cond.instantiable C0 N ∈ UW) (h3 : Cond.initialized C0 ∈ UW) (hfs : ∀ i, i < N → defaultValue (ty0 i) = vp_V fs i) (hcur : cur ++ [.inr (ci, fs)] = cur') (hj : cur.length = j) (hk : k + 1 ≤ mc) (hns : n + N ≤ ms) (hd : decode M.2.1 pc = .ok (.new ix, 3)) (kk : NSim g M d mc ms (pc + 3) ls (.ref (a + j) :: st) a b pre cur' (k + 1) (n + N) fin) : NSim g M d mc ms pc ls st a b pre cur k n fin := by
  intro p e s m args below meth c H locs lsA C ha hb hP hz hS hl
  have hKn := C.2.2.2.2.2.2.1.1 ci _ hc.1
  refine W.newcK C.1 C.2.1 C.2.2.2.2.1 (C.2.2.2.2.2.1 _ h1) (C.2.2.2.2.2.1 _ h2) (C.2.2.2.2.2.1 _ h3) rfl hd hk hns hKn.2.1 rfl fun H1 kC hkC e1 z1 o1 => ?_
  have ez : H.size = a + j := by rw [hz, List.length_append]; omega
  have hk2 : ∀ (k : Nat) (x : Nat × va_E), (wz b (pre ++ cur))[k]? = some x → H1[x.1]? = H[x.1]? := fun k x hx => o1 x.1 ((hP k x hx).lt)
  have hP1 : va_P g.2.2.1 vwCl (wz b (pre ++ cur) ++ [(H.size, .inr (ci, fs))]) H1 := (hP.kept hk2).app (fun k x hx => by
    have hz0 : k < 1 := (List.getElem?_eq_some_iff.mp hx).1
    rw [show k = 0 by omega] at hx
    cases hx
    exact ⟨_, hc.1, (u_born ty0 C.2.2.2.2.2.1 hc.2.1 hKn hkC e1 hc.2.2.1).to hfs⟩)
  rw [hz, wz_push, List.append_assoc, hcur] at hP1
  refine W.eq (g2 := F0 m (pc + 3) lsA (.ref (a + j) :: st)) (by rw [ez]) ?_
  exact kk p e s m args below meth c H1 locs lsA C ha hb hP1 (by rw [z1, hz, ← hcur]; simp; omega) ⟨Nat.le_trans hS.1 (by omega), fun x h1 h2 => (o1 x (Nat.lt_of_lt_of_le h1 hS.1)).trans (hS.2.1 x h1 h2), hS.2.2⟩ hl
theorem n_newa {t N j : Nat} {atype : ArrayType} {ty : FieldType} {z : Int32} {cur' : List va_E} (hty : newarray.typeOf atype = ty) (hpr : ∀ C, ty ≠ .object C) (ht : (tysOf g)[t]? = some (g.2.1 t, ty)) (hdv : defaultValue ty = .int 0) (harr : Cond.arrayClass ty ∈ UW) (hz0 : ¬ z < 0) (hN : z.toNatClampNeg = N) (hby : N * componentBytes ty ≤ 536870912) (hcur : cur ++ [.inl (g.2.1 t, N, .inl (fun _ => 0))] = cur') (hj : cur.length = j) (hk : k + 1 ≤ mc) (hns : n + N ≤ ms) (hd : decode M.2.1 pc = .ok (.newarray atype, 2)) (kk : NSim g M d mc ms (pc + 2) ls (.ref (a + j) :: st) a b pre cur' (k + 1) (n + N) fin) : NSim g M d mc ms pc ls (.int z :: st) a b pre cur k n fin := by
  intro p e s m args below meth c H locs lsA C ha hb hP hz hS hl
  subst hty
  refine va_newaK C.1 C.2.1 (C.2.2.2.2.2.1 _ harr) rfl hd rfl hz0 hN hby hk hns rfl fun H1 cA e1 z1 o1 hAr hNm => ?_
  have hcA : cA = g.2.1 t := by
    have h1 := (C.2.2.2.2.2.2.1.2 t _ ht).2
    have h2 : s.vm.findClass ("[" ++ (newarray.typeOf atype).toString) = some (g.2.1 t) := by
      revert h1 hpr
      cases newarray.typeOf atype with
      | object C => intro hpr _; exact absurd rfl (hpr C)
      | _ => intro _ h1; exact h1
    exact Option.some.inj (hNm.symm.trans h2)
  subst hcA
  have ez : H.size = a + j := by rw [hz, List.length_append]; omega
  have hk2 : ∀ (k : Nat) (x : Nat × va_E), (wz b (pre ++ cur))[k]? = some x → H1[x.1]? = H[x.1]? := fun k x hx => o1 x.1 ((hP k x hx).lt)
  have hP1 : va_P g.2.2.1 vwCl (wz b (pre ++ cur) ++ [(H.size, .inl (g.2.1 t, N, .inl (fun _ => 0)))]) H1 := (hP.kept hk2).app (fun k x hx => by
    have hz0 : k < 1 := (List.getElem?_eq_some_iff.mp hx).1
    rw [show k = 0 by omega] at hx
    cases hx
    show H1[H.size]? = some (vp_cell _ _)
    rw [vp_cell_i, e1, hdv])
  rw [hz, wz_push, List.append_assoc, hcur] at hP1
  refine W.eq (g2 := F0 m (pc + 2) lsA (.ref (a + j) :: st)) (by rw [ez]) ?_
  exact kk p e s m args below meth c H1 locs lsA C ha hb hP1 (by rw [z1, hz, ← hcur]; simp; omega) ⟨Nat.le_trans hS.1 (by omega), fun x h1 h2 => (o1 x (Nat.lt_of_lt_of_le h1 hS.1)).trans (hS.2.1 x h1 h2), hS.2.2⟩ hl
theorem n_newq {t N j ix : Nat} {C0 : String} {z : Int32} {cur' : List va_E} (hao : ∀ s, NX s → va_AO C0 s) (hcl : Cond.classLink M.1.cls ix C0 ∈ UW) (ht : (tysOf g)[t]? = some (g.2.1 t, .object C0)) (hz0 : ¬ z < 0) (hN : z.toNatClampNeg = N) (hby : N * 4 ≤ 536870912) (hcur : cur ++ [.inl (g.2.1 t, N, .inr (.inr (.inr (.inr (fun _ => none)))))] = cur') (hj : cur.length = j) (hk : k + 1 ≤ mc) (hns : n + N ≤ ms) (hd : decode M.2.1 pc = .ok (.anewarray ix, 3)) (kk : NSim g M d mc ms (pc + 3) ls (.ref (a + j) :: st) a b pre cur' (k + 1) (n + N) fin) : NSim g M d mc ms pc ls (.int z :: st) a b pre cur k n fin := by
  intro p e s m args below meth c H locs lsA C ha hb hP hz hS hl
  subst hN
  refine W.anew C.1 C.2.1 C.2.2.2.2.1 (C.2.2.2.2.2.1 _ hcl) (va_AO.use (hao s C.2.2.2.2.2.2.2.2.2)) rfl hd rfl hz0 hby hk hns fun cA kA comp f1 f2 f3 f4 => ?_
  have hcA : cA = g.2.1 t := by
    obtain ⟨kA', comp', g1, g2, g3, g4⟩ := (C.2.2.2.2.2.2.1.2 t _ ht).2
    exact Option.some.inj (f1.symm.trans g4)
  subst hcA
  generalize hH1 : H.push ({ cls := g.2.1 t, slots := Array.replicate z.toNatClampNeg .null, vm := .none } : Cell) = H1
  have z1 : H1.size = H.size + 1 := by rw [← hH1, Array.size_push]
  have e1 : H1[H.size]? = some (arrV (g.2.1 t) z.toNatClampNeg (fun _ => .null)) := by rw [← hH1, Array.getElem?_push_size, ← arrV_new]
  have o1 : ∀ q : Nat, q < H.size → H1[q]? = H[q]? := fun q hq => by rw [← hH1, Array.getElem?_push, if_neg (Nat.ne_of_lt hq)]
  have ez : H.size = a + j := by rw [hz, List.length_append]; omega
  have hk2 : ∀ (k : Nat) (x : Nat × va_E), (wz b (pre ++ cur))[k]? = some x → H1[x.1]? = H[x.1]? := fun k x hx => o1 x.1 ((hP k x hx).lt)
  have hP1 : va_P g.2.2.1 vwCl (wz b (pre ++ cur) ++ [(H.size, .inl (g.2.1 t, z.toNatClampNeg, .inr (.inr (.inr (.inr (fun _ => none))))))]) H1 := (hP.kept hk2).app (fun k x hx => by
    have hz0 : k < 1 := (List.getElem?_eq_some_iff.mp hx).1
    rw [show k = 0 by omega] at hx
    cases hx
    show H1[H.size]? = some (vp_cell _ _)
    rw [vp_cell_q, e1]; rfl)
  rw [hz, wz_push, List.append_assoc, hcur] at hP1
  refine W.eq (g2 := F0 m (pc + 3) lsA (.ref (a + j) :: st)) (by rw [ez]) ?_
  exact kk p e s m args below meth c H1 locs lsA C ha hb hP1 (by rw [z1, hz, ← hcur]; simp; omega) ⟨Nat.le_trans hS.1 (by omega), fun x h1 h2 => (o1 x (Nat.lt_of_lt_of_le h1 hS.1)).trans (hS.2.1 x h1 h2), hS.2.2⟩ hl
theorem n_astq {j i2 t ci N : Nat} {z : Int32} {C0 : String} {T0 : u_T} {nc : Nat} {f : Nat → Option Nat} {vs : List Value} {cur' : List va_E} (hcl : vwCl[ci]? = some (C0, T0, nc)) (ht : (tysOf g)[t]? = some (g.2.1 t, .object C0)) (hj : cur[j]? = some (.inl (g.2.1 t, N, .inr (.inr (.inr (.inr f)))))) (hi : cur[i2]? = some (.inr (ci, vs))) (hin : vp_in z N) (hcur : cur.set j (.inl (g.2.1 t, N, .inr (.inr (.inr (.inr (va_up f z.toNatClampNeg (some (a + i2)))))))) = cur') (hd : decode M.2.1 pc = .ok (.aastore, 1)) (kk : NSim g M d mc ms (pc + 1) ls st a b pre cur' k n fin) : NSim g M d mc ms pc ls (.ref (a + i2) :: .int z :: .ref (a + j) :: st) a b pre cur k n fin := by
  intro p e s m args below meth c H locs lsA C ha hb hP hz hS hl
  have hq := wz_at (b := b) (pc_get (pre := pre) hj)
  have hq2 := wz_at (b := b) (pc_get (pre := pre) hi)
  have e1 : b + (pre.length + j) = a + j := by omega
  have e2 : b + (pre.length + i2) = a + i2 := by omega
  rw [e1] at hq
  rw [e2] at hq2
  have hlt : z.toNatClampNeg < N := Nat.not_le.mp fun q => hin (Or.inr q)
  have h0 : ¬ z < 0 := fun q => hin (Or.inl q)
  obtain ⟨r', hr', cellV, g1, g2, g3, -⟩ := hP _ _ hq2
  have hcls := (C.2.2.2.2.2.2.1.1 ci _ hcl).2
  obtain ⟨kA, comp, k1, k2, k3, -⟩ := (C.2.2.2.2.2.2.1.2 t _ ht).2
  have hcomp : comp = g.2.2.1.1 ci := Option.some.inj (k3.symm.trans hcls.1)
  subst hcomp
  obtain ⟨kC, hkC, -⟩ := hcls.2
  refine W.aast C.1 C.2.1 (hP _ _ hq) (fun q h => by cases h) (fun h => by cases h) k1 k2 rfl hkC ⟨h0, by show _ < (arrV _ _ _).slots.size; rw [arrV_size]; exact hlt⟩ g1 (fun q h => by rw [g3] at h; cases h) (by rw [g2]; exact hkC) (by rw [g2]; exact va_assign hcls) rfl rfl hd fun H1 ee zz oq => ?_
  have hP1 : va_P g.2.2.1 vwCl ((wz b (pre ++ cur)).set (pre.length + j) (a + j, .inl (g.2.1 t, N, .inr (.inr (.inr (.inr (va_up f z.toNatClampNeg (some (a + i2))))))))) H1 := hP.set (wz_D b _) hq (by
    show H1[a + j]? = some (vp_cell _ _)
    rw [ee]
    rw [vp_cell_q, vp_cell_q, arrV_store]
    congr 2
    funext q
    by_cases hq : q = z.toNatClampNeg
    · subst hq
      simp [updV, va_up, va_rf]
    · simp [updV, va_up, hq]) oq
  rw [← e1, wz_set, pc_set, hcur] at hP1
  exact kk p e s m args below meth c H1 _ lsA C ha hb hP1 (by rw [zz, hz, ← hcur]; simp) (hS.put zz oq (show b ≤ a + j by omega)) hl
theorem n_iast {j t N : Nat} {z x : Int32} {f : Nat → Int32} {cur' : List va_E} (ht : (tysOf g)[t]? = some (g.2.1 t, .int)) (hj : cur[j]? = some (.inl (g.2.1 t, N, .inl f))) (hin : vp_in z N) (hcur : cur.set j (.inl (g.2.1 t, N, .inl (upd f z.toNatClampNeg x))) = cur') (hd : decode M.2.1 pc = .ok (.iastore, 1)) (kk : NSim g M d mc ms (pc + 1) ls st a b pre cur' k n fin) : NSim g M d mc ms pc ls (.int x :: .int z :: .ref (a + j) :: st) a b pre cur k n fin := by
  intro p e s m args below meth c H locs lsA C ha hb hP hz hS hl
  have hq := wz_at (b := b) (pc_get (pre := pre) hj)
  have e1 : b + (pre.length + j) = a + j := by omega
  rw [e1] at hq
  refine W.iast C.1 C.2.1 (hP _ _ hq) ((C.2.2.2.2.2.2.1.2 t _ ht).1 N (fun j => .int (f j))) (fun q => by cases q) (by show ¬ (z < 0 ∨ (arrV _ _ _).slots.size ≤ _); rw [arrV_size]; exact hin) rfl rfl hd fun H1 ee zz oq => ?_
  have hP1 : va_P g.2.2.1 vwCl ((wz b (pre ++ cur)).set (pre.length + j) (a + j, .inl (g.2.1 t, N, .inl (upd f z.toNatClampNeg x)))) H1 := hP.set (wz_D b _) hq (by
    show H1[a + j]? = some (vp_cell _ _)
    rw [ee]
    rw [vp_cell_i, vp_cell_i, arrV_store]
    congr 2
    funext q
    by_cases hq : q = z.toNatClampNeg
    · subst hq
      simp [updV, upd]
    · simp [updV, upd, hq]) oq
  rw [← e1, wz_set, pc_set, hcur] at hP1
  exact kk p e s m args below meth c H1 _ lsA C ha hb hP1 (by rw [zz, hz, ← hcur]; simp) (hS.put zz oq (show b ≤ a + j by omega)) hl
theorem n_alenq {j t N : Nat} {C0 : String} {f : Nat → Option Nat} {v : Int32} (ht : (tysOf g)[t]? = some (g.2.1 t, .object C0)) (hj : cur[j]? = some (.inl (g.2.1 t, N, .inr (.inr (.inr (.inr f)))))) (hv : Int32.ofNat N = v) (hd : decode M.2.1 pc = .ok (.arraylength, 1)) (kk : NSim g M d mc ms (pc + 1) ls (.int v :: st) a b pre cur k n fin) : NSim g M d mc ms pc ls (.ref (a + j) :: st) a b pre cur k n fin := by
  intro p e s m args below meth c H locs lsA C ha hb hP hz hS hl
  have hq := wz_at (b := b) (pc_get (pre := pre) hj)
  have e1 : b + (pre.length + j) = a + j := by omega
  rw [e1] at hq
  exact va_alen C.1 C.2.1 C.2.2.2.2.2.2.1 hP _ t hq ht hv hd (kk p e s m args below meth c H locs lsA C ha hb hP hz hS hl)

theorem n_initN {M' : MI} {d' mc' ms' ix j : Nat} {dflt : va_E} {blk : Nat → List va_E} {rest : List Value} {cur' : List va_E} (hM : ConN g M' d' mc' ms' dflt blk) (hm : MD M' 0) (hnm : M'.1.name = "<init>") (hrt : M'.2.2.2 = none) (hin : Cond.instanceMethod M'.1 ∈ UW) (hnest : (M.1.cls, ix, M'.1) ∈ nestL) (hj : cur.length = j) (hcur : cur ++ blk (a + j) = cur') (hdd : d' + 1 ≤ d) (hk : k + mc' ≤ mc) (hns : n + ms' ≤ ms) (hr : (rest.map fun v => v.category).sum ≤ 8) (hd : decode M.2.1 pc = .ok (.invokespecial ix, 3)) (kk : NSim g M d mc ms (pc + 3) ls rest a b pre cur' (k + mc') (n + ms') fin) : NSim g M d mc ms pc ls (.ref (a + j) :: rest) a b pre (cur ++ [dflt]) k n fin := by
  intro p e s m args below meth c H locs lsA C ha hb hP hz hS hl
  obtain ⟨m1, m2, m3, m4, m5, m6⟩ := hm
  have hfr : FrameBlind (va_Pc [.ref (b + (pre ++ cur).length)] (BefN g b ((pre ++ cur) ++ [dflt]))) := by
    intro a0 U fr mk q
    obtain ⟨q0, qP, qz, qK, qX⟩ := q
    exact ⟨q0, qP, qz, va_K.moved (u := U) (U := U.calling fr mk a0) (Vm.Alike.refl U.vm) qK, qX.same rfl⟩
  have ej : b + (pre ++ cur).length = a + j := by rw [List.length_append]; omega
  have hPre : PreS s H (va_Pc [.ref (b + (pre ++ cur).length)] (BefN g b ((pre ++ cur) ++ [dflt]))) (.ref (a + j) :: []) := ⟨hfr, fun U hU hW => ⟨by rw [ej], by rw [hU, List.append_assoc]; exact hP, by rw [hU, hz, List.append_assoc], va_K.moved hW.alike C.2.2.2.2.2.2.1, C.2.2.2.2.2.2.2.2.2.warm hW⟩⟩
  have hMM := hM b (pre ++ cur)
  rw [ej] at hMM hPre
  have hcn := va_cnB (R := rmn d mc ms) (args := args) (s := s) (own := M.1.cls) (host := "PlateRunner") (index := ix) (maxL := M'.2.2.1) (y := M'.1) (bytes := M'.2.1) (ret := none) (Ts := UW) (ws := Cond.code M'.1 M'.2.1 M'.2.2.1 M'.2.2.2 :: UW) (rm := rmn d' mc' ms') (mc := mc') (ms := ms') 0 C.2.2.2.2.2.1 (fun w hw => by
    rcases List.mem_cons.mp hw with rfl | hw
    · exact ⟨m5, UW_good m5⟩
    · exact ⟨hw, UW_good hw⟩) (by rw [hrt]) rfl rfl (C.2.2.2.2.2.2.2.2.2.1 _ hnest) (C.2.2.2.2.2.1 _ m6) ⟨m1, m2, m3⟩ ⟨hdd, by show 8 + (M'.2.2.1 + 11) + 64 * d' ≤ 64 * d; omega⟩
  have hrun := va_runIN (p := p) (e := e) (below := below) (meth := meth) (locs := locs) (cells := k) (slots := n) (As := []) (rest := rest) (b := a + j) (Ts := UW) (g := F0 m pc lsA (.ref (a + j) :: rest)) ⟨C.1, C.2.1, C.2.2.2.1, C.2.2.2.2.1, C.2.2.2.2.2.1⟩ hMM ⟨hcn, hnm, C.2.2.2.2.2.1 _ hin⟩ hPre rfl rfl hl.1 rfl (by show 2 * 0 + _ ≤ 8; omega) hd ⟨hk, hns⟩
  intro T hT X
  obtain ⟨v, st₀, t, T', L, h0, X', hL, e1, e2, ⟨hv, hPt, hzt, hz2, hk2⟩, stp⟩ := hrun T hT X
  have hv : v = none := by injection hv
  subst hv
  rw [h0] at hz2 hk2
  rw [List.append_assoc, hcur] at hPt hzt
  obtain ⟨t2, a1, b1⟩ := kk p e s m args below meth c T'.heap (locs ++ L) lsA C ha hb (by rw [e1]; exact hPt) (by rw [e1]; exact hzt)
    ⟨Nat.le_trans hS.1 (by rw [e1]; exact hz2), fun q h1 h2 => by rw [e1, hk2 q (Nat.lt_of_lt_of_le h1 hS.1) h2]; exact hS.2.1 q h1 h2, fun q hq => by
      rcases List.mem_append.mp hq with h | h
      · exact hS.2.2 q h
      · exact hL q h⟩ hl T' rfl X'
  exact ⟨t2, stp t2 a1, b1⟩
theorem n_initP {M' : MI} {d' mc' ms' ix j : Nat} {dflt : va_E} {blk : Nat → List va_E} {rest : List Value} {cur' : List va_E} (hM : ConN g M' d' mc' ms' dflt blk) (hm : MD M' 0) (hnm : M'.1.name = "<init>") (hrt : M'.2.2.2 = none) (hin : Cond.instanceMethod M'.1 ∈ UW) (hlk : Cond.methodLink M.1.cls ix M'.1 ∈ UW) (hj : cur.length = j) (hcur : cur ++ blk (a + j) = cur') (hdd : d' + 1 ≤ d) (hk : k + mc' ≤ mc) (hns : n + ms' ≤ ms) (hr : (rest.map fun v => v.category).sum ≤ 8) (hd : decode M.2.1 pc = .ok (.invokespecial ix, 3)) (kk : NSim g M d mc ms (pc + 3) ls rest a b pre cur' (k + mc') (n + ms') fin) : NSim g M d mc ms pc ls (.ref (a + j) :: rest) a b pre (cur ++ [dflt]) k n fin := by
  intro p e s m args below meth c H locs lsA C ha hb hP hz hS hl
  obtain ⟨m1, m2, m3, m4, m5, m6⟩ := hm
  have hfr : FrameBlind (va_Pc [.ref (b + (pre ++ cur).length)] (BefN g b ((pre ++ cur) ++ [dflt]))) := by
    intro a0 U fr mk q
    obtain ⟨q0, qP, qz, qK, qX⟩ := q
    exact ⟨q0, qP, qz, va_K.moved (u := U) (U := U.calling fr mk a0) (Vm.Alike.refl U.vm) qK, qX.same rfl⟩
  have ej : b + (pre ++ cur).length = a + j := by rw [List.length_append]; omega
  have hPre : PreS s H (va_Pc [.ref (b + (pre ++ cur).length)] (BefN g b ((pre ++ cur) ++ [dflt]))) (.ref (a + j) :: []) := ⟨hfr, fun U hU hW => ⟨by rw [ej], by rw [hU, List.append_assoc]; exact hP, by rw [hU, hz, List.append_assoc], va_K.moved hW.alike C.2.2.2.2.2.2.1, C.2.2.2.2.2.2.2.2.2.warm hW⟩⟩
  have hMM := hM b (pre ++ cur)
  rw [ej] at hMM hPre
  have hcb : CallB (rmn d mc ms) s args M.1.cls ix M'.1 M'.2.1 M'.2.2.1 none (Cond.code M'.1 M'.2.1 M'.2.2.1 M'.2.2.2 :: UW) (rmn d' mc' ms') mc' ms' 0 := callB_of 0 C.2.2.2.2.2.1 (fun w hw => by
    rcases List.mem_cons.mp hw with rfl | hw
    · exact ⟨m5, UW_good m5⟩
    · exact ⟨hw, UW_good hw⟩) (by rw [hrt]) rfl rfl (C.2.2.2.2.2.1 _ m6) (C.2.2.2.2.2.1 _ hlk) ⟨m1, m2, m3⟩ ⟨hdd, by show 8 + (M'.2.2.1 + 11) + 64 * d' ≤ 64 * d; omega⟩
  have hrun := va_runI (p := p) (e := e) (below := below) (meth := meth) (locs := locs) (cells := k) (slots := n) (As := []) (rest := rest) (b := a + j) (Ts := UW) (g := F0 m pc lsA (.ref (a + j) :: rest)) ⟨C.1, C.2.1, C.2.2.2.1, C.2.2.2.2.1, C.2.2.2.2.2.1⟩ hMM ⟨hcb, hnm, C.2.2.2.2.2.1 _ hin⟩ hPre rfl rfl hl.1 rfl (by show 2 * 0 + _ ≤ 8; omega) hd ⟨hk, hns⟩
  intro T hT X
  obtain ⟨v, st₀, t, T', L, h0, X', hL, e1, e2, ⟨hv, hPt, hzt, hz2, hk2⟩, stp⟩ := hrun T hT X
  have hv : v = none := by injection hv
  subst hv
  rw [h0] at hz2 hk2
  rw [List.append_assoc, hcur] at hPt hzt
  obtain ⟨t2, a1, b1⟩ := kk p e s m args below meth c T'.heap (locs ++ L) lsA C ha hb (by rw [e1]; exact hPt) (by rw [e1]; exact hzt)
    ⟨Nat.le_trans hS.1 (by rw [e1]; exact hz2), fun q h1 h2 => by rw [e1, hk2 q (Nat.lt_of_lt_of_le h1 hS.1) h2]; exact hS.2.1 q h1 h2, fun q hq => by
      rcases List.mem_append.mp hq with h | h
      · exact hS.2.2 q h
      · exact hL q h⟩ hl T' rfl X'
  exact ⟨t2, stp t2 a1, b1⟩
end NRows
