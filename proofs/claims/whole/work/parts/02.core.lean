/-! THE FLAT HEAP: an object or array is (kind, number); what it holds are ints by slot, and one long. -/
abbrev Hp : Type := (Nat → Nat → Nat → Int32) × Int64
abbrev GE : Type := (Nat → Nat → Nat) × (Nat → ClassId) × va_G × Launch × (Nat → Nat) × (Nat → Nat)
abbrev MI : Type := MethodName × ByteArray × Nat × Option FieldType
def ctab : List Nat := [1, 9, 1, 1, 1, 9, 12, 4, 1, 1, 1, 1, 1, 1, 1, 1, 1, 1, 1, 1, 1, 9, 9, 9, 1, 1, 1, 1, 1, 1, 1, 9, 9, 12, 12, 12, 4, 4, 4, 4, 4, 1, 1, 1, 1, 1, 1, 1, 1, 1, 1, 1, 1, 1, 1, 1, 1, 1, 1, 1, 1, 1, 1, 1, 1, 1, 1, 1]
def cnt (k : Nat) : Nat := ctab.getD k 1
def kobj : Nat → Option (List (Nat × Nat × Nat × Nat))
  | 0 => some [(2, 6, 0, 10), (0, 0, 0, 0), (0, 0, 0, 0), (0, 0, 0, 0), (0, 0, 0, 0), (0, 0, 0, 0), (0, 0, 0, 0), (2, 11, 0, 0), (2, 12, 0, 0), (2, 13, 0, 0), (2, 14, 0, 0), (2, 15, 0, 0), (2, 16, 0, 0), (2, 17, 0, 0), (2, 18, 0, 0), (2, 19, 0, 0), (2, 20, 0, 0)]
  | 1 => some [(0, 0, 0, 0), (0, 0, 0, 0), (2, 21, 1, 0), (2, 22, 1, 0), (2, 23, 1, 0)]
  | 2 => some [(2, 6, 0, 9), (2, 24, 0, 0), (0, 0, 0, 0), (0, 0, 0, 0), (0, 0, 0, 0), (0, 0, 0, 0), (0, 0, 0, 0), (0, 0, 0, 0), (0, 0, 0, 0), (0, 0, 0, 0), (0, 0, 0, 0), (0, 0, 0, 0), (0, 0, 0, 0)]
  | 3 => some [(2, 6, 0, 8), (2, 5, 0, 8), (2, 1, 0, 8), (0, 0, 0, 0), (0, 0, 0, 0), (3, 0, 0, 0), (0, 0, 0, 0), (0, 0, 0, 0), (0, 0, 0, 0), (0, 0, 0, 0), (2, 26, 0, 0)]
  | 4 => some [(0, 0, 0, 0), (0, 0, 0, 0), (0, 0, 0, 0), (0, 0, 0, 0), (0, 0, 0, 0), (2, 27, 0, 0), (2, 28, 0, 0), (2, 29, 0, 0), (2, 30, 0, 0), (0, 0, 0, 0), (0, 0, 0, 0)]
  | 5 => some [(0, 0, 0, 0), (2, 31, 1, 0), (2, 32, 1, 0)]
  | 6 => some [(0, 0, 0, 0), (0, 0, 0, 0), (0, 0, 0, 0), (2, 33, 1, 0), (2, 34, 1, 0), (2, 35, 1, 0)]
  | 7 => some [(2, 36, 1, 0), (0, 0, 0, 0), (0, 0, 0, 0), (0, 0, 0, 0), (2, 37, 1, 0), (2, 38, 1, 0), (2, 39, 1, 0), (2, 40, 1, 0)]
  | 8 => some [(2, 0, 0, 0), (2, 6, 0, 11)]
  | 9 => some [(2, 7, 0, 0), (2, 41, 0, 0), (2, 42, 0, 0), (2, 3, 0, 0), (2, 2, 0, 0), (2, 0, 0, 0), (2, 8, 0, 0), (2, 4, 0, 0)]
  | 10 => some [(0, 0, 0, 0), (2, 43, 0, 0), (2, 44, 0, 0), (2, 45, 0, 0), (2, 46, 0, 0), (2, 47, 0, 0), (2, 48, 0, 0), (2, 49, 0, 0), (2, 50, 0, 0), (0, 0, 0, 0), (0, 0, 0, 0), (0, 0, 0, 0), (0, 0, 0, 0), (0, 0, 0, 0), (1, 0, 0, 0), (0, 0, 0, 0), (0, 0, 0, 0), (0, 0, 0, 0), (2, 51, 0, 0), (2, 52, 0, 0), (0, 0, 0, 0), (0, 0, 0, 0), (0, 0, 0, 0), (0, 0, 0, 0), (0, 0, 0, 0), (0, 0, 0, 0), (2, 53, 0, 0), (2, 54, 0, 0), (2, 55, 0, 0), (0, 0, 0, 0), (0, 0, 0, 0), (0, 0, 0, 0), (0, 0, 0, 0), (0, 0, 0, 0), (0, 0, 0, 0), (0, 0, 0, 0), (0, 0, 0, 0), (0, 0, 0, 0), (2, 56, 0, 0), (2, 57, 0, 0), (0, 0, 0, 0), (2, 58, 0, 0), (2, 59, 0, 0), (2, 60, 0, 0), (2, 61, 0, 0), (2, 62, 0, 0), (0, 0, 0, 0), (0, 0, 0, 0), (2, 63, 0, 0), (0, 0, 0, 0), (2, 64, 0, 0), (0, 0, 0, 0), (0, 0, 0, 0), (0, 0, 0, 0), (0, 0, 0, 0), (0, 0, 0, 0), (0, 0, 0, 0), (0, 0, 0, 0), (2, 65, 0, 0), (2, 66, 0, 0), (0, 0, 0, 0), (2, 67, 0, 0)]
  | _ => none
def katab : List (Nat × Nat) := [(99, 0), (99, 0), (99, 0), (99, 0), (99, 0), (99, 0), (99, 0), (99, 0), (99, 0), (99, 0), (99, 0), (2, 4096), (1, 2200), (2, 2200), (1, 2200), (1, 2200), (2, 2200), (2, 2200), (2, 11000), (2, 2200), (2, 2200), (0, 8), (0, 8), (0, 8), (0, 5), (1, 0), (0, 3), (0, 4), (0, 4), (0, 5), (0, 105), (0, 40), (0, 40), (0, 5), (0, 5), (0, 5), (1, 600), (0, 3), (99, 0), (99, 0), (99, 0), (99, 0), (3, 3), (1, 2400), (0, 4), (0, 4), (0, 4), (0, 12), (0, 144), (0, 648), (0, 208), (0, 81), (0, 3), (0, 5), (0, 5), (0, 5), (0, 5), (0, 64), (0, 46656), (0, 46656), (0, 46656), (0, 46656), (0, 46656), (0, 5), (0, 216), (0, 4), (0, 105), (3, 3)]
def karr (k : Nat) : Nat × Nat := katab.getD k (99, 0)
def kra : Nat → Option (Nat × Nat × Nat × Nat × Nat × Nat)
  | 38 => some (4, 2, 6, 2, 1, 0)
  | 39 => some (5, 2, 5, 2, 1, 0)
  | 40 => some (6, 2, 1, 2, 1, 0)
  | 41 => some (7, 3, 7, 0, 1, 1)
  | _ => none
def ktab (u : Nat) : List Nat := if u = 0 then [0, 1, 2, 3, 4, 5, 6, 7, 8, 9, 11, 12, 13, 14, 15, 16, 17, 18, 19, 20, 21, 22, 23, 24, 25, 26, 27, 28, 29, 30, 31, 32, 33, 34, 35, 36, 37, 38, 39, 40, 41, 42] else [10, 43, 44, 45, 46, 47, 48, 49, 50, 51, 52, 53, 54, 55, 56, 57, 58, 59, 60, 61, 62, 63, 64, 65, 66, 67]
def ids (u : Nat) : List (Nat × Nat) := (ktab u).flatMap fun k => (List.range (cnt k)).map fun s => (k, s)
def rd (h : Hp) (k s i : Nat) : Int32 := h.1 k (s % cnt k) i
def wr (h : Hp) (k s i : Nat) (v : Int32) : Hp := (fun a b c => if a = k ∧ b = s % cnt k ∧ c = i then v else h.1 a b c, h.2)
def wl (h : Hp) (w : Int64) : Hp := (h.1, w)
abbrev rv (g : GE) (k s : Nat) : Value := .ref (g.1 k (s % cnt k))
abbrev rq (g : GE) (k : Nat) (q : Option Nat) : Value := va_rf (q.map fun s => g.1 k (s % cnt k))
def sv (g : GE) (h : Hp) (k s i : Nat) (d : Nat × Nat × Nat × Nat) : Value :=
  if d.1 = 0 then .int (h.1 k s i) else if d.1 = 1 then .long h.2 else if d.1 = 2 then .ref (g.1 d.2.1 ((d.2.2.1 * s + d.2.2.2) % cnt d.2.1)) else .ref (if h.1 k s i = 1 then g.1 36 0 else g.1 25 0)
def slv (g : GE) (h : Hp) (k s : Nat) : Nat → List (Nat × Nat × Nat × Nat) → List Value
  | _, [] => []
  | i, d :: ds => sv g h k s i d :: slv g h k s (i + 1) ds
def cellOf (g : GE) (h : Hp) (k s : Nat) : va_E := match kobj k with
  | some sl => .inr (k, slv g h k s 0 sl)
  | none => match kra k with
    | some q => .inl (g.2.1 q.1, q.2.1, .inr (.inr (.inr (.inr (fun i => some (g.1 q.2.2.1 ((q.2.2.2.1 * s + q.2.2.2.2.1 * i + q.2.2.2.2.2) % cnt q.2.2.1)))))))
    | none => .inl (g.2.1 (karr k).1, (karr k).2, .inl (h.1 k s))
def wsOf (u : Nat) (g : GE) (h : Hp) : va_W := (ids u).map fun q => (g.1 q.1 q.2, cellOf g h q.1 q.2)
def tysOf (g : GE) : List (ClassId × FieldType) := [(g.2.1 0, .int), (g.2.1 1, .byte), (g.2.1 2, .short), (g.2.1 3, .boolean), (g.2.1 4, .object RX8), (g.2.1 5, .object RX7), (g.2.1 6, .object RX3), (g.2.1 7, .object RX9)]
def Inj (u : Nat) (g : GE) : Prop := ∀ x ∈ ids u, ∀ y ∈ ids u, g.1 x.1 x.2 = g.1 y.1 y.2 → x = y
def Au (u : Nat) (g : GE) : Nat → Prop := fun q => ∃ x ∈ ids u, q = g.1 x.1 x.2
theorem cnt_pos (k : Nat) : 0 < cnt k := by
  unfold cnt
  rw [List.getD_eq_getElem?_getD]
  cases hk : ctab[k]? with
  | none => exact Nat.one_pos
  | some c =>
    have : ∀ c ∈ ctab, 0 < c := by decide
    exact this c (List.mem_of_getElem? hk)
theorem mem_ids {u k s : Nat} (hk : k ∈ ktab u) (hs : s < cnt k) : (k, s) ∈ ids u := by
  unfold ids
  exact List.mem_flatMap.mpr ⟨k, hk, List.mem_map.mpr ⟨s, List.mem_range.mpr hs, rfl⟩⟩
theorem ids_nd (u : Nat) : (ids u).Nodup := by
  unfold ids ktab
  split
  · decide +kernel
  · decide +kernel
theorem nd_inj {α : Type} {l : List α} (hn : l.Nodup) {i j : Nat} {x : α} (hi : l[i]? = some x) (hj : l[j]? = some x) : i = j := by
  obtain ⟨a1, b1⟩ := List.getElem?_eq_some_iff.mp hi
  obtain ⟨a2, b2⟩ := List.getElem?_eq_some_iff.mp hj
  rcases Nat.lt_trichotomy i j with h | h | h
  · exact absurd (b1.trans b2.symm) (List.pairwise_iff_getElem.mp hn i j a1 a2 h)
  · exact h
  · exact absurd (b2.trans b1.symm) (List.pairwise_iff_getElem.mp hn j i a2 a1 h)
theorem slv_get (g : GE) (h : Hp) (k s : Nat) : ∀ (sl : List (Nat × Nat × Nat × Nat)) (i j : Nat), (slv g h k s i sl)[j]? = (sl[j]?).map (sv g h k s (i + j)) := by
  intro sl
  induction sl with
  | nil => intro i j; simp [slv]
  | cons d ds ih =>
    intro i j
    cases j with
    | zero => simp [slv]
    | succ j => simp [slv, ih, Nat.add_assoc, Nat.add_comm 1 j]
theorem slv_len (g : GE) (h : Hp) (k s : Nat) : ∀ (sl : List (Nat × Nat × Nat × Nat)) (i : Nat), (slv g h k s i sl).length = sl.length := by
  intro sl
  induction sl with
  | nil => intro i; rfl
  | cons d ds ih => intro i; simp [slv, ih]
theorem ws_at {u : Nat} {g : GE} {h : Hp} {k s : Nat} (hk : k ∈ ktab u) (hs : s < cnt k) : ∃ q0 : Nat, (ids u)[q0]? = some (k, s) ∧ (wsOf u g h)[q0]? = some (g.1 k s, cellOf g h k s) := by
  obtain ⟨i, hi⟩ := List.getElem?_of_mem (mem_ids hk hs)
  exact ⟨i, hi, by unfold wsOf; rw [List.getElem?_map, hi]; rfl⟩
theorem ws_set {u : Nat} {g : GE} {h h2 : Hp} {k s q0 : Nat} {e : va_E} (hi : (ids u)[q0]? = some (k, s)) (he : cellOf g h2 k s = e) (ho : ∀ x ∈ ids u, x ≠ (k, s) → cellOf g h2 x.1 x.2 = cellOf g h x.1 x.2) : (wsOf u g h).set q0 (g.1 k s, e) = wsOf u g h2 := by
  apply List.ext_getElem?
  intro j
  by_cases hj : j = q0
  · subst hj
    have hl : j < (wsOf u g h).length := by
      unfold wsOf; rw [List.length_map]; exact (List.getElem?_eq_some_iff.mp hi).1
    rw [List.getElem?_set_self hl]
    unfold wsOf
    rw [List.getElem?_map, hi]
    show _ = some (g.1 k s, cellOf g h2 k s)
    rw [he]
  · rw [List.getElem?_set_ne (Ne.symm hj)]
    unfold wsOf
    rw [List.getElem?_map, List.getElem?_map]
    cases hx : (ids u)[j]? with
    | none => rfl
    | some x =>
      have hne : x ≠ (k, s) := by
        intro he2
        subst he2
        exact hj (nd_inj (ids_nd u) hx hi)
      show some (g.1 x.1 x.2, cellOf g h x.1 x.2) = some (g.1 x.1 x.2, cellOf g h2 x.1 x.2)
      rw [ho x (List.mem_of_getElem? hx) hne]
theorem ws_D {u : Nat} {g : GE} {h : Hp} (hI : Inj u g) : va_D (Au u g) (wsOf u g h) := by
  have key : ∀ (k : Nat) (q : Nat × va_E), (wsOf u g h)[k]? = some q → ∃ x, (ids u)[k]? = some x ∧ q.1 = g.1 x.1 x.2 := by
    intro k q hq
    unfold wsOf at hq
    rw [List.getElem?_map] at hq
    cases hx : (ids u)[k]? with
    | none => rw [hx] at hq; cases hq
    | some x => rw [hx] at hq; cases hq; exact ⟨x, rfl, rfl⟩
  refine ⟨fun i j p q hi hj hpq => ?_, fun k q hk => ?_⟩
  · obtain ⟨x, hx, ex⟩ := key i p hi
    obtain ⟨y, hy, ey⟩ := key j q hj
    have : x = y := hI x (List.mem_of_getElem? hx) y (List.mem_of_getElem? hy) (by rw [← ex, ← ey]; exact hpq)
    subst this
    exact nd_inj (ids_nd u) hx hy
  · obtain ⟨x, hx, ex⟩ := key k q hk
    exact ⟨x, List.mem_of_getElem? hx, ex⟩
/-! the tables' words -/
def UW : List Cond := lw_tbl.filter goodWord
theorem um {w : Cond} (h : w ∈ lw_tbl) (hg : goodWord w = true) : w ∈ UW := List.mem_filter.mpr ⟨h, hg⟩
theorem UW_good {w : Cond} (h : w ∈ UW) : (w.onTables && w.keeps) = true ∨ ∃ ty, w = .arrayClass ty := good_of_word (List.mem_filter.mp h).2
theorem UW_tbl {w : Cond} (h : w ∈ UW) : w ∈ lw_tbl := (List.mem_filter.mp h).1
/-! String constants -/
def strIx : List (Nat × String) := [(140, "speed"), (142, "start"), (144, "plate"), (146, "wait"), (148, "run"), (150, "set"), (152, "gust"), (154, "oil"), (156, "runs"), (158, "stood"), (160, "lay")]
def strLen : List Nat := strIx.map fun q => q.2.length
def strByt : List (List Int32) := strIx.map fun q => q.2.toList.map fun ch => Int32.ofNat ch.toNat
def Str0 (u : Nat) (g : GE) (s : State) : Prop := vk_S 11 strLen strByt g.2.2.2.2.1 g.2.2.2.2.2 (Au u g) s s.heap ∧ ∀ (i : Nat) (q : Nat × String), strIx[i]? = some q → vk_R RX5 q.1 q.2 (g.2.2.2.2.1 i) s
def Nst (s : State) : Prop := va_Nw (.methodLinkNest RX6 63 yX11_power "PlateRunner") s ∧ va_Nw (.methodLinkNest RX8 61 yX11_commonDivisor "PlateRunner") s
def SX (u : Nat) (g : GE) (s : State) : Prop := va_Z "java/lang/String" "COMPACT_STRINGS" "Z" (.int 1) (Au u g) s s.heap ∧ va_Zq "jdk/internal/util/Preconditions" "SIOOBE_FORMATTER" "Ljava/util/function/BiFunction;" (Au u g) s s.heap
def Strs (u : Nat) (g : GE) (s : State) : Prop := Str0 u g s ∧ Nst s ∧ SX u g s
theorem Strs.step {u : Nat} {g : GE} {s U : State} {H : Heap} {locs : List Loc} (h : Strs u g s) (hS : va_S (Au u g) s.heap H locs) (hW : s.WarmedH U.vm) (hU : U.heap = H) : Strs u g U := by
  subst hU
  exact ⟨⟨(h.1.1.kept fun a h1 h2 => hS.2.1 a h1 h2).moved hW.alike, fun i q hi => (h.1.2 i q hi).warm hW⟩, ⟨h.2.1.1.warmM hW, h.2.1.2.warmM hW⟩, (h.2.2.1.kept fun a h1 h2 => hS.2.1 a h1 h2).moved hW.alike, (h.2.2.2.kept fun a h1 h2 => hS.2.1 a h1 h2).moved hW.alike⟩
/-! THE JUDGEMENT: from pc, with these locals and this stack and this flat heap, the method comes to its end as o says -/
def rm (d : Nat) : Room := { frames := d, cells := 0, slots := 0, locals := 64 * d }
def Cx (u : Nat) (g : GE) (M : MI) (p : Program) (s : State) (m : MethodId) (args : Array Value) (meth : Method) (c : Code) : Prop :=
  p.tables.exec = Jvm.exec ∧ c.code = M.2.1 ∧ meth.sig.returnType = M.2.2.2 ∧ c.maxLocals = M.2.2.1 ∧ s.vm.findClass M.1.cls = some m.cls ∧ (∀ w ∈ UW, w.before args s = true) ∧ va_K g.2.2.1 vwCl (tysOf g) s ∧ meth.locks = false ∧ Inj u g ∧ Strs u g s
def QC {ρ : Type} (cv : ρ → Option Value) (u : Nat) (g : GE) (r : ρ) (h' : Hp) : Array Value → State → Outcome → State → Prop := fun _ st oc t => oc = .returned (cv r) ∧ va_P g.2.2.1 vwCl (wsOf u g h') t.heap ∧ va_F (Au u g) st t
def Sim {ρ : Type} (cv : ρ → Option Value) (u : Nat) (g : GE) (M : MI) (d pc : Nat) (ls : List (Nat × Value)) (st : List Value) (h : Hp) (o : Option (ρ × Hp)) : Prop :=
  ∀ (r : ρ) (h' : Hp), o = some (r, h') → ∀ (p : Program) (e : Env) (s : State) (m : MethodId) (args : Array Value) (below : List Frame) (meth : Method) (c : Code) (H : Heap) (locs : List Loc) (lsA : Array Slot), Cx u g M p s m args meth c → va_P g.2.2.1 vwCl (wsOf u g h) H → va_S (Au u g) s.heap H locs → lv_has lsA M.2.2.1 ls → W p g.2.2.2.1 e (rm d) s m args below meth c H locs 0 0 (MQ below (QC cv u g r h') args s 0 0 (Au u g)) (F0 m pc lsA st)
/-- a method's contract -/
def Con {ρ : Type} (cv : ρ → Option Value) (u : Nat) (g : GE) (M : MI) (d : Nat) (as : List Value) (h : Hp) (o : Option (ρ × Hp)) : Prop :=
  ∀ (r : ρ) (h' : Hp), o = some (r, h') → Met g.2.2.2.1 M.1 (Cond.code M.1 M.2.1 M.2.2.1 M.2.2.2 :: UW) (rm d) (va_Pc as (fun U => va_P g.2.2.1 vwCl (wsOf u g h) U.heap ∧ va_K g.2.2.1 vwCl (tysOf g) U ∧ Inj u g ∧ Strs u g U)) (QC cv u g r h') 0 0 (Au u g)
theorem Con.of {ρ : Type} {cv : ρ → Option Value} {u : Nat} {g : GE} {M : MI} {d : Nat} {as : List Value} {h : Hp} {o : Option (ρ × Hp)} (hy : plainName M.1.cls = true) (hn : (lg_sl as).length ≤ M.2.2.1) (hs : Sim cv u g M d 0 (lv_args 0 as) [] h o) : Con cv u g M d as h o := by
  intro r h' ho
  refine Met.ofW (cc := M.2.1) (maxL := M.2.2.1) (ret := M.2.2.2) hy rfl ?_
  intro p e s m args below meth c s₁ B hml hv
  obtain ⟨rfl, hP, hK, hI, hStr⟩ := hv
  have hts := atoms_spec (ws := Cond.code M.1 M.2.1 M.2.2.1 M.2.2.2 :: UW) B.pre
  have hown : s.vm.findClass M.1.cls = some m.cls := findClass_of_methodNamed B.named
  have hl := lv_entry as (n := M.2.2.1) hn
  rw [lg_entry_eq]
  exact hs r h' ho p e s m as.toArray below meth c s.heap [] _ ⟨B.exec, B.bytes, B.returns, hml, hown, fun w hw => hts w (List.mem_cons_of_mem _ hw), hK, B.notSynchronized, hI, hStr⟩ hP va_S.rf hl
/-! small words of the functions -/
def ib (i : Int32) (n : Nat) : Bool := !(decide (i < 0)) && decide (i.toNatClampNeg < n)
theorem ib_in {i : Int32} {n : Nat} (h : ib i n = true) : vp_in i n := by
  unfold ib at h
  simp only [Bool.and_eq_true, Bool.not_eq_true', decide_eq_false_iff_not, decide_eq_true_eq] at h
  rintro (a | a)
  · exact h.1 a
  · omega
def ck {α : Type} (b : Bool) (o : Option α) : Option α := if b = true then o else none
theorem ck_some {α : Type} {b : Bool} {o : Option α} {x : α} (h : ck b o = some x) : b = true ∧ o = some x := by
  unfold ck at h
  split at h
  · exact ⟨by assumption, h⟩
  · cases h
def bnd {ρ α : Type} (o : Option (ρ × Hp)) (f : ρ → Hp → Option α) : Option α := match o with
  | some q => f q.1 q.2
  | none => none
theorem bnd_some {ρ α : Type} {o : Option (ρ × Hp)} {f : ρ → Hp → Option α} {x : α} (h : bnd o f = some x) : ∃ r h1, o = some (r, h1) ∧ f r h1 = some x := by
  cases o with
  | none => cases h
  | some q => exact ⟨q.1, q.2, rfl, h⟩
def lt {α β : Type} (x : α) (f : α → β) : β := f x
def nl {α : Type} (q : Option Nat) (a : α) (f : Nat → α) : α := match q with
  | none => a
  | some s => f s
def zk (v : Int32) : Bool := decide (v = 0) || decide (v = 1)
theorem zk_nar {v : Int32} (h : zk v = true) : narrow .boolean (.int v) = .int v := by
  unfold zk at h
  simp only [Bool.or_eq_true, decide_eq_true_eq] at h
  rcases h with rfl | rfl <;> rfl
theorem zk_fit {v : Int32} (h : zk v = true) : fits .boolean (.int v) = true := by
  unfold zk at h
  simp only [Bool.or_eq_true, decide_eq_true_eq] at h
  rcases h with rfl | rfl <;> rfl
def ra (h : Hp) (k s : Nat) (i : Int32) : Int32 := rd h k s i.toNatClampNeg
def wa (h : Hp) (k s : Nat) (i v : Int32) : Hp := wr h k s i.toNatClampNeg v
def cvi : Int32 → Option Value := fun x => some (.int x)
def cvv : Unit → Option Value := fun _ => none
def cvr (g : GE) (k : Nat) : Option Nat → Option Value := fun q => some (rq g k q)
def cvs (g : GE) : Nat → Option Value := fun i => some (.ref (g.2.2.2.2.1 i))

