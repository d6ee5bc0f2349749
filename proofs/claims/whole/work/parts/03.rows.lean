section Rows
variable {ρ : Type} {cv : ρ → Option Value} {u : Nat} {g : GE} {M : MI} {d pc : Nat} {ls : List (Nat × Value)} {st : List Value} {h : Hp} {o : Option (ρ × Hp)}
theorem s_iadd {x y : Int32} (hd : decode M.2.1 pc = .ok (.iadd, 1)) (k : Sim cv u g M d (pc + 1) ls (.int (x + y) :: st) h o) : Sim cv u g M d pc ls (.int y :: .int x :: st) h o := by
  intro r h' ho p e s m args below meth c H locs lsA C hP hS hl
  exact lv_iadd C.1 C.2.1 hd (k r h' ho p e s m args below meth c H locs lsA C hP hS hl)
theorem s_isub {x y : Int32} (hd : decode M.2.1 pc = .ok (.isub, 1)) (k : Sim cv u g M d (pc + 1) ls (.int (x - y) :: st) h o) : Sim cv u g M d pc ls (.int y :: .int x :: st) h o := by
  intro r h' ho p e s m args below meth c H locs lsA C hP hS hl
  exact lv_isub C.1 C.2.1 hd (k r h' ho p e s m args below meth c H locs lsA C hP hS hl)
theorem s_imul {x y : Int32} (hd : decode M.2.1 pc = .ok (.imul, 1)) (k : Sim cv u g M d (pc + 1) ls (.int (x * y) :: st) h o) : Sim cv u g M d pc ls (.int y :: .int x :: st) h o := by
  intro r h' ho p e s m args below meth c H locs lsA C hP hS hl
  exact lv_imul C.1 C.2.1 hd (k r h' ho p e s m args below meth c H locs lsA C hP hS hl)
theorem s_iand {x y : Int32} (hd : decode M.2.1 pc = .ok (.iand, 1)) (k : Sim cv u g M d (pc + 1) ls (.int (x &&& y) :: st) h o) : Sim cv u g M d pc ls (.int y :: .int x :: st) h o := by
  intro r h' ho p e s m args below meth c H locs lsA C hP hS hl
  exact lv_iand C.1 C.2.1 hd (k r h' ho p e s m args below meth c H locs lsA C hP hS hl)
theorem s_ior {x y : Int32} (hd : decode M.2.1 pc = .ok (.ior, 1)) (k : Sim cv u g M d (pc + 1) ls (.int (x ||| y) :: st) h o) : Sim cv u g M d pc ls (.int y :: .int x :: st) h o := by
  intro r h' ho p e s m args below meth c H locs lsA C hP hS hl
  exact lv_ior C.1 C.2.1 hd (k r h' ho p e s m args below meth c H locs lsA C hP hS hl)
theorem s_ixor {x y : Int32} (hd : decode M.2.1 pc = .ok (.ixor, 1)) (k : Sim cv u g M d (pc + 1) ls (.int (x ^^^ y) :: st) h o) : Sim cv u g M d pc ls (.int y :: .int x :: st) h o := by
  intro r h' ho p e s m args below meth c H locs lsA C hP hS hl
  exact lv_ixor C.1 C.2.1 hd (k r h' ho p e s m args below meth c H locs lsA C hP hS hl)
theorem s_ishl {x y : Int32} (hd : decode M.2.1 pc = .ok (.ishl, 1)) (k : Sim cv u g M d (pc + 1) ls (.int (x <<< (y &&& 31)) :: st) h o) : Sim cv u g M d pc ls (.int y :: .int x :: st) h o := by
  intro r h' ho p e s m args below meth c H locs lsA C hP hS hl
  exact lv_ishl C.1 C.2.1 hd (k r h' ho p e s m args below meth c H locs lsA C hP hS hl)
theorem s_ishr {x y : Int32} (hd : decode M.2.1 pc = .ok (.ishr, 1)) (k : Sim cv u g M d (pc + 1) ls (.int (x >>> (y &&& 31)) :: st) h o) : Sim cv u g M d pc ls (.int y :: .int x :: st) h o := by
  intro r h' ho p e s m args below meth c H locs lsA C hP hS hl
  exact lv_ishr C.1 C.2.1 hd (k r h' ho p e s m args below meth c H locs lsA C hP hS hl)
theorem s_iushr {x y : Int32} (hd : decode M.2.1 pc = .ok (.iushr, 1)) (k : Sim cv u g M d (pc + 1) ls (.int ((x.toUInt32 >>> (y.toUInt32 &&& Int32.toUInt32 31)).toInt32) :: st) h o) : Sim cv u g M d pc ls (.int y :: .int x :: st) h o := by
  intro r h' ho p e s m args below meth c H locs lsA C hP hS hl
  exact lv_iushr C.1 C.2.1 hd rfl (k r h' ho p e s m args below meth c H locs lsA C hP hS hl)
theorem s_i2b {x : Int32} (hd : decode M.2.1 pc = .ok (.i2b, 1)) (k : Sim cv u g M d (pc + 1) ls (.int (x.toInt8.toInt32) :: st) h o) : Sim cv u g M d pc ls (.int x :: st) h o := by
  intro r h' ho p e s m args below meth c H locs lsA C hP hS hl
  exact lv_i2b C.1 C.2.1 hd rfl (k r h' ho p e s m args below meth c H locs lsA C hP hS hl)
theorem s_i2s {x : Int32} (hd : decode M.2.1 pc = .ok (.i2s, 1)) (k : Sim cv u g M d (pc + 1) ls (.int (x.toInt16.toInt32) :: st) h o) : Sim cv u g M d pc ls (.int x :: st) h o := by
  intro r h' ho p e s m args below meth c H locs lsA C hP hS hl
  exact lv_i2s C.1 C.2.1 hd rfl (k r h' ho p e s m args below meth c H locs lsA C hP hS hl)
theorem s_i2l {x : Int32} (hd : decode M.2.1 pc = .ok (.i2l, 1)) (k : Sim cv u g M d (pc + 1) ls (.long x.toInt64 :: st) h o) : Sim cv u g M d pc ls (.int x :: st) h o := by
  intro r h' ho p e s m args below meth c H locs lsA C hP hS hl
  exact lv_i2l C.1 C.2.1 hd rfl (k r h' ho p e s m args below meth c H locs lsA C hP hS hl)
theorem s_lshl {x : Int64} {y : Int32} (hd : decode M.2.1 pc = .ok (.lshl, 1)) (k : Sim cv u g M d (pc + 1) ls (.long (x <<< (y.toInt64 &&& 63)) :: st) h o) : Sim cv u g M d pc ls (.int y :: .long x :: st) h o := by
  intro r h' ho p e s m args below meth c H locs lsA C hP hS hl
  exact lv_lshl C.1 C.2.1 hd rfl (k r h' ho p e s m args below meth c H locs lsA C hP hS hl)
theorem s_lor {x y : Int64} (hd : decode M.2.1 pc = .ok (.lor, 1)) (k : Sim cv u g M d (pc + 1) ls (.long (x ||| y) :: st) h o) : Sim cv u g M d pc ls (.long y :: .long x :: st) h o := by
  intro r h' ho p e s m args below meth c H locs lsA C hP hS hl
  exact lv_lor C.1 C.2.1 hd (k r h' ho p e s m args below meth c H locs lsA C hP hS hl)
theorem s_lcmp {x y : Int64} (hd : decode M.2.1 pc = .ok (.lcmp, 1)) (k : Sim cv u g M d (pc + 1) ls (.int (lg_cmp x y) :: st) h o) : Sim cv u g M d pc ls (.long y :: .long x :: st) h o := by
  intro r h' ho p e s m args below meth c H locs lsA C hP hS hl
  exact W.lcmp C.1 C.2.1 hd (k r h' ho p e s m args below meth c H locs lsA C hP hS hl)
def irm (x y : Int32) : Int32 := x - x / y * y
theorem s_idivc {x y : Int32} (hd : decode M.2.1 pc = .ok (.idiv, 1)) (hne : ¬ y = 0) (k : Sim cv u g M d (pc + 1) ls (.int (x / y) :: st) h o) : Sim cv u g M d pc ls (.int y :: .int x :: st) h o := by
  intro r h' ho p e s m args below meth c H locs lsA C hP hS hl
  exact lv_idiv C.1 C.2.1 hd hne (k r h' ho p e s m args below meth c H locs lsA C hP hS hl)
theorem s_idiv {x y : Int32} (hd : decode M.2.1 pc = .ok (.idiv, 1)) (k : Sim cv u g M d (pc + 1) ls (.int (x / y) :: st) h o) : Sim cv u g M d pc ls (.int y :: .int x :: st) h (ck (!decide (y = 0)) o) := by
  intro r h' ho p e s m args below meth c H locs lsA C hP hS hl
  obtain ⟨hb, ho⟩ := ck_some ho
  exact lv_idiv C.1 C.2.1 hd (by simpa using hb) (k r h' ho p e s m args below meth c H locs lsA C hP hS hl)
theorem s_iremc {x y : Int32} (hd : decode M.2.1 pc = .ok (.irem, 1)) (hne : ¬ y = 0) (k : Sim cv u g M d (pc + 1) ls (.int (irm x y) :: st) h o) : Sim cv u g M d pc ls (.int y :: .int x :: st) h o := by
  intro r h' ho p e s m args below meth c H locs lsA C hP hS hl
  exact lv_irem C.1 C.2.1 hd hne (k r h' ho p e s m args below meth c H locs lsA C hP hS hl)
theorem s_irem {x y : Int32} (hd : decode M.2.1 pc = .ok (.irem, 1)) (k : Sim cv u g M d (pc + 1) ls (.int (irm x y) :: st) h o) : Sim cv u g M d pc ls (.int y :: .int x :: st) h (ck (!decide (y = 0)) o) := by
  intro r h' ho p e s m args below meth c H locs lsA C hP hS hl
  obtain ⟨hb, ho⟩ := ck_some ho
  exact lv_irem C.1 C.2.1 hd (by simpa using hb) (k r h' ho p e s m args below meth c H locs lsA C hP hS hl)
theorem s_iconst {n : Int} {v : Int32} (hd : decode M.2.1 pc = .ok (.iconst n, 1)) (hv : Int32.ofInt n = v) (k : Sim cv u g M d (pc + 1) ls (.int v :: st) h o) : Sim cv u g M d pc ls st h o := by
  intro r h' ho p e s m args below meth c H locs lsA C hP hS hl
  exact lv_iconst C.1 C.2.1 hd hv (k r h' ho p e s m args below meth c H locs lsA C hP hS hl)
theorem s_bipush {n : Int} {v : Int32} (hd : decode M.2.1 pc = .ok (.bipush n, 2)) (hv : (Int8.ofInt n).toInt32 = v) (k : Sim cv u g M d (pc + 2) ls (.int v :: st) h o) : Sim cv u g M d pc ls st h o := by
  intro r h' ho p e s m args below meth c H locs lsA C hP hS hl
  exact lv_bipush C.1 C.2.1 hd hv (k r h' ho p e s m args below meth c H locs lsA C hP hS hl)
theorem s_sipush {n : Int} {v : Int32} (hd : decode M.2.1 pc = .ok (.sipush n, 3)) (hv : (Int16.ofInt n).toInt32 = v) (k : Sim cv u g M d (pc + 3) ls (.int v :: st) h o) : Sim cv u g M d pc ls st h o := by
  intro r h' ho p e s m args below meth c H locs lsA C hP hS hl
  exact lv_sipush C.1 C.2.1 hd hv (k r h' ho p e s m args below meth c H locs lsA C hP hS hl)
theorem s_lconst {n : Fin 2} {v : Int64} (hd : decode M.2.1 pc = .ok (.lconst n, 1)) (hv : Int64.ofNat (n : Nat) = v) (k : Sim cv u g M d (pc + 1) ls (.long v :: st) h o) : Sim cv u g M d pc ls st h o := by
  intro r h' ho p e s m args below meth c H locs lsA C hP hS hl
  exact lv_lconst C.1 C.2.1 hd hv (k r h' ho p e s m args below meth c H locs lsA C hP hS hl)
theorem s_ldc {ix : Nat} {v : Int32} (hd : decode M.2.1 pc = .ok (.ldc ix, 2)) (hw : Cond.constant M.1.cls ix v ∈ UW) (k : Sim cv u g M d (pc + 2) ls (.int v :: st) h o) : Sim cv u g M d pc ls st h o := by
  intro r h' ho p e s m args below meth c H locs lsA C hP hS hl
  exact lv_ldc C.1 C.2.1 C.2.2.2.2.1 (C.2.2.2.2.2.1 _ hw) hd (k r h' ho p e s m args below meth c H locs lsA C hP hS hl)
theorem s_ldcw {ix : Nat} {v : Int32} (hd : decode M.2.1 pc = .ok (.ldc_w ix, 3)) (hw : Cond.constant M.1.cls ix v ∈ UW) (k : Sim cv u g M d (pc + 3) ls (.int v :: st) h o) : Sim cv u g M d pc ls st h o := by
  intro r h' ho p e s m args below meth c H locs lsA C hP hS hl
  exact lv_ldcw C.1 C.2.1 C.2.2.2.2.1 (C.2.2.2.2.2.1 _ hw) hd (k r h' ho p e s m args below meth c H locs lsA C hP hS hl)
theorem s_ldc2 {ix : Nat} {v : Int64} (hd : decode M.2.1 pc = .ok (.ldc2_w ix, 3)) (hw : Cond.constantLong M.1.cls ix v ∈ UW) (k : Sim cv u g M d (pc + 3) ls (.long v :: st) h o) : Sim cv u g M d pc ls st h o := by
  intro r h' ho p e s m args below meth c H locs lsA C hP hS hl
  exact lv_ldc2 C.1 C.2.1 C.2.2.2.2.1 (C.2.2.2.2.2.1 _ hw) hd (k r h' ho p e s m args below meth c H locs lsA C hP hS hl)
theorem s_null  (hd : decode M.2.1 pc = .ok (.aconst_null, 1)) (k : Sim cv u g M d (pc + 1) ls (.null :: st) h o) : Sim cv u g M d pc ls st h o := by
  intro r h' ho p e s m args below meth c H locs lsA C hP hS hl
  exact lv_null C.1 C.2.1 hd (k r h' ho p e s m args below meth c H locs lsA C hP hS hl)
theorem s_dup {v : Value} (hd : decode M.2.1 pc = .ok (.dup, 1)) (hc : v.category = 1) (k : Sim cv u g M d (pc + 1) ls (v :: v :: st) h o) : Sim cv u g M d pc ls (v :: st) h o := by
  intro r h' ho p e s m args below meth c H locs lsA C hP hS hl
  exact lv_dup C.1 C.2.1 hd hc (k r h' ho p e s m args below meth c H locs lsA C hP hS hl)
theorem s_pop {v : Value} (hd : decode M.2.1 pc = .ok (.pop, 1)) (hc : v.category = 1) (k : Sim cv u g M d (pc + 1) ls st h o) : Sim cv u g M d pc ls (v :: st) h o := by
  intro r h' ho p e s m args below meth c H locs lsA C hP hS hl
  exact lv_pop C.1 C.2.1 hd hc (k r h' ho p e s m args below meth c H locs lsA C hP hS hl)
theorem s_dup2 {v w : Value} (hd : decode M.2.1 pc = .ok (.dup2, 1)) (hv : v.category = 1) (hw : w.category = 1) (k : Sim cv u g M d (pc + 1) ls (v :: w :: v :: w :: st) h o) : Sim cv u g M d pc ls (v :: w :: st) h o := by
  intro r h' ho p e s m args below meth c H locs lsA C hP hS hl
  exact lv_dup2_11 C.1 C.2.1 hd hv hw (k r h' ho p e s m args below meth c H locs lsA C hP hS hl)
theorem s_dup_x1 {v w : Value} (hd : decode M.2.1 pc = .ok (.dup_x1, 1)) (hv : v.category = 1) (hw : w.category = 1) (k : Sim cv u g M d (pc + 1) ls (v :: w :: v :: st) h o) : Sim cv u g M d pc ls (v :: w :: st) h o := by
  intro r h' ho p e s m args below meth c H locs lsA C hP hS hl
  exact lv_dup_x1 C.1 C.2.1 hd hv hw (k r h' ho p e s m args below meth c H locs lsA C hP hS hl)
theorem s_dup_x2 {v w z : Value} (hd : decode M.2.1 pc = .ok (.dup_x2, 1)) (hv : v.category = 1) (hw : w.category = 1) (hz : z.category = 1) (k : Sim cv u g M d (pc + 1) ls (v :: w :: z :: v :: st) h o) : Sim cv u g M d pc ls (v :: w :: z :: st) h o := by
  intro r h' ho p e s m args below meth c H locs lsA C hP hS hl
  exact lv_dup_x2 C.1 C.2.1 hd hv hw hz (k r h' ho p e s m args below meth c H locs lsA C hP hS hl)
theorem s_iload_n (j : Nat) {kk : Fin 4} {i : Nat} {x : Int32} (hd : decode M.2.1 pc = .ok (.iload_n kk, 1)) (hi : (kk : Nat) = i) (hj : ls[j]? = some (i, .int x)) (k : Sim cv u g M d (pc + 1) ls (.int x :: st) h o) : Sim cv u g M d pc ls st h o := by
  intro r h' ho p e s m args below meth c H locs lsA C hP hS hl
  exact lv_iload_n C.1 C.2.1 hd hi (lv_at hl j hj) (k r h' ho p e s m args below meth c H locs lsA C hP hS hl)
theorem s_iload (j : Nat) {i : Nat} {x : Int32} (hd : decode M.2.1 pc = .ok (.iload i, 2)) (hj : ls[j]? = some (i, .int x)) (k : Sim cv u g M d (pc + 2) ls (.int x :: st) h o) : Sim cv u g M d pc ls st h o := by
  intro r h' ho p e s m args below meth c H locs lsA C hP hS hl
  exact lv_iload C.1 C.2.1 hd (lv_at hl j hj) (k r h' ho p e s m args below meth c H locs lsA C hP hS hl)
theorem s_lload_n (j : Nat) {kk : Fin 4} {i : Nat} {x : Int64} (hd : decode M.2.1 pc = .ok (.lload_n kk, 1)) (hi : (kk : Nat) = i) (hj : ls[j]? = some (i, .long x)) (k : Sim cv u g M d (pc + 1) ls (.long x :: st) h o) : Sim cv u g M d pc ls st h o := by
  intro r h' ho p e s m args below meth c H locs lsA C hP hS hl
  exact lv_lload_n C.1 C.2.1 hd hi (lv_at hl j hj) (k r h' ho p e s m args below meth c H locs lsA C hP hS hl)
theorem s_lload (j : Nat) {i : Nat} {x : Int64} (hd : decode M.2.1 pc = .ok (.lload i, 2)) (hj : ls[j]? = some (i, .long x)) (k : Sim cv u g M d (pc + 2) ls (.long x :: st) h o) : Sim cv u g M d pc ls st h o := by
  intro r h' ho p e s m args below meth c H locs lsA C hP hS hl
  exact lv_lload C.1 C.2.1 hd (lv_at hl j hj) (k r h' ho p e s m args below meth c H locs lsA C hP hS hl)
theorem s_aload_n (j : Nat) {kk : Fin 4} {i : Nat} {x : Nat} (hd : decode M.2.1 pc = .ok (.aload_n kk, 1)) (hi : (kk : Nat) = i) (hj : ls[j]? = some (i, .ref x)) (k : Sim cv u g M d (pc + 1) ls (.ref x :: st) h o) : Sim cv u g M d pc ls st h o := by
  intro r h' ho p e s m args below meth c H locs lsA C hP hS hl
  exact lv_aload_n C.1 C.2.1 hd hi (lv_at hl j hj) (k r h' ho p e s m args below meth c H locs lsA C hP hS hl)
theorem s_aload (j : Nat) {i : Nat} {x : Nat} (hd : decode M.2.1 pc = .ok (.aload i, 2)) (hj : ls[j]? = some (i, .ref x)) (k : Sim cv u g M d (pc + 2) ls (.ref x :: st) h o) : Sim cv u g M d pc ls st h o := by
  intro r h' ho p e s m args below meth c H locs lsA C hP hS hl
  exact lv_aload C.1 C.2.1 hd (lv_at hl j hj) (k r h' ho p e s m args below meth c H locs lsA C hP hS hl)
theorem s_aloadq_n (j : Nat) {kk : Fin 4} {i kd : Nat} {q : Option Nat} (hd : decode M.2.1 pc = .ok (.aload_n kk, 1)) (hi : (kk : Nat) = i) (hj : ls[j]? = some (i, rq g kd q)) (k : Sim cv u g M d (pc + 1) ls (rq g kd q :: st) h o) : Sim cv u g M d pc ls st h o := by
  intro r h' ho p e s m args below meth c H locs lsA C hP hS hl
  cases q with
  | none => exact lv_aload_nN C.1 C.2.1 hd hi (lv_at hl j hj) (k r h' ho p e s m args below meth c H locs lsA C hP hS hl)
  | some a => exact lv_aload_n C.1 C.2.1 hd hi (lv_at hl j hj) (k r h' ho p e s m args below meth c H locs lsA C hP hS hl)
theorem s_aloadq (j : Nat) {i kd : Nat} {q : Option Nat} (hd : decode M.2.1 pc = .ok (.aload i, 2)) (hj : ls[j]? = some (i, rq g kd q)) (k : Sim cv u g M d (pc + 2) ls (rq g kd q :: st) h o) : Sim cv u g M d pc ls st h o := by
  intro r h' ho p e s m args below meth c H locs lsA C hP hS hl
  cases q with
  | none => exact lv_aloadN C.1 C.2.1 hd (lv_at hl j hj) (k r h' ho p e s m args below meth c H locs lsA C hP hS hl)
  | some a => exact lv_aload C.1 C.2.1 hd (lv_at hl j hj) (k r h' ho p e s m args below meth c H locs lsA C hP hS hl)
theorem s_istore_n {kk : Fin 4} {i : Nat} {x : Int32} {ls' : List (Nat × Value)} (hd : decode M.2.1 pc = .ok (.istore_n kk, 1)) (hi : (kk : Nat) = i) (hn : i < M.2.2.1) (he : (i, Value.int x) :: ls.filter (fun q => !(q.1 == i) && !(q.1 + 1 == i && q.2.category == 2)) = ls') (k : Sim cv u g M d (pc + 1) ls' st h o) : Sim cv u g M d pc ls (.int x :: st) h o := by
  intro r h' ho p e s m args below meth c H locs lsA C hP hS hl
  exact lv_istore_n C.1 C.2.1 hd hi hl hn he (fun lsA hl => k r h' ho p e s m args below meth c H locs lsA C hP hS hl)
theorem s_istore {i : Nat} {x : Int32} {ls' : List (Nat × Value)} (hd : decode M.2.1 pc = .ok (.istore i, 2)) (hn : i < M.2.2.1) (he : (i, Value.int x) :: ls.filter (fun q => !(q.1 == i) && !(q.1 + 1 == i && q.2.category == 2)) = ls') (k : Sim cv u g M d (pc + 2) ls' st h o) : Sim cv u g M d pc ls (.int x :: st) h o := by
  intro r h' ho p e s m args below meth c H locs lsA C hP hS hl
  exact lv_istore C.1 C.2.1 hd hl hn he (fun lsA hl => k r h' ho p e s m args below meth c H locs lsA C hP hS hl)
theorem s_lstore_n {kk : Fin 4} {i : Nat} {x : Int64} {ls' : List (Nat × Value)} (hd : decode M.2.1 pc = .ok (.lstore_n kk, 1)) (hi : (kk : Nat) = i) (hn : i + 1 < M.2.2.1) (he : (i, Value.long x) :: ls.filter (fun q => !(q.1 == i) && (!(q.1 == i + 1) && !(q.1 + 1 == i && q.2.category == 2))) = ls') (k : Sim cv u g M d (pc + 1) ls' st h o) : Sim cv u g M d pc ls (.long x :: st) h o := by
  intro r h' ho p e s m args below meth c H locs lsA C hP hS hl
  exact lv_lstore_n C.1 C.2.1 hd hi hl hn he (fun lsA hl => k r h' ho p e s m args below meth c H locs lsA C hP hS hl)
theorem s_lstore {i : Nat} {x : Int64} {ls' : List (Nat × Value)} (hd : decode M.2.1 pc = .ok (.lstore i, 2)) (hn : i + 1 < M.2.2.1) (he : (i, Value.long x) :: ls.filter (fun q => !(q.1 == i) && (!(q.1 == i + 1) && !(q.1 + 1 == i && q.2.category == 2))) = ls') (k : Sim cv u g M d (pc + 2) ls' st h o) : Sim cv u g M d pc ls (.long x :: st) h o := by
  intro r h' ho p e s m args below meth c H locs lsA C hP hS hl
  exact lv_lstore C.1 C.2.1 hd hl hn he (fun lsA hl => k r h' ho p e s m args below meth c H locs lsA C hP hS hl)
theorem s_astore_n {kk : Fin 4} {i : Nat} {x : Nat} {ls' : List (Nat × Value)} (hd : decode M.2.1 pc = .ok (.astore_n kk, 1)) (hi : (kk : Nat) = i) (hn : i < M.2.2.1) (he : (i, Value.ref x) :: ls.filter (fun q => !(q.1 == i) && !(q.1 + 1 == i && q.2.category == 2)) = ls') (k : Sim cv u g M d (pc + 1) ls' st h o) : Sim cv u g M d pc ls (.ref x :: st) h o := by
  intro r h' ho p e s m args below meth c H locs lsA C hP hS hl
  exact lv_astore_n C.1 C.2.1 hd hi hl hn he (fun lsA hl => k r h' ho p e s m args below meth c H locs lsA C hP hS hl)
theorem s_astore {i : Nat} {x : Nat} {ls' : List (Nat × Value)} (hd : decode M.2.1 pc = .ok (.astore i, 2)) (hn : i < M.2.2.1) (he : (i, Value.ref x) :: ls.filter (fun q => !(q.1 == i) && !(q.1 + 1 == i && q.2.category == 2)) = ls') (k : Sim cv u g M d (pc + 2) ls' st h o) : Sim cv u g M d pc ls (.ref x :: st) h o := by
  intro r h' ho p e s m args below meth c H locs lsA C hP hS hl
  exact lv_astore C.1 C.2.1 hd hl hn he (fun lsA hl => k r h' ho p e s m args below meth c H locs lsA C hP hS hl)
theorem cat_rq (g : GE) (k : Nat) (q : Option Nat) : (rq g k q).category = 1 := by cases q <;> rfl
theorem s_astoreq_n {kk : Fin 4} {i kd : Nat} {q : Option Nat} {ls' : List (Nat × Value)} (hd : decode M.2.1 pc = .ok (.astore_n kk, 1)) (hi : (kk : Nat) = i) (hn : i < M.2.2.1) (hc : ∀ q ∈ ls, q.2.category = 1) (he : (i, rq g kd q) :: ls.filter (fun q => !(q.1 == i)) = ls') (k : Sim cv u g M d (pc + 1) ls' st h o) : Sim cv u g M d pc ls (rq g kd q :: st) h o := by
  intro r h' ho p e s m args below meth c H locs lsA C hP hS hl
  have hf : ls.filter (fun q => !(q.1 == i) && !(q.1 + 1 == i && q.2.category == 2)) = ls.filter (fun q => !(q.1 == i)) := List.filter_congr (fun q hq => by rw [hc q hq]; simp)
  cases q with
  | none => exact lv_astore_nN C.1 C.2.1 hd hi hl hn (by rw [hf]; exact he) (fun lsA hl => k r h' ho p e s m args below meth c H locs lsA C hP hS hl)
  | some a => exact lv_astore_n C.1 C.2.1 hd hi hl hn (by rw [hf]; exact he) (fun lsA hl => k r h' ho p e s m args below meth c H locs lsA C hP hS hl)
theorem s_astoreq {i kd : Nat} {q : Option Nat} {ls' : List (Nat × Value)} (hd : decode M.2.1 pc = .ok (.astore i, 2)) (hn : i < M.2.2.1) (hc : ∀ q ∈ ls, q.2.category = 1) (he : (i, rq g kd q) :: ls.filter (fun q => !(q.1 == i)) = ls') (k : Sim cv u g M d (pc + 2) ls' st h o) : Sim cv u g M d pc ls (rq g kd q :: st) h o := by
  intro r h' ho p e s m args below meth c H locs lsA C hP hS hl
  have hf : ls.filter (fun q => !(q.1 == i) && !(q.1 + 1 == i && q.2.category == 2)) = ls.filter (fun q => !(q.1 == i)) := List.filter_congr (fun q hq => by rw [hc q hq]; simp)
  cases q with
  | none => exact lv_astoreN C.1 C.2.1 hd hl hn (by rw [hf]; exact he) (fun lsA hl => k r h' ho p e s m args below meth c H locs lsA C hP hS hl)
  | some a => exact lv_astore C.1 C.2.1 hd hl hn (by rw [hf]; exact he) (fun lsA hl => k r h' ho p e s m args below meth c H locs lsA C hP hS hl)
theorem s_iinc (j : Nat) {i : Nat} {n : Int} {x w v : Int32} {ls' : List (Nat × Value)} (hd : decode M.2.1 pc = .ok (.iinc i n, 3)) (hj : ls[j]? = some (i, .int x)) (hw : Int32.ofInt n = w) (hv : x + w = v) (hn : i < M.2.2.1) (he : (i, Value.int v) :: ls.filter (fun q => !(q.1 == i) && !(q.1 + 1 == i && q.2.category == 2)) = ls') (k : Sim cv u g M d (pc + 3) ls' st h o) : Sim cv u g M d pc ls st h o := by
  intro r h' ho p e s m args below meth c H locs lsA C hP hS hl
  exact lv_iinc C.1 C.2.1 hd hl hj (by rw [hw]; exact hv) hn he (fun lsA hl => k r h' ho p e s m args below meth c H locs lsA C hP hS hl)
/-- fewer known locals -/
theorem s_sub {ls' : List (Nat × Value)} (ks : List Nat) (he : lv_pick ls ks = ls') (k : Sim cv u g M d pc ls' st h o) : Sim cv u g M d pc ls st h o := by
  intro r h' ho p e s m args below meth c H locs lsA C hP hS hl
  exact k r h' ho p e s m args below meth c H locs lsA C hP hS (lv_sub hl ks he)
/-- a name for a computed value -/
theorem s_let {α : Type} {x : α} {f : α → Option (ρ × Hp)} {L : α → List (Nat × Value)} {T : α → List Value} {G : α → Hp} (k : ∀ y : α, Sim cv u g M d pc (L y) (T y) (G y) (f y)) : Sim cv u g M d pc (L x) (T x) (G x) (lt x f) := k x
theorem s_leti {x : Int32} {f : Int32 → Option (ρ × Hp)} (k : ∀ y : Int32, Sim cv u g M d pc ls (.int y :: st) h (f y)) : Sim cv u g M d pc ls (.int x :: st) h (lt x f) := k x
theorem s_letl {x : Int64} {f : Int64 → Option (ρ × Hp)} (k : ∀ y : Int64, Sim cv u g M d pc ls (.long y :: st) h (f y)) : Sim cv u g M d pc ls (.long x :: st) h (lt x f) := k x
theorem s_goto {off : Int} {tgt : Nat} (hd : decode M.2.1 pc = .ok (.goto off, 3)) (ht : (pc : Int) + off = (tgt : Int)) (k : Sim cv u g M d tgt ls st h o) : Sim cv u g M d pc ls st h o := by
  intro r h' ho p e s m args below meth c H locs lsA C hP hS hl
  exact lv_goto C.1 C.2.1 hd ht (k r h' ho p e s m args below meth c H locs lsA C hP hS hl)
theorem s_if_eq {x : Int32} {off : Int} {tgt : Nat} {o1 o2 : Option (ρ × Hp)} (hd : decode M.2.1 pc = .ok (.ifCond .eq off, 3)) (ht : (pc : Int) + off = (tgt : Int)) (kt : Sim cv u g M d tgt ls st h o1) (kf : Sim cv u g M d (pc + 3) ls st h o2) : Sim cv u g M d pc ls (.int x :: st) h (if x = 0 then o1 else o2) := by
  intro r h' ho p e s m args below meth c H locs lsA C hP hS hl
  exact lv_if_eq C.1 C.2.1 hd ht (fun hc => kt r h' (by rw [if_pos hc] at ho; exact ho) p e s m args below meth c H locs lsA C hP hS hl) (fun hc => kf r h' (by rw [if_neg hc] at ho; exact ho) p e s m args below meth c H locs lsA C hP hS hl)
theorem s_icmp_eq {x y : Int32} {off : Int} {tgt : Nat} {o1 o2 : Option (ρ × Hp)} (hd : decode M.2.1 pc = .ok (.if_icmp .eq off, 3)) (ht : (pc : Int) + off = (tgt : Int)) (kt : Sim cv u g M d tgt ls st h o1) (kf : Sim cv u g M d (pc + 3) ls st h o2) : Sim cv u g M d pc ls (.int y :: .int x :: st) h (if x = y then o1 else o2) := by
  intro r h' ho p e s m args below meth c H locs lsA C hP hS hl
  exact lv_icmp_eq C.1 C.2.1 hd ht (fun hc => kt r h' (by rw [if_pos hc] at ho; exact ho) p e s m args below meth c H locs lsA C hP hS hl) (fun hc => kf r h' (by rw [if_neg hc] at ho; exact ho) p e s m args below meth c H locs lsA C hP hS hl)
theorem s_if_ne {x : Int32} {off : Int} {tgt : Nat} {o1 o2 : Option (ρ × Hp)} (hd : decode M.2.1 pc = .ok (.ifCond .ne off, 3)) (ht : (pc : Int) + off = (tgt : Int)) (kf : Sim cv u g M d (pc + 3) ls st h o1) (kt : Sim cv u g M d tgt ls st h o2) : Sim cv u g M d pc ls (.int x :: st) h (if x = 0 then o1 else o2) := by
  intro r h' ho p e s m args below meth c H locs lsA C hP hS hl
  exact lv_if_ne C.1 C.2.1 hd ht (fun hc => kt r h' (by rw [if_neg hc] at ho; exact ho) p e s m args below meth c H locs lsA C hP hS hl) (fun hc => kf r h' (by rw [if_pos (by simpa using hc)] at ho; exact ho) p e s m args below meth c H locs lsA C hP hS hl)
theorem s_icmp_ne {x y : Int32} {off : Int} {tgt : Nat} {o1 o2 : Option (ρ × Hp)} (hd : decode M.2.1 pc = .ok (.if_icmp .ne off, 3)) (ht : (pc : Int) + off = (tgt : Int)) (kf : Sim cv u g M d (pc + 3) ls st h o1) (kt : Sim cv u g M d tgt ls st h o2) : Sim cv u g M d pc ls (.int y :: .int x :: st) h (if x = y then o1 else o2) := by
  intro r h' ho p e s m args below meth c H locs lsA C hP hS hl
  exact lv_icmp_ne C.1 C.2.1 hd ht (fun hc => kt r h' (by rw [if_neg hc] at ho; exact ho) p e s m args below meth c H locs lsA C hP hS hl) (fun hc => kf r h' (by rw [if_pos (by simpa using hc)] at ho; exact ho) p e s m args below meth c H locs lsA C hP hS hl)
theorem s_if_lt {x : Int32} {off : Int} {tgt : Nat} {o1 o2 : Option (ρ × Hp)} (hd : decode M.2.1 pc = .ok (.ifCond .lt off, 3)) (ht : (pc : Int) + off = (tgt : Int)) (kt : Sim cv u g M d tgt ls st h o1) (kf : Sim cv u g M d (pc + 3) ls st h o2) : Sim cv u g M d pc ls (.int x :: st) h (if x < 0 then o1 else o2) := by
  intro r h' ho p e s m args below meth c H locs lsA C hP hS hl
  exact lv_if_lt C.1 C.2.1 hd ht (fun hc => kt r h' (by rw [if_pos hc] at ho; exact ho) p e s m args below meth c H locs lsA C hP hS hl) (fun hc => kf r h' (by rw [if_neg hc] at ho; exact ho) p e s m args below meth c H locs lsA C hP hS hl)
theorem s_icmp_lt {x y : Int32} {off : Int} {tgt : Nat} {o1 o2 : Option (ρ × Hp)} (hd : decode M.2.1 pc = .ok (.if_icmp .lt off, 3)) (ht : (pc : Int) + off = (tgt : Int)) (kt : Sim cv u g M d tgt ls st h o1) (kf : Sim cv u g M d (pc + 3) ls st h o2) : Sim cv u g M d pc ls (.int y :: .int x :: st) h (if x < y then o1 else o2) := by
  intro r h' ho p e s m args below meth c H locs lsA C hP hS hl
  exact lv_icmp_lt C.1 C.2.1 hd ht (fun hc => kt r h' (by rw [if_pos hc] at ho; exact ho) p e s m args below meth c H locs lsA C hP hS hl) (fun hc => kf r h' (by rw [if_neg hc] at ho; exact ho) p e s m args below meth c H locs lsA C hP hS hl)
theorem s_if_ge {x : Int32} {off : Int} {tgt : Nat} {o1 o2 : Option (ρ × Hp)} (hd : decode M.2.1 pc = .ok (.ifCond .ge off, 3)) (ht : (pc : Int) + off = (tgt : Int)) (kt : Sim cv u g M d tgt ls st h o1) (kf : Sim cv u g M d (pc + 3) ls st h o2) : Sim cv u g M d pc ls (.int x :: st) h (if 0 ≤ x then o1 else o2) := by
  intro r h' ho p e s m args below meth c H locs lsA C hP hS hl
  exact lv_if_ge C.1 C.2.1 hd ht (fun hc => kt r h' (by rw [if_pos hc] at ho; exact ho) p e s m args below meth c H locs lsA C hP hS hl) (fun hc => kf r h' (by rw [if_neg hc] at ho; exact ho) p e s m args below meth c H locs lsA C hP hS hl)
theorem s_icmp_ge {x y : Int32} {off : Int} {tgt : Nat} {o1 o2 : Option (ρ × Hp)} (hd : decode M.2.1 pc = .ok (.if_icmp .ge off, 3)) (ht : (pc : Int) + off = (tgt : Int)) (kt : Sim cv u g M d tgt ls st h o1) (kf : Sim cv u g M d (pc + 3) ls st h o2) : Sim cv u g M d pc ls (.int y :: .int x :: st) h (if y ≤ x then o1 else o2) := by
  intro r h' ho p e s m args below meth c H locs lsA C hP hS hl
  exact lv_icmp_ge C.1 C.2.1 hd ht (fun hc => kt r h' (by rw [if_pos hc] at ho; exact ho) p e s m args below meth c H locs lsA C hP hS hl) (fun hc => kf r h' (by rw [if_neg hc] at ho; exact ho) p e s m args below meth c H locs lsA C hP hS hl)
theorem s_if_gt {x : Int32} {off : Int} {tgt : Nat} {o1 o2 : Option (ρ × Hp)} (hd : decode M.2.1 pc = .ok (.ifCond .gt off, 3)) (ht : (pc : Int) + off = (tgt : Int)) (kt : Sim cv u g M d tgt ls st h o1) (kf : Sim cv u g M d (pc + 3) ls st h o2) : Sim cv u g M d pc ls (.int x :: st) h (if 0 < x then o1 else o2) := by
  intro r h' ho p e s m args below meth c H locs lsA C hP hS hl
  exact lv_if_gt C.1 C.2.1 hd ht (fun hc => kt r h' (by rw [if_pos hc] at ho; exact ho) p e s m args below meth c H locs lsA C hP hS hl) (fun hc => kf r h' (by rw [if_neg hc] at ho; exact ho) p e s m args below meth c H locs lsA C hP hS hl)
theorem s_icmp_gt {x y : Int32} {off : Int} {tgt : Nat} {o1 o2 : Option (ρ × Hp)} (hd : decode M.2.1 pc = .ok (.if_icmp .gt off, 3)) (ht : (pc : Int) + off = (tgt : Int)) (kt : Sim cv u g M d tgt ls st h o1) (kf : Sim cv u g M d (pc + 3) ls st h o2) : Sim cv u g M d pc ls (.int y :: .int x :: st) h (if y < x then o1 else o2) := by
  intro r h' ho p e s m args below meth c H locs lsA C hP hS hl
  exact lv_icmp_gt C.1 C.2.1 hd ht (fun hc => kt r h' (by rw [if_pos hc] at ho; exact ho) p e s m args below meth c H locs lsA C hP hS hl) (fun hc => kf r h' (by rw [if_neg hc] at ho; exact ho) p e s m args below meth c H locs lsA C hP hS hl)
theorem s_if_le {x : Int32} {off : Int} {tgt : Nat} {o1 o2 : Option (ρ × Hp)} (hd : decode M.2.1 pc = .ok (.ifCond .le off, 3)) (ht : (pc : Int) + off = (tgt : Int)) (kt : Sim cv u g M d tgt ls st h o1) (kf : Sim cv u g M d (pc + 3) ls st h o2) : Sim cv u g M d pc ls (.int x :: st) h (if x ≤ 0 then o1 else o2) := by
  intro r h' ho p e s m args below meth c H locs lsA C hP hS hl
  exact lv_if_le C.1 C.2.1 hd ht (fun hc => kt r h' (by rw [if_pos hc] at ho; exact ho) p e s m args below meth c H locs lsA C hP hS hl) (fun hc => kf r h' (by rw [if_neg hc] at ho; exact ho) p e s m args below meth c H locs lsA C hP hS hl)
theorem s_icmp_le {x y : Int32} {off : Int} {tgt : Nat} {o1 o2 : Option (ρ × Hp)} (hd : decode M.2.1 pc = .ok (.if_icmp .le off, 3)) (ht : (pc : Int) + off = (tgt : Int)) (kt : Sim cv u g M d tgt ls st h o1) (kf : Sim cv u g M d (pc + 3) ls st h o2) : Sim cv u g M d pc ls (.int y :: .int x :: st) h (if x ≤ y then o1 else o2) := by
  intro r h' ho p e s m args below meth c H locs lsA C hP hS hl
  exact lv_icmp_le C.1 C.2.1 hd ht (fun hc => kt r h' (by rw [if_pos hc] at ho; exact ho) p e s m args below meth c H locs lsA C hP hS hl) (fun hc => kf r h' (by rw [if_neg hc] at ho; exact ho) p e s m args below meth c H locs lsA C hP hS hl)
theorem s_ifnull {kd : Nat} (q : Option Nat) {off : Int} {tgt : Nat} {o1 : Option (ρ × Hp)} {o2 : Nat → Option (ρ × Hp)} (L : Option Nat → List (Nat × Value)) (hd : decode M.2.1 pc = .ok (.ifnull off, 3)) (ht : (pc : Int) + off = (tgt : Int)) (kt : Sim cv u g M d tgt (L none) st h o1) (kf : ∀ a, Sim cv u g M d (pc + 3) (L (some a)) st h (o2 a)) : Sim cv u g M d pc (L q) (rq g kd q :: st) h (nl q o1 o2) := by
  intro r h' ho p e s m args below meth c H locs lsA C hP hS hl
  cases q with
  | none => exact lv_ifnullN C.1 C.2.1 hd ht (kt r h' ho p e s m args below meth c H locs lsA C hP hS hl)
  | some a => exact lv_ifnull C.1 C.2.1 hd (kf a r h' ho p e s m args below meth c H locs lsA C hP hS hl)
theorem s_ifnonnull {kd : Nat} (q : Option Nat) {off : Int} {tgt : Nat} {o1 : Option (ρ × Hp)} {o2 : Nat → Option (ρ × Hp)} (L : Option Nat → List (Nat × Value)) (hd : decode M.2.1 pc = .ok (.ifnonnull off, 3)) (ht : (pc : Int) + off = (tgt : Int)) (kf : Sim cv u g M d (pc + 3) (L none) st h o1) (kt : ∀ a, Sim cv u g M d tgt (L (some a)) st h (o2 a)) : Sim cv u g M d pc (L q) (rq g kd q :: st) h (nl q o1 o2) := by
  intro r h' ho p e s m args below meth c H locs lsA C hP hS hl
  cases q with
  | none => exact lv_ifnonnullN C.1 C.2.1 hd (kf r h' ho p e s m args below meth c H locs lsA C hP hS hl)
  | some a => exact lv_ifnonnull C.1 C.2.1 hd ht (kt a r h' ho p e s m args below meth c H locs lsA C hP hS hl)
/-- tableswitch: lo + k for the k-th target -/
def tsw {α : Type} (x lo : Int32) : List α → α → α
  | [], dflt => dflt
  | a :: l, dflt => if x = lo then a else tsw x (lo + 1) l dflt
end Rows
section Rows2
variable {ρ : Type} {cv : ρ → Option Value} {u : Nat} {g : GE} {M : MI} {d pc : Nat} {ls : List (Nat × Value)} {st : List Value} {h : Hp} {o : Option (ρ × Hp)}
/-- a class of the worlds: its tables -/
def CLK (k : Nat) (C : String) (T : u_T) (N : Nat) (ty0 : Nat → FieldType) : Prop := vwCl[k]? = some (C, T, N) ∧ (∀ w ∈ u_ws C T N, w ∈ UW) ∧ (∀ k, k < N → parseFieldDescriptor (T k).2.2.1 = some (ty0 k)) ∧ (∀ a, a < N → ∀ b, b < N → a ≠ b → (T a).2.1 ≠ (T b).2.1)
/-- a field link: entry idx of own's pool is slot i of kind k, of descriptor ds and type ty -/
def FL (u : Nat) (own : String) (idx k i : Nat) (ds : Nat × Nat × Nat × Nat) (ty : FieldType) (fin : Bool) : Prop := k ∈ ktab u ∧ (∃ sl, kobj k = some sl ∧ sl[i]? = some ds) ∧ ∃ (C : String) (T : u_T) (N : Nat) (ty0 : Nat → FieldType), CLK k C T N ty0 ∧ i < N ∧ Cond.fieldLink own idx (T i).1 (T i).2.1 (T i).2.2.1 ∈ UW ∧ ty0 i = ty ∧ (T i).2.2.2 = fin
theorem cellOf_obj {g : GE} {h : Hp} {k s : Nat} {sl : List (Nat × Nat × Nat × Nat)} (hs : kobj k = some sl) : cellOf g h k s = .inr (k, slv g h k s 0 sl) := by
  unfold cellOf; rw [hs]
theorem s_get {s0 idx k i : Nat} {ds : Nat × Nat × Nat × Nat} {ty : FieldType} {fin : Bool} (hd : decode M.2.1 pc = .ok (.getfield idx, 3)) (hf : FL u M.1.cls idx k i ds ty fin) (kk : Sim cv u g M d (pc + 3) ls (sv g h k (s0 % cnt k) i ds :: st) h o) : Sim cv u g M d pc ls (rv g k s0 :: st) h o := by
  intro r h' ho p e s m args below meth c H locs lsA C hP hS hl
  obtain ⟨hk, ⟨sl, hsl, hds⟩, C0, T, N, ty0, ⟨hc, hin, hty, hnm⟩, hN, hlink, -, -⟩ := hf
  obtain ⟨q0, hi, hq⟩ := ws_at (g := g) (h := h) hk (Nat.mod_lt s0 (cnt_pos k))
  rw [cellOf_obj hsl] at hq
  have hv : (slv g h k (s0 % cnt k) 0 sl)[i]? = some (sv g h k (s0 % cnt k) i ds) := by
    rw [slv_get, hds, Nat.zero_add]; rfl
  exact va_get C.1 C.2.1 C.2.2.2.2.2.1 hin C.2.2.2.2.1 C.2.2.2.2.2.2.1 hP q0 hq hc i hN (C.2.2.2.2.2.1 _ hlink) (fun _ z => z) hv hd (kk r h' ho p e s m args below meth c H locs lsA C hP hS hl)
theorem s_geti {s0 idx k i : Nat} {ty : FieldType} {fin : Bool} (hd : decode M.2.1 pc = .ok (.getfield idx, 3)) (hf : FL u M.1.cls idx k i (0, 0, 0, 0) ty fin) (kk : Sim cv u g M d (pc + 3) ls (.int (rd h k s0 i) :: st) h o) : Sim cv u g M d pc ls (rv g k s0 :: st) h o := s_get hd hf kk
theorem s_getl {s0 idx k i : Nat} {ty : FieldType} {fin : Bool} (hd : decode M.2.1 pc = .ok (.getfield idx, 3)) (hf : FL u M.1.cls idx k i (1, 0, 0, 0) ty fin) (kk : Sim cv u g M d (pc + 3) ls (.long h.2 :: st) h o) : Sim cv u g M d pc ls (rv g k s0 :: st) h o := s_get hd hf kk
theorem s_getr {s0 idx k i k2 b : Nat} {ty : FieldType} {fin : Bool} (hd : decode M.2.1 pc = .ok (.getfield idx, 3)) (hf : FL u M.1.cls idx k i (2, k2, 0, b) ty fin) (kk : Sim cv u g M d (pc + 3) ls (rv g k2 b :: st) h o) : Sim cv u g M d pc ls (rv g k s0 :: st) h o := by
  refine s_get hd hf ?_
  have e : sv g h k (s0 % cnt k) i (2, k2, 0, b) = rv g k2 b := by
    show Value.ref (g.1 k2 ((0 * (s0 % cnt k) + b) % cnt k2)) = _
    rw [Nat.zero_mul, Nat.zero_add]
  rw [e]; exact kk
theorem s_getr1 {s0 idx k i k2 : Nat} {ty : FieldType} {fin : Bool} (hc : cnt k2 = cnt k) (hd : decode M.2.1 pc = .ok (.getfield idx, 3)) (hf : FL u M.1.cls idx k i (2, k2, 1, 0) ty fin) (kk : Sim cv u g M d (pc + 3) ls (rv g k2 s0 :: st) h o) : Sim cv u g M d pc ls (rv g k s0 :: st) h o := by
  refine s_get hd hf ?_
  have e : sv g h k (s0 % cnt k) i (2, k2, 1, 0) = rv g k2 s0 := by
    show Value.ref (g.1 k2 ((1 * (s0 % cnt k) + 0) % cnt k2)) = Value.ref (g.1 k2 (s0 % cnt k2))
    rw [Nat.one_mul, Nat.add_zero, hc, Nat.mod_mod]
  rw [e]; exact kk
/-- the reader's tape: only once it is the told one's -/
theorem s_gett {s0 idx k i : Nat} {ty : FieldType} {fin : Bool} (hd : decode M.2.1 pc = .ok (.getfield idx, 3)) (hf : FL u M.1.cls idx k i (3, 0, 0, 0) ty fin) (kk : Sim cv u g M d (pc + 3) ls (rv g 36 0 :: st) h o) : Sim cv u g M d pc ls (rv g k s0 :: st) h (ck (decide (rd h k s0 i = 1)) o) := by
  intro r h' ho
  obtain ⟨hb, ho⟩ := ck_some ho
  have hb : h.1 k (s0 % cnt k) i = 1 := of_decide_eq_true hb
  refine s_get (o := o) hd hf ?_ r h' ho
  have e : sv g h k (s0 % cnt k) i (3, 0, 0, 0) = rv g 36 0 := by
    show Value.ref (if h.1 k (s0 % cnt k) i = 1 then g.1 36 0 else g.1 25 0) = Value.ref (g.1 36 (0 % cnt 36))
    rw [if_pos hb, Nat.zero_mod]
  rw [e]; exact kk
theorem wr_self (h : Hp) (k s i : Nat) (v : Int32) : (wr h k s i v).1 k (s % cnt k) i = v := by simp [wr]
theorem wr_cell {g : GE} {h : Hp} {k s i k2 s2 : Nat} {v : Int32} (hne : (k2, s2) ≠ (k, s % cnt k)) : cellOf g (wr h k s i v) k2 s2 = cellOf g h k2 s2 := by
  have hz : ∀ c, (wr h k s i v).1 k2 s2 c = h.1 k2 s2 c := by
    intro c
    show (if k2 = k ∧ s2 = s % cnt k ∧ c = i then v else h.1 k2 s2 c) = h.1 k2 s2 c
    rw [if_neg]
    rintro ⟨rfl, rfl, -⟩
    exact hne rfl
  have hs : ∀ i0 ds, sv g (wr h k s i v) k2 s2 i0 ds = sv g h k2 s2 i0 ds := by
    intro i0 ds
    unfold sv
    rw [hz]
    rfl
  have hl : ∀ (sl : List (Nat × Nat × Nat × Nat)) (i0 : Nat), slv g (wr h k s i v) k2 s2 i0 sl = slv g h k2 s2 i0 sl := by
    intro sl
    induction sl with
    | nil => intro i0; rfl
    | cons a l ih => intro i0; show _ :: _ = _ :: _; rw [hs, ih]
  unfold cellOf
  split
  · rw [hl]
  · split
    · rfl
    · rw [show (wr h k s i v).1 k2 s2 = h.1 k2 s2 from funext hz]
theorem slv_set {g : GE} {h h2 : Hp} {k s i : Nat} {v : Value} {sl : List (Nat × Nat × Nat × Nat)} {ds : Nat × Nat × Nat × Nat} (hds : sl[i]? = some ds) (hv : sv g h2 k s i ds = v) (hsm : ∀ j e, j ≠ i → sl[j]? = some e → sv g h2 k s j e = sv g h k s j e) : slv g h2 k s 0 sl = (slv g h k s 0 sl).set i v := by
  apply List.ext_getElem?
  intro j
  rw [slv_get, Nat.zero_add]
  by_cases hj : j = i
  · subst hj
    have hlt : j < (slv g h k s 0 sl).length := by rw [slv_len]; exact (List.getElem?_eq_some_iff.mp hds).1
    rw [List.getElem?_set_self hlt, hds]
    show some _ = some _
    rw [hv]
  · rw [List.getElem?_set_ne (Ne.symm hj), slv_get, Nat.zero_add]
    cases he : sl[j]? with
    | none => rfl
    | some e => show some _ = some _; rw [hsm j e hj he]
theorem s_put {s0 idx k i : Nat} {ds : Nat × Nat × Nat × Nat} {ty : FieldType} {v : Value} {h2 : Hp} (hn : narrow ty v = v) (hfit : fits ty v = true) (hv : sv g h2 k (s0 % cnt k) i ds = v) (hsm : ∀ sl, kobj k = some sl → ∀ j e, j ≠ i → sl[j]? = some e → sv g h2 k (s0 % cnt k) j e = sv g h k (s0 % cnt k) j e) (hoth : ∀ x ∈ ids u, x ≠ (k, s0 % cnt k) → cellOf g h2 x.1 x.2 = cellOf g h x.1 x.2) (hd : decode M.2.1 pc = .ok (.putfield idx, 3)) (hf : FL u M.1.cls idx k i ds ty false) (kk : Sim cv u g M d (pc + 3) ls st h2 o) : Sim cv u g M d pc ls (v :: rv g k s0 :: st) h o := by
  intro r h' ho p e s m args below meth c H locs lsA C hP hS hl
  obtain ⟨hk, ⟨sl, hsl, hds⟩, C0, T, N, ty0, ⟨hc, hin, hty, hnm⟩, hN, hlink, hte, hfin⟩ := hf
  obtain ⟨q0, hi, hq⟩ := ws_at (g := g) (h := h) hk (Nat.mod_lt s0 (cnt_pos k))
  rw [cellOf_obj hsl] at hq
  have hlen : i < (slv g h k (s0 % cnt k) 0 sl).length := by rw [slv_len]; exact (List.getElem?_eq_some_iff.mp hds).1
  refine va_put C.1 C.2.1 C.2.2.2.2.2.1 hin ty0 hty hnm C.2.2.2.2.1 C.2.2.2.2.2.2.1 hP (ws_D C.2.2.2.2.2.2.2.2.1) hS q0 hq hc i hN (C.2.2.2.2.2.1 _ hlink) (fun _ z => z) hfin (by rw [hty i hN, hte]) hn hfit hlen hd (fun H1 locs1 hP1 _ hS1 => ?_)
  rw [ws_set (h2 := h2) hi (by rw [cellOf_obj hsl, slv_set hds hv (hsm sl hsl)]) hoth] at hP1
  exact kk r h' ho p e s m args below meth c H1 locs1 lsA C hP1 hS1 hl
theorem wr_slot {g : GE} {h : Hp} {k s i : Nat} {v : Int32} (j : Nat) (e : Nat × Nat × Nat × Nat) (hj : j ≠ i) : sv g (wr h k s i v) k (s % cnt k) j e = sv g h k (s % cnt k) j e := by
  have hz : (wr h k s i v).1 k (s % cnt k) j = h.1 k (s % cnt k) j := by
    show (if k = k ∧ s % cnt k = s % cnt k ∧ j = i then v else _) = _
    rw [if_neg (fun q => hj q.2.2)]
  unfold sv
  rw [hz]
  rfl
theorem s_puti {s0 idx k i : Nat} {x : Int32} {f : Hp → Option (ρ × Hp)} (hd : decode M.2.1 pc = .ok (.putfield idx, 3)) (hf : FL u M.1.cls idx k i (0, 0, 0, 0) .int false) (kk : ∀ h1, Sim cv u g M d (pc + 3) ls st h1 (f h1)) : Sim cv u g M d pc ls (.int x :: rv g k s0 :: st) h (lt (wr h k s0 i x) f) :=
  s_put (h2 := wr h k s0 i x) (ty := .int) rfl rfl (by show Value.int _ = _; rw [wr_self]) (fun _ _ j e hj _ => wr_slot j e hj) (fun x _ hx => wr_cell hx) hd hf (kk _)
theorem s_putz {s0 idx k i : Nat} {x : Int32} {f : Hp → Option (ρ × Hp)} (hd : decode M.2.1 pc = .ok (.putfield idx, 3)) (hf : FL u M.1.cls idx k i (0, 0, 0, 0) .boolean false) (kk : ∀ h1, Sim cv u g M d (pc + 3) ls st h1 (f h1)) : Sim cv u g M d pc ls (.int x :: rv g k s0 :: st) h (ck (zk x) (lt (wr h k s0 i x) f)) := by
  intro r h' ho
  obtain ⟨hb, ho⟩ := ck_some ho
  exact s_put (h2 := wr h k s0 i x) (ty := .boolean) (zk_nar hb) (zk_fit hb) (by show Value.int _ = _; rw [wr_self]) (fun _ _ j e hj _ => wr_slot j e hj) (fun x _ hx => wr_cell hx) hd hf (kk _) r h' ho
theorem s_putt {s0 s1 idx k i : Nat} {ty : FieldType} {f : Hp → Option (ρ × Hp)} (hn : narrow ty (rv g 36 s1) = rv g 36 s1) (hfit : fits ty (rv g 36 s1) = true) (hd : decode M.2.1 pc = .ok (.putfield idx, 3)) (hf : FL u M.1.cls idx k i (3, 0, 0, 0) ty false) (kk : ∀ h1, Sim cv u g M d (pc + 3) ls st h1 (f h1)) : Sim cv u g M d pc ls (rv g 36 s1 :: rv g k s0 :: st) h (ck (decide (s1 % cnt 36 = 0)) (lt (wr h k s0 i 1) f)) := by
  intro r h' ho
  obtain ⟨hb, ho⟩ := ck_some ho
  have hb : s1 % cnt 36 = 0 := by simpa using hb
  refine s_put (h2 := wr h k s0 i 1) (ty := ty) hn hfit ?_ (fun _ _ j e hj _ => wr_slot j e hj) (fun x _ hx => wr_cell hx) hd hf (kk _) r h' ho
  show Value.ref (if (wr h k s0 i 1).1 k (s0 % cnt k) i = 1 then g.1 36 0 else g.1 25 0) = Value.ref (g.1 36 (s1 % cnt 36))
  rw [wr_self, if_pos rfl, hb]
/-- arrays of numbers -/
def KA (u k t n : Nat) : Prop := k ∈ ktab u ∧ kobj k = none ∧ kra k = none ∧ karr k = (t, n)
theorem cellOf_arr {g : GE} {h : Hp} {u k s t n : Nat} (hk : KA u k t n) : cellOf g h k s = .inl (g.2.1 t, n, .inl (h.1 k s)) := by
  unfold cellOf; rw [hk.2.1]; dsimp only; rw [hk.2.2.1]; dsimp only; rw [hk.2.2.2]
theorem wa_cell {g : GE} {h : Hp} {u k s t n : Nat} {i x : Int32} (hk : KA u k t n) : cellOf g (wa h k s i x) k (s % cnt k) = .inl (g.2.1 t, n, .inl (upd (h.1 k (s % cnt k)) i.toNatClampNeg x)) := by
  rw [cellOf_arr hk]
  have : (wa h k s i x).1 k (s % cnt k) = upd (h.1 k (s % cnt k)) i.toNatClampNeg x := by
    funext j
    show (if k = k ∧ s % cnt k = s % cnt k ∧ j = i.toNatClampNeg then x else _) = (if j = i.toNatClampNeg then x else _)
    by_cases hj : j = i.toNatClampNeg
    · rw [if_pos hj, if_pos ⟨rfl, rfl, hj⟩]
    · rw [if_neg hj, if_neg (fun q => hj q.2.2)]
  rw [this]
end Rows2

