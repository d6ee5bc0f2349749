def StpO (Rel : Hp → Hp → Prop) (fC fM : Hp → Option (Int32 × Hp)) : Prop := ∀ hC hM, Rel hC hM → ∃ r hC1 hM1, fC hC = some (r, hC1) ∧ fM hM = some (r, hM1) ∧ Rel hC1 hM1
def Stp_feed (Rel : Hp → Hp → Prop) : Prop := ∀ a0 a1 a2 a3 a4 : Int32, StpO Rel (fX11_feed a0 a1 a2 a3 a4) (fX12_feed a0 a1 a2 a3 a4)
def Stp_end (Rel : Hp → Hp → Prop) : Prop := ∀ a0 : Int32, StpO Rel (fX11_end a0) (fX12_end a0)
def Stp_text (Rel : Hp → Hp → Prop) : Prop := ∀ a0 a1 : Int32, StpO Rel (fX11_text a0 a1) (fX12_text a0 a1)
def Stp_fault (Rel : Hp → Hp → Prop) : Prop := ∀ a0 : Int32, StpO Rel (fX11_fault a0) (fX12_fault a0)
def Stp_stage (Rel : Hp → Hp → Prop) : Prop := ∀ a0 a1 : Int32, StpO Rel (fX11_stage a0 a1) (fX12_stage a0 a1)
def Stp_deed (Rel : Hp → Hp → Prop) : Prop := ∀ a0 a1 a2 : Int32, StpO Rel (fX11_deed a0 a1 a2) (fX12_deed a0 a1 a2)
def Stp_stop (Rel : Hp → Hp → Prop) : Prop := ∀ a0 a1 : Int32, StpO Rel (fX11_stop a0 a1) (fX12_stop a0 a1)
def Stp_state (Rel : Hp → Hp → Prop) : Prop := ∀ a0 a1 a2 a3 : Int32, StpO Rel (fX11_state a0 a1 a2 a3) (fX12_state a0 a1 a2 a3)
def Stp_keep (Rel : Hp → Hp → Prop) : Prop := ∀ a0 a1 : Int32, StpO Rel (fX11_keep a0 a1) (fX12_keep a0 a1)
def Stp_need (Rel : Hp → Hp → Prop) : Prop := ∀ a0 a1 : Int32, StpO Rel (fX11_need a0 a1) (fX12_need a0 a1)
def Stp_behind (Rel : Hp → Hp → Prop) : Prop := ∀ a0 a1 a2 : Int32, StpO Rel (fX11_behind a0 a1 a2) (fX12_behind a0 a1 a2)
def Stp_save (Rel : Hp → Hp → Prop) : Prop := ∀ a0 a1 a2 : Int32, zk a2 = true → StpO Rel (fX11_save a0 a1 a2) (fX12_save a0 a1 a2)
def Stp_duel (Rel : Hp → Hp → Prop) : Prop := ∀ a0 a1 a2 : Int32, zk a2 = true → StpO Rel (fX11_duel a0 a1 a2) (fX12_duel a0 a1 a2)
def Stp_odds (Rel : Hp → Hp → Prop) : Prop := ∀ a0 a1 a2 a3 a4 : Int32, zk a4 = true → StpO Rel (fX11_odds a0 a1 a2 a3 a4) (fX12_odds a0 a1 a2 a3 a4)
def Stp_log (Rel : Hp → Hp → Prop) : Prop := ∀ a0 a1 : Int32, StpO Rel (fX11_log a0 a1) (fX12_log a0 a1)
def Stp_fits (Rel : Hp → Hp → Prop) : Prop := ∀ a0 a1 a2 : Int32, StpO Rel (fX11_fits a0 a1 a2) (fX12_fits a0 a1 a2)
def Stp_drawn (Rel : Hp → Hp → Prop) : Prop := ∀ a0 a1 a2 a3 : Int32, StpO Rel (fX11_drawn a0 a1 a2 a3) (fX12_drawn a0 a1 a2 a3)
def Stp_load (Rel : Hp → Hp → Prop) : Prop := ∀ a0 a1 : Int32, StpO Rel (fX11_load a0 a1) (fX12_load a0 a1)
def Stp_after (Rel : Hp → Hp → Prop) : Prop := ∀ a0 a1 a2 : Int32, StpO Rel (fX11_after a0 a1 a2) (fX12_after a0 a1 a2)
def Stp_least (Rel : Hp → Hp → Prop) : Prop := ∀ a0 a1 a2 : Int32, StpO Rel (fX11_least a0 a1 a2) (fX12_least a0 a1 a2)
def Stp_count (Rel : Hp → Hp → Prop) : Prop := ∀ a0 : Int32, StpO Rel (fX11_count a0) (fX12_count a0)
def Stp_image (Rel : Hp → Hp → Prop) : Prop := ∀ a0 : Int32, StpO Rel (fX11_image a0) (fX12_image a0)
def Stp_again (Rel : Hp → Hp → Prop) : Prop := ∀ a0 : Int32, StpO Rel (fX11_again a0) (fX12_again a0)
section LRows2
variable {g : GE} {p : Program} {e : Env} {s : State} {m : MethodId} {below : List Frame} {meth : Method} {c : Code} {bS L : Nat} {xs : Nat → Int32} {pc : Nat} {ls : List (Nat × Value)} {st : List Value} {hC hM : Hp}
theorem l_tab (C : LCx g p s m meth c bS L xs) (k32 : Int32) {x : Int32} {dflt lo hi off : Int} {offs : Array Int} {len tgt : Nat} (hd : decode code pc = .ok (.tableswitch dflt lo hi offs, len)) (h1 : ¬ k32.toInt < lo) (h2 : ¬ hi < k32.toInt) (hf : offs[(k32.toInt - lo).toNat]? = some off) (ht : (pc : Int) + off = (tgt : Int)) (kt : x = k32 → LW g p e s m below meth c bS tgt ls st hC hM) (kf : ¬ x = k32 → LW g p e s m below meth c bS pc ls (.int x :: st) hC hM) : LW g p e s m below meth c bS pc ls (.int x :: st) hC hM := by
  by_cases hx : x = k32
  · subst hx
    exact fun H locs lsA h0 h1' hS hl => lv_tableIn C.1.1 C.1.2.1 hd h1 h2 hf ht (kt rfl H locs lsA h0 h1' hS hl)
  · exact kf hx
theorem l_tabd (C : LCx g p s m meth c bS L xs) {x : Int32} {dflt lo hi : Int} {offs : Array Int} {len tgt : Nat} (hd : decode code pc = .ok (.tableswitch dflt lo hi offs, len)) (h1 : x.toInt < lo ∨ hi < x.toInt) (ht : (pc : Int) + dflt = (tgt : Int)) (k : LW g p e s m below meth c bS tgt ls st hC hM) : LW g p e s m below meth c bS pc ls (.int x :: st) hC hM := fun H locs lsA h0 h1' hS hl => lv_tableOut C.1.1 C.1.2.1 hd h1 ht (k H locs lsA h0 h1' hS hl)
theorem l_gt (C : LCx g p s m meth c bS L xs) {x y : Int32} {off : Int} {tgt : Nat} (hd : decode code pc = .ok (.if_icmp .gt off, 3)) (ht : (pc : Int) + off = (tgt : Int)) (kt : y < x → LW g p e s m below meth c bS tgt ls st hC hM) (kf : ¬ y < x → LW g p e s m below meth c bS (pc + 3) ls st hC hM) : LW g p e s m below meth c bS pc ls (.int y :: .int x :: st) hC hM := fun H locs lsA h0 h1 hS hl => lv_icmp_gt C.1.1 C.1.2.1 hd ht (fun q => kt q H locs lsA h0 h1 hS hl) (fun q => kf q H locs lsA h0 h1 hS hl)
theorem l_iinc (C : LCx g p s m meth c bS L xs) (j : Nat) {i : Nat} {n : Int} {x v : Int32} {ls' : List (Nat × Value)} (hd : decode code pc = .ok (.iinc i n, 3)) (hj : ls[j]? = some (i, .int x)) (hv : x + Int32.ofInt n = v) (hn : i < 4) (he : (i, Value.int v) :: ls.filter (fun q => !(q.1 == i) && !(q.1 + 1 == i && q.2.category == 2)) = ls') (k : LW g p e s m below meth c bS (pc + 3) ls' st hC hM) : LW g p e s m below meth c bS pc ls st hC hM := fun H locs lsA h0 h1 hS hl => lv_iinc C.1.1 C.1.2.1 hd hl hj hv hn he (fun lsA hl => k H locs lsA h0 h1 hS hl)
theorem l_ret (C : LCx g p s m meth c bS L xs) (hd : decode code pc = .ok (.ireturn, 1)) : LW g p e s m below meth c bS pc ls [.int 1] hC hM := by
  intro H locs lsA h0 h1 hS hl
  refine va_forget (fun q hq => hS.2.2 q hq) ?_
  refine W.widen (k := 600000) (n := 7302250) (Nat.le_of_ble_eq_true rfl) (Nat.le_of_ble_eq_true rfl) ?_
  exact lw_ret C.1.1 C.1.2.1 C.1.2.2.1 C.1.2.2.2.2.2.2.2.2.1 hd
end LRows2
theorem nI_sub6 {L j : Nat} (hL : L ≤ 3072) (hj : j ≤ 3072) : (nI L - 6 < nI j) ↔ L < j + 6 := by
  have e1 : (nI L).toInt = (L : Int) := nI_toInt (by omega)
  have e2 : (nI j).toInt = (j : Int) := nI_toInt (by omega)
  have e3 : (nI L - 6).toInt = (L : Int) - 6 := by
    rw [Int32.toInt_sub, e1]
    show ((L : Int) - 6).bmod (2 ^ 32) = _
    unfold Int.bmod
    dsimp only
    split <;> omega
  rw [Int32.lt_iff_toInt_lt, e3, e2]
  omega

set_option maxHeartbeats 4000000 in
theorem lc_feed {g : GE} {p : Program} {e : Env} {s : State} {m : MethodId} {below : List Frame} {meth : Method} {c : Code} {bS L : Nat} {xs : Nat → Int32} (C : LCx g p s m meth c bS L xs) (hL : L ≤ 3072) {Rel : Hp → Hp → Prop} (hst : Stp_feed Rel) {j : Nat} (hj : j + 6 ≤ L) {hC hM : Hp} (hR : Rel hC hM) (k : ∀ hC hM, Rel hC hM → LW g p e s m below meth c bS 1067 [(3, .int (nI j)), (2, rv g 10 0), (1, rv g 9 0), (0, .ref bS)] [] hC hM) : LW g p e s m below meth c bS 140 [(3, .int (nI j)), (2, rv g 10 0), (1, rv g 9 0), (0, .ref bS)] [] hC hM := by
  obtain ⟨r, hC1, hM1, eC, eM, hR1⟩ := hst (xs (j + 1)) (xs (j + 2)) (xs (j + 3)) (xs (j + 4)) (xs (j + 5)) hC hM hR
  refine l_aload_n C 2 dL_law_140 rfl rfl ?_
  refine l_aload_n C 3 dL_law_141 rfl rfl ?_
  refine l_iload_n C 0 dL_law_142 rfl rfl ?_
  refine l_iconst C (v := 1) dL_law_143 rfl ?_
  refine l_iadd C dL_law_144 ?_
  refine l_sld C (j + 1) (nI_add j 1) (by omega) hL dL_law_145 ?_
  refine l_aload_n C 3 dL_law_146 rfl rfl ?_
  refine l_iload_n C 0 dL_law_147 rfl rfl ?_
  refine l_iconst C (v := 2) dL_law_148 rfl ?_
  refine l_iadd C dL_law_149 ?_
  refine l_sld C (j + 2) (nI_add j 2) (by omega) hL dL_law_150 ?_
  refine l_aload_n C 3 dL_law_151 rfl rfl ?_
  refine l_iload_n C 0 dL_law_152 rfl rfl ?_
  refine l_iconst C (v := 3) dL_law_153 rfl ?_
  refine l_iadd C dL_law_154 ?_
  refine l_sld C (j + 3) (nI_add j 3) (by omega) hL dL_law_155 ?_
  refine l_aload_n C 3 dL_law_156 rfl rfl ?_
  refine l_iload_n C 0 dL_law_157 rfl rfl ?_
  refine l_iconst C (v := 4) dL_law_158 rfl ?_
  refine l_iadd C dL_law_159 ?_
  refine l_sld C (j + 4) (nI_add j 4) (by omega) hL dL_law_160 ?_
  refine l_aload_n C 3 dL_law_161 rfl rfl ?_
  refine l_iload_n C 0 dL_law_162 rfl rfl ?_
  refine l_iconst C (v := 5) dL_law_163 rfl ?_
  refine l_iadd C dL_law_164 ?_
  refine l_sld C (j + 5) (nI_add j 5) (by omega) hL dL_law_165 ?_
  refine l_callC C (As := [.int (xs (j + 1)), .int (xs (j + 2)), .int (xs (j + 3)), .int (xs (j + 4)), .int (xs (j + 5))]) (rest := []) (r := r) (d' := 3) (by rw [← eC]; exact cX11_feed_ok g ((xs (j + 1))) ((xs (j + 2))) ((xs (j + 3))) ((xs (j + 4))) ((xs (j + 5))) _) vl_L_13 rfl (by decide) (Nat.le_of_ble_eq_true rfl) dL_law_166 rfl ?_
  refine l_aload_n C 1 dL_law_169 rfl rfl ?_
  refine l_aload_n C 3 dL_law_170 rfl rfl ?_
  refine l_iload_n C 0 dL_law_171 rfl rfl ?_
  refine l_iconst C (v := 1) dL_law_172 rfl ?_
  refine l_iadd C dL_law_173 ?_
  refine l_sld C (j + 1) (nI_add j 1) (by omega) hL dL_law_174 ?_
  refine l_aload_n C 3 dL_law_175 rfl rfl ?_
  refine l_iload_n C 0 dL_law_176 rfl rfl ?_
  refine l_iconst C (v := 2) dL_law_177 rfl ?_
  refine l_iadd C dL_law_178 ?_
  refine l_sld C (j + 2) (nI_add j 2) (by omega) hL dL_law_179 ?_
  refine l_aload_n C 3 dL_law_180 rfl rfl ?_
  refine l_iload_n C 0 dL_law_181 rfl rfl ?_
  refine l_iconst C (v := 3) dL_law_182 rfl ?_
  refine l_iadd C dL_law_183 ?_
  refine l_sld C (j + 3) (nI_add j 3) (by omega) hL dL_law_184 ?_
  refine l_aload_n C 3 dL_law_185 rfl rfl ?_
  refine l_iload_n C 0 dL_law_186 rfl rfl ?_
  refine l_iconst C (v := 4) dL_law_187 rfl ?_
  refine l_iadd C dL_law_188 ?_
  refine l_sld C (j + 4) (nI_add j 4) (by omega) hL dL_law_189 ?_
  refine l_aload_n C 3 dL_law_190 rfl rfl ?_
  refine l_iload_n C 0 dL_law_191 rfl rfl ?_
  refine l_iconst C (v := 5) dL_law_192 rfl ?_
  refine l_iadd C dL_law_193 ?_
  refine l_sld C (j + 5) (nI_add j 5) (by omega) hL dL_law_194 ?_
  refine l_callM C (As := [.int (xs (j + 1)), .int (xs (j + 2)), .int (xs (j + 3)), .int (xs (j + 4)), .int (xs (j + 5))]) (rest := [.int r]) (r := r) (d' := 3) (by rw [← eM]; exact cX12_feed_ok g ((xs (j + 1))) ((xs (j + 2))) ((xs (j + 3))) ((xs (j + 4))) ((xs (j + 5))) _) vl_L_17 rfl (by decide) (Nat.le_of_ble_eq_true rfl) dL_law_195 rfl ?_
  refine l_eq C (tgt := 1067) dL_law_198 (by decide) ?_
  exact k _ _ hR1
set_option maxHeartbeats 4000000 in
theorem lc_end {g : GE} {p : Program} {e : Env} {s : State} {m : MethodId} {below : List Frame} {meth : Method} {c : Code} {bS L : Nat} {xs : Nat → Int32} (C : LCx g p s m meth c bS L xs) (hL : L ≤ 3072) {Rel : Hp → Hp → Prop} (hst : Stp_end Rel) {j : Nat} (hj : j + 6 ≤ L) {hC hM : Hp} (hR : Rel hC hM) (k : ∀ hC hM, Rel hC hM → LW g p e s m below meth c bS 1067 [(3, .int (nI j)), (2, rv g 10 0), (1, rv g 9 0), (0, .ref bS)] [] hC hM) : LW g p e s m below meth c bS 203 [(3, .int (nI j)), (2, rv g 10 0), (1, rv g 9 0), (0, .ref bS)] [] hC hM := by
  obtain ⟨r, hC1, hM1, eC, eM, hR1⟩ := hst (xs (j + 1)) hC hM hR
  refine l_aload_n C 2 dL_law_203 rfl rfl ?_
  refine l_aload_n C 3 dL_law_204 rfl rfl ?_
  refine l_iload_n C 0 dL_law_205 rfl rfl ?_
  refine l_iconst C (v := 1) dL_law_206 rfl ?_
  refine l_iadd C dL_law_207 ?_
  refine l_sld C (j + 1) (nI_add j 1) (by omega) hL dL_law_208 ?_
  refine l_callC C (As := [.int (xs (j + 1))]) (rest := []) (r := r) (d' := 2) (by rw [← eC]; exact cX11_end_ok g ((xs (j + 1))) _) vl_L_18 rfl (by decide) (Nat.le_of_ble_eq_true rfl) dL_law_209 rfl ?_
  refine l_aload_n C 1 dL_law_212 rfl rfl ?_
  refine l_aload_n C 3 dL_law_213 rfl rfl ?_
  refine l_iload_n C 0 dL_law_214 rfl rfl ?_
  refine l_iconst C (v := 1) dL_law_215 rfl ?_
  refine l_iadd C dL_law_216 ?_
  refine l_sld C (j + 1) (nI_add j 1) (by omega) hL dL_law_217 ?_
  refine l_callM C (As := [.int (xs (j + 1))]) (rest := [.int r]) (r := r) (d' := 3) (by rw [← eM]; exact cX12_end_ok g ((xs (j + 1))) _) vl_L_22 rfl (by decide) (Nat.le_of_ble_eq_true rfl) dL_law_218 rfl ?_
  refine l_eq C (tgt := 1067) dL_law_221 (by decide) ?_
  exact k _ _ hR1
set_option maxHeartbeats 4000000 in
theorem lc_text {g : GE} {p : Program} {e : Env} {s : State} {m : MethodId} {below : List Frame} {meth : Method} {c : Code} {bS L : Nat} {xs : Nat → Int32} (C : LCx g p s m meth c bS L xs) (hL : L ≤ 3072) {Rel : Hp → Hp → Prop} (hst : Stp_text Rel) {j : Nat} (hj : j + 6 ≤ L) {hC hM : Hp} (hR : Rel hC hM) (k : ∀ hC hM, Rel hC hM → LW g p e s m below meth c bS 1067 [(3, .int (nI j)), (2, rv g 10 0), (1, rv g 9 0), (0, .ref bS)] [] hC hM) : LW g p e s m below meth c bS 226 [(3, .int (nI j)), (2, rv g 10 0), (1, rv g 9 0), (0, .ref bS)] [] hC hM := by
  obtain ⟨r, hC1, hM1, eC, eM, hR1⟩ := hst (xs (j + 1)) (xs (j + 2)) hC hM hR
  refine l_aload_n C 2 dL_law_226 rfl rfl ?_
  refine l_aload_n C 3 dL_law_227 rfl rfl ?_
  refine l_iload_n C 0 dL_law_228 rfl rfl ?_
  refine l_iconst C (v := 1) dL_law_229 rfl ?_
  refine l_iadd C dL_law_230 ?_
  refine l_sld C (j + 1) (nI_add j 1) (by omega) hL dL_law_231 ?_
  refine l_aload_n C 3 dL_law_232 rfl rfl ?_
  refine l_iload_n C 0 dL_law_233 rfl rfl ?_
  refine l_iconst C (v := 2) dL_law_234 rfl ?_
  refine l_iadd C dL_law_235 ?_
  refine l_sld C (j + 2) (nI_add j 2) (by omega) hL dL_law_236 ?_
  refine l_callC C (As := [.int (xs (j + 1)), .int (xs (j + 2))]) (rest := []) (r := r) (d' := 10) (by rw [← eC]; exact cX11_text_ok g ((xs (j + 1))) ((xs (j + 2))) _) vl_L_23 rfl (by decide) (Nat.le_of_ble_eq_true rfl) dL_law_237 rfl ?_
  refine l_aload_n C 1 dL_law_240 rfl rfl ?_
  refine l_aload_n C 3 dL_law_241 rfl rfl ?_
  refine l_iload_n C 0 dL_law_242 rfl rfl ?_
  refine l_iconst C (v := 1) dL_law_243 rfl ?_
  refine l_iadd C dL_law_244 ?_
  refine l_sld C (j + 1) (nI_add j 1) (by omega) hL dL_law_245 ?_
  refine l_aload_n C 3 dL_law_246 rfl rfl ?_
  refine l_iload_n C 0 dL_law_247 rfl rfl ?_
  refine l_iconst C (v := 2) dL_law_248 rfl ?_
  refine l_iadd C dL_law_249 ?_
  refine l_sld C (j + 2) (nI_add j 2) (by omega) hL dL_law_250 ?_
  refine l_callM C (As := [.int (xs (j + 1)), .int (xs (j + 2))]) (rest := [.int r]) (r := r) (d' := 9) (by rw [← eM]; exact cX12_text_ok g ((xs (j + 1))) ((xs (j + 2))) _) vl_L_27 rfl (by decide) (Nat.le_of_ble_eq_true rfl) dL_law_251 rfl ?_
  refine l_eq C (tgt := 1067) dL_law_254 (by decide) ?_
  exact k _ _ hR1
set_option maxHeartbeats 4000000 in
theorem lc_fault {g : GE} {p : Program} {e : Env} {s : State} {m : MethodId} {below : List Frame} {meth : Method} {c : Code} {bS L : Nat} {xs : Nat → Int32} (C : LCx g p s m meth c bS L xs) (hL : L ≤ 3072) {Rel : Hp → Hp → Prop} (hst : Stp_fault Rel) {j : Nat} (hj : j + 6 ≤ L) {hC hM : Hp} (hR : Rel hC hM) (k : ∀ hC hM, Rel hC hM → LW g p e s m below meth c bS 1067 [(3, .int (nI j)), (2, rv g 10 0), (1, rv g 9 0), (0, .ref bS)] [] hC hM) : LW g p e s m below meth c bS 259 [(3, .int (nI j)), (2, rv g 10 0), (1, rv g 9 0), (0, .ref bS)] [] hC hM := by
  obtain ⟨r, hC1, hM1, eC, eM, hR1⟩ := hst (xs (j + 1)) hC hM hR
  refine l_aload_n C 2 dL_law_259 rfl rfl ?_
  refine l_aload_n C 3 dL_law_260 rfl rfl ?_
  refine l_iload_n C 0 dL_law_261 rfl rfl ?_
  refine l_iconst C (v := 1) dL_law_262 rfl ?_
  refine l_iadd C dL_law_263 ?_
  refine l_sld C (j + 1) (nI_add j 1) (by omega) hL dL_law_264 ?_
  refine l_callC C (As := [.int (xs (j + 1))]) (rest := []) (r := r) (d' := 2) (by rw [← eC]; exact cX11_fault_ok g ((xs (j + 1))) _) vl_L_28 rfl (by decide) (Nat.le_of_ble_eq_true rfl) dL_law_265 rfl ?_
  refine l_aload_n C 1 dL_law_268 rfl rfl ?_
  refine l_aload_n C 3 dL_law_269 rfl rfl ?_
  refine l_iload_n C 0 dL_law_270 rfl rfl ?_
  refine l_iconst C (v := 1) dL_law_271 rfl ?_
  refine l_iadd C dL_law_272 ?_
  refine l_sld C (j + 1) (nI_add j 1) (by omega) hL dL_law_273 ?_
  refine l_callM C (As := [.int (xs (j + 1))]) (rest := [.int r]) (r := r) (d' := 2) (by rw [← eM]; exact cX12_fault_ok g ((xs (j + 1))) _) vl_L_31 rfl (by decide) (Nat.le_of_ble_eq_true rfl) dL_law_274 rfl ?_
  refine l_eq C (tgt := 1067) dL_law_277 (by decide) ?_
  exact k _ _ hR1
set_option maxHeartbeats 4000000 in
theorem lc_stage {g : GE} {p : Program} {e : Env} {s : State} {m : MethodId} {below : List Frame} {meth : Method} {c : Code} {bS L : Nat} {xs : Nat → Int32} (C : LCx g p s m meth c bS L xs) (hL : L ≤ 3072) {Rel : Hp → Hp → Prop} (hst : Stp_stage Rel) {j : Nat} (hj : j + 6 ≤ L) {hC hM : Hp} (hR : Rel hC hM) (k : ∀ hC hM, Rel hC hM → LW g p e s m below meth c bS 1067 [(3, .int (nI j)), (2, rv g 10 0), (1, rv g 9 0), (0, .ref bS)] [] hC hM) : LW g p e s m below meth c bS 282 [(3, .int (nI j)), (2, rv g 10 0), (1, rv g 9 0), (0, .ref bS)] [] hC hM := by
  obtain ⟨r, hC1, hM1, eC, eM, hR1⟩ := hst (xs (j + 1)) (xs (j + 2)) hC hM hR
  refine l_aload_n C 2 dL_law_282 rfl rfl ?_
  refine l_aload_n C 3 dL_law_283 rfl rfl ?_
  refine l_iload_n C 0 dL_law_284 rfl rfl ?_
  refine l_iconst C (v := 1) dL_law_285 rfl ?_
  refine l_iadd C dL_law_286 ?_
  refine l_sld C (j + 1) (nI_add j 1) (by omega) hL dL_law_287 ?_
  refine l_aload_n C 3 dL_law_288 rfl rfl ?_
  refine l_iload_n C 0 dL_law_289 rfl rfl ?_
  refine l_iconst C (v := 2) dL_law_290 rfl ?_
  refine l_iadd C dL_law_291 ?_
  refine l_sld C (j + 2) (nI_add j 2) (by omega) hL dL_law_292 ?_
  refine l_callC C (As := [.int (xs (j + 1)), .int (xs (j + 2))]) (rest := []) (r := r) (d' := 4) (by rw [← eC]; exact cX11_stage_ok g ((xs (j + 1))) ((xs (j + 2))) _) vl_L_32 rfl (by decide) (Nat.le_of_ble_eq_true rfl) dL_law_293 rfl ?_
  refine l_aload_n C 1 dL_law_296 rfl rfl ?_
  refine l_aload_n C 3 dL_law_297 rfl rfl ?_
  refine l_iload_n C 0 dL_law_298 rfl rfl ?_
  refine l_iconst C (v := 1) dL_law_299 rfl ?_
  refine l_iadd C dL_law_300 ?_
  refine l_sld C (j + 1) (nI_add j 1) (by omega) hL dL_law_301 ?_
  refine l_aload_n C 3 dL_law_302 rfl rfl ?_
  refine l_iload_n C 0 dL_law_303 rfl rfl ?_
  refine l_iconst C (v := 2) dL_law_304 rfl ?_
  refine l_iadd C dL_law_305 ?_
  refine l_sld C (j + 2) (nI_add j 2) (by omega) hL dL_law_306 ?_
  refine l_callM C (As := [.int (xs (j + 1)), .int (xs (j + 2))]) (rest := [.int r]) (r := r) (d' := 5) (by rw [← eM]; exact cX12_stage_ok g ((xs (j + 1))) ((xs (j + 2))) _) vl_L_35 rfl (by decide) (Nat.le_of_ble_eq_true rfl) dL_law_307 rfl ?_
  refine l_eq C (tgt := 1067) dL_law_310 (by decide) ?_
  exact k _ _ hR1
set_option maxHeartbeats 4000000 in
theorem lc_deed {g : GE} {p : Program} {e : Env} {s : State} {m : MethodId} {below : List Frame} {meth : Method} {c : Code} {bS L : Nat} {xs : Nat → Int32} (C : LCx g p s m meth c bS L xs) (hL : L ≤ 3072) {Rel : Hp → Hp → Prop} (hst : Stp_deed Rel) {j : Nat} (hj : j + 6 ≤ L) {hC hM : Hp} (hR : Rel hC hM) (k : ∀ hC hM, Rel hC hM → LW g p e s m below meth c bS 1067 [(3, .int (nI j)), (2, rv g 10 0), (1, rv g 9 0), (0, .ref bS)] [] hC hM) : LW g p e s m below meth c bS 315 [(3, .int (nI j)), (2, rv g 10 0), (1, rv g 9 0), (0, .ref bS)] [] hC hM := by
  obtain ⟨r, hC1, hM1, eC, eM, hR1⟩ := hst (xs (j + 1)) (xs (j + 2)) (xs (j + 3)) hC hM hR
  refine l_aload_n C 2 dL_law_315 rfl rfl ?_
  refine l_aload_n C 3 dL_law_316 rfl rfl ?_
  refine l_iload_n C 0 dL_law_317 rfl rfl ?_
  refine l_iconst C (v := 1) dL_law_318 rfl ?_
  refine l_iadd C dL_law_319 ?_
  refine l_sld C (j + 1) (nI_add j 1) (by omega) hL dL_law_320 ?_
  refine l_aload_n C 3 dL_law_321 rfl rfl ?_
  refine l_iload_n C 0 dL_law_322 rfl rfl ?_
  refine l_iconst C (v := 2) dL_law_323 rfl ?_
  refine l_iadd C dL_law_324 ?_
  refine l_sld C (j + 2) (nI_add j 2) (by omega) hL dL_law_325 ?_
  refine l_aload_n C 3 dL_law_326 rfl rfl ?_
  refine l_iload_n C 0 dL_law_327 rfl rfl ?_
  refine l_iconst C (v := 3) dL_law_328 rfl ?_
  refine l_iadd C dL_law_329 ?_
  refine l_sld C (j + 3) (nI_add j 3) (by omega) hL dL_law_330 ?_
  refine l_callC C (As := [.int (xs (j + 1)), .int (xs (j + 2)), .int (xs (j + 3))]) (rest := []) (r := r) (d' := 3) (by rw [← eC]; exact cX11_deed_ok g ((xs (j + 1))) ((xs (j + 2))) ((xs (j + 3))) _) vl_L_36 rfl (by decide) (Nat.le_of_ble_eq_true rfl) dL_law_331 rfl ?_
  refine l_aload_n C 1 dL_law_334 rfl rfl ?_
  refine l_aload_n C 3 dL_law_335 rfl rfl ?_
  refine l_iload_n C 0 dL_law_336 rfl rfl ?_
  refine l_iconst C (v := 1) dL_law_337 rfl ?_
  refine l_iadd C dL_law_338 ?_
  refine l_sld C (j + 1) (nI_add j 1) (by omega) hL dL_law_339 ?_
  refine l_aload_n C 3 dL_law_340 rfl rfl ?_
  refine l_iload_n C 0 dL_law_341 rfl rfl ?_
  refine l_iconst C (v := 2) dL_law_342 rfl ?_
  refine l_iadd C dL_law_343 ?_
  refine l_sld C (j + 2) (nI_add j 2) (by omega) hL dL_law_344 ?_
  refine l_aload_n C 3 dL_law_345 rfl rfl ?_
  refine l_iload_n C 0 dL_law_346 rfl rfl ?_
  refine l_iconst C (v := 3) dL_law_347 rfl ?_
  refine l_iadd C dL_law_348 ?_
  refine l_sld C (j + 3) (nI_add j 3) (by omega) hL dL_law_349 ?_
  refine l_callM C (As := [.int (xs (j + 1)), .int (xs (j + 2)), .int (xs (j + 3))]) (rest := [.int r]) (r := r) (d' := 5) (by rw [← eM]; exact cX12_deed_ok g ((xs (j + 1))) ((xs (j + 2))) ((xs (j + 3))) _) vl_L_40 rfl (by decide) (Nat.le_of_ble_eq_true rfl) dL_law_350 rfl ?_
  refine l_eq C (tgt := 1067) dL_law_353 (by decide) ?_
  exact k _ _ hR1
set_option maxHeartbeats 4000000 in
theorem lc_stop {g : GE} {p : Program} {e : Env} {s : State} {m : MethodId} {below : List Frame} {meth : Method} {c : Code} {bS L : Nat} {xs : Nat → Int32} (C : LCx g p s m meth c bS L xs) (hL : L ≤ 3072) {Rel : Hp → Hp → Prop} (hst : Stp_stop Rel) {j : Nat} (hj : j + 6 ≤ L) {hC hM : Hp} (hR : Rel hC hM) (k : ∀ hC hM, Rel hC hM → LW g p e s m below meth c bS 1067 [(3, .int (nI j)), (2, rv g 10 0), (1, rv g 9 0), (0, .ref bS)] [] hC hM) : LW g p e s m below meth c bS 358 [(3, .int (nI j)), (2, rv g 10 0), (1, rv g 9 0), (0, .ref bS)] [] hC hM := by
  obtain ⟨r, hC1, hM1, eC, eM, hR1⟩ := hst (xs (j + 1)) (xs (j + 2)) hC hM hR
  refine l_aload_n C 2 dL_law_358 rfl rfl ?_
  refine l_aload_n C 3 dL_law_359 rfl rfl ?_
  refine l_iload_n C 0 dL_law_360 rfl rfl ?_
  refine l_iconst C (v := 1) dL_law_361 rfl ?_
  refine l_iadd C dL_law_362 ?_
  refine l_sld C (j + 1) (nI_add j 1) (by omega) hL dL_law_363 ?_
  refine l_aload_n C 3 dL_law_364 rfl rfl ?_
  refine l_iload_n C 0 dL_law_365 rfl rfl ?_
  refine l_iconst C (v := 2) dL_law_366 rfl ?_
  refine l_iadd C dL_law_367 ?_
  refine l_sld C (j + 2) (nI_add j 2) (by omega) hL dL_law_368 ?_
  refine l_callC C (As := [.int (xs (j + 1)), .int (xs (j + 2))]) (rest := []) (r := r) (d' := 7) (by rw [← eC]; exact cX11_stop_ok g ((xs (j + 1))) ((xs (j + 2))) _) vl_L_41 rfl (by decide) (Nat.le_of_ble_eq_true rfl) dL_law_369 rfl ?_
  refine l_aload_n C 1 dL_law_372 rfl rfl ?_
  refine l_aload_n C 3 dL_law_373 rfl rfl ?_
  refine l_iload_n C 0 dL_law_374 rfl rfl ?_
  refine l_iconst C (v := 1) dL_law_375 rfl ?_
  refine l_iadd C dL_law_376 ?_
  refine l_sld C (j + 1) (nI_add j 1) (by omega) hL dL_law_377 ?_
  refine l_aload_n C 3 dL_law_378 rfl rfl ?_
  refine l_iload_n C 0 dL_law_379 rfl rfl ?_
  refine l_iconst C (v := 2) dL_law_380 rfl ?_
  refine l_iadd C dL_law_381 ?_
  refine l_sld C (j + 2) (nI_add j 2) (by omega) hL dL_law_382 ?_
  refine l_callM C (As := [.int (xs (j + 1)), .int (xs (j + 2))]) (rest := [.int r]) (r := r) (d' := 8) (by rw [← eM]; exact cX12_stop_ok g ((xs (j + 1))) ((xs (j + 2))) _) vl_L_44 rfl (by decide) (Nat.le_of_ble_eq_true rfl) dL_law_383 rfl ?_
  refine l_eq C (tgt := 1067) dL_law_386 (by decide) ?_
  exact k _ _ hR1
set_option maxHeartbeats 4000000 in
theorem lc_state {g : GE} {p : Program} {e : Env} {s : State} {m : MethodId} {below : List Frame} {meth : Method} {c : Code} {bS L : Nat} {xs : Nat → Int32} (C : LCx g p s m meth c bS L xs) (hL : L ≤ 3072) {Rel : Hp → Hp → Prop} (hst : Stp_state Rel) {j : Nat} (hj : j + 6 ≤ L) {hC hM : Hp} (hR : Rel hC hM) (k : ∀ hC hM, Rel hC hM → LW g p e s m below meth c bS 1067 [(3, .int (nI j)), (2, rv g 10 0), (1, rv g 9 0), (0, .ref bS)] [] hC hM) : LW g p e s m below meth c bS 391 [(3, .int (nI j)), (2, rv g 10 0), (1, rv g 9 0), (0, .ref bS)] [] hC hM := by
  obtain ⟨r, hC1, hM1, eC, eM, hR1⟩ := hst (xs (j + 1)) (xs (j + 2)) (xs (j + 3)) (xs (j + 4)) hC hM hR
  refine l_aload_n C 2 dL_law_391 rfl rfl ?_
  refine l_aload_n C 3 dL_law_392 rfl rfl ?_
  refine l_iload_n C 0 dL_law_393 rfl rfl ?_
  refine l_iconst C (v := 1) dL_law_394 rfl ?_
  refine l_iadd C dL_law_395 ?_
  refine l_sld C (j + 1) (nI_add j 1) (by omega) hL dL_law_396 ?_
  refine l_aload_n C 3 dL_law_397 rfl rfl ?_
  refine l_iload_n C 0 dL_law_398 rfl rfl ?_
  refine l_iconst C (v := 2) dL_law_399 rfl ?_
  refine l_iadd C dL_law_400 ?_
  refine l_sld C (j + 2) (nI_add j 2) (by omega) hL dL_law_401 ?_
  refine l_aload_n C 3 dL_law_402 rfl rfl ?_
  refine l_iload_n C 0 dL_law_403 rfl rfl ?_
  refine l_iconst C (v := 3) dL_law_404 rfl ?_
  refine l_iadd C dL_law_405 ?_
  refine l_sld C (j + 3) (nI_add j 3) (by omega) hL dL_law_406 ?_
  refine l_aload_n C 3 dL_law_407 rfl rfl ?_
  refine l_iload_n C 0 dL_law_408 rfl rfl ?_
  refine l_iconst C (v := 4) dL_law_409 rfl ?_
  refine l_iadd C dL_law_410 ?_
  refine l_sld C (j + 4) (nI_add j 4) (by omega) hL dL_law_411 ?_
  refine l_callC C (As := [.int (xs (j + 1)), .int (xs (j + 2)), .int (xs (j + 3)), .int (xs (j + 4))]) (rest := []) (r := r) (d' := 7) (by rw [← eC]; exact cX11_state_ok g ((xs (j + 1))) ((xs (j + 2))) ((xs (j + 3))) ((xs (j + 4))) _) vl_L_45 rfl (by decide) (Nat.le_of_ble_eq_true rfl) dL_law_412 rfl ?_
  refine l_aload_n C 1 dL_law_415 rfl rfl ?_
  refine l_aload_n C 3 dL_law_416 rfl rfl ?_
  refine l_iload_n C 0 dL_law_417 rfl rfl ?_
  refine l_iconst C (v := 1) dL_law_418 rfl ?_
  refine l_iadd C dL_law_419 ?_
  refine l_sld C (j + 1) (nI_add j 1) (by omega) hL dL_law_420 ?_
  refine l_aload_n C 3 dL_law_421 rfl rfl ?_
  refine l_iload_n C 0 dL_law_422 rfl rfl ?_
  refine l_iconst C (v := 2) dL_law_423 rfl ?_
  refine l_iadd C dL_law_424 ?_
  refine l_sld C (j + 2) (nI_add j 2) (by omega) hL dL_law_425 ?_
  refine l_aload_n C 3 dL_law_426 rfl rfl ?_
  refine l_iload_n C 0 dL_law_427 rfl rfl ?_
  refine l_iconst C (v := 3) dL_law_428 rfl ?_
  refine l_iadd C dL_law_429 ?_
  refine l_sld C (j + 3) (nI_add j 3) (by omega) hL dL_law_430 ?_
  refine l_aload_n C 3 dL_law_431 rfl rfl ?_
  refine l_iload_n C 0 dL_law_432 rfl rfl ?_
  refine l_iconst C (v := 4) dL_law_433 rfl ?_
  refine l_iadd C dL_law_434 ?_
  refine l_sld C (j + 4) (nI_add j 4) (by omega) hL dL_law_435 ?_
  refine l_callM C (As := [.int (xs (j + 1)), .int (xs (j + 2)), .int (xs (j + 3)), .int (xs (j + 4))]) (rest := [.int r]) (r := r) (d' := 8) (by rw [← eM]; exact cX12_state_ok g ((xs (j + 1))) ((xs (j + 2))) ((xs (j + 3))) ((xs (j + 4))) _) vl_L_49 rfl (by decide) (Nat.le_of_ble_eq_true rfl) dL_law_436 rfl ?_
  refine l_eq C (tgt := 1067) dL_law_439 (by decide) ?_
  exact k _ _ hR1
set_option maxHeartbeats 4000000 in
theorem lc_keep {g : GE} {p : Program} {e : Env} {s : State} {m : MethodId} {below : List Frame} {meth : Method} {c : Code} {bS L : Nat} {xs : Nat → Int32} (C : LCx g p s m meth c bS L xs) (hL : L ≤ 3072) {Rel : Hp → Hp → Prop} (hst : Stp_keep Rel) {j : Nat} (hj : j + 6 ≤ L) {hC hM : Hp} (hR : Rel hC hM) (k : ∀ hC hM, Rel hC hM → LW g p e s m below meth c bS 1067 [(3, .int (nI j)), (2, rv g 10 0), (1, rv g 9 0), (0, .ref bS)] [] hC hM) : LW g p e s m below meth c bS 444 [(3, .int (nI j)), (2, rv g 10 0), (1, rv g 9 0), (0, .ref bS)] [] hC hM := by
  obtain ⟨r, hC1, hM1, eC, eM, hR1⟩ := hst (xs (j + 1)) (xs (j + 2)) hC hM hR
  refine l_aload_n C 2 dL_law_444 rfl rfl ?_
  refine l_aload_n C 3 dL_law_445 rfl rfl ?_
  refine l_iload_n C 0 dL_law_446 rfl rfl ?_
  refine l_iconst C (v := 1) dL_law_447 rfl ?_
  refine l_iadd C dL_law_448 ?_
  refine l_sld C (j + 1) (nI_add j 1) (by omega) hL dL_law_449 ?_
  refine l_aload_n C 3 dL_law_450 rfl rfl ?_
  refine l_iload_n C 0 dL_law_451 rfl rfl ?_
  refine l_iconst C (v := 2) dL_law_452 rfl ?_
  refine l_iadd C dL_law_453 ?_
  refine l_sld C (j + 2) (nI_add j 2) (by omega) hL dL_law_454 ?_
  refine l_callC C (As := [.int (xs (j + 1)), .int (xs (j + 2))]) (rest := []) (r := r) (d' := 8) (by rw [← eC]; exact cX11_keep_ok g ((xs (j + 1))) ((xs (j + 2))) _) vl_L_50 rfl (by decide) (Nat.le_of_ble_eq_true rfl) dL_law_455 rfl ?_
  refine l_aload_n C 1 dL_law_458 rfl rfl ?_
  refine l_aload_n C 3 dL_law_459 rfl rfl ?_
  refine l_iload_n C 0 dL_law_460 rfl rfl ?_
  refine l_iconst C (v := 1) dL_law_461 rfl ?_
  refine l_iadd C dL_law_462 ?_
  refine l_sld C (j + 1) (nI_add j 1) (by omega) hL dL_law_463 ?_
  refine l_aload_n C 3 dL_law_464 rfl rfl ?_
  refine l_iload_n C 0 dL_law_465 rfl rfl ?_
  refine l_iconst C (v := 2) dL_law_466 rfl ?_
  refine l_iadd C dL_law_467 ?_
  refine l_sld C (j + 2) (nI_add j 2) (by omega) hL dL_law_468 ?_
  refine l_callM C (As := [.int (xs (j + 1)), .int (xs (j + 2))]) (rest := [.int r]) (r := r) (d' := 7) (by rw [← eM]; exact cX12_keep_ok g ((xs (j + 1))) ((xs (j + 2))) _) vl_L_53 rfl (by decide) (Nat.le_of_ble_eq_true rfl) dL_law_469 rfl ?_
  refine l_eq C (tgt := 1067) dL_law_472 (by decide) ?_
  exact k _ _ hR1
set_option maxHeartbeats 4000000 in
theorem lc_need {g : GE} {p : Program} {e : Env} {s : State} {m : MethodId} {below : List Frame} {meth : Method} {c : Code} {bS L : Nat} {xs : Nat → Int32} (C : LCx g p s m meth c bS L xs) (hL : L ≤ 3072) {Rel : Hp → Hp → Prop} (hst : Stp_need Rel) {j : Nat} (hj : j + 6 ≤ L) {hC hM : Hp} (hR : Rel hC hM) (k : ∀ hC hM, Rel hC hM → LW g p e s m below meth c bS 1067 [(3, .int (nI j)), (2, rv g 10 0), (1, rv g 9 0), (0, .ref bS)] [] hC hM) : LW g p e s m below meth c bS 477 [(3, .int (nI j)), (2, rv g 10 0), (1, rv g 9 0), (0, .ref bS)] [] hC hM := by
  obtain ⟨r, hC1, hM1, eC, eM, hR1⟩ := hst (xs (j + 1)) (xs (j + 2)) hC hM hR
  refine l_aload_n C 2 dL_law_477 rfl rfl ?_
  refine l_aload_n C 3 dL_law_478 rfl rfl ?_
  refine l_iload_n C 0 dL_law_479 rfl rfl ?_
  refine l_iconst C (v := 1) dL_law_480 rfl ?_
  refine l_iadd C dL_law_481 ?_
  refine l_sld C (j + 1) (nI_add j 1) (by omega) hL dL_law_482 ?_
  refine l_aload_n C 3 dL_law_483 rfl rfl ?_
  refine l_iload_n C 0 dL_law_484 rfl rfl ?_
  refine l_iconst C (v := 2) dL_law_485 rfl ?_
  refine l_iadd C dL_law_486 ?_
  refine l_sld C (j + 2) (nI_add j 2) (by omega) hL dL_law_487 ?_
  refine l_callC C (As := [.int (xs (j + 1)), .int (xs (j + 2))]) (rest := []) (r := r) (d' := 9) (by rw [← eC]; exact cX11_need_ok g ((xs (j + 1))) ((xs (j + 2))) _) vl_L_54 rfl (by decide) (Nat.le_of_ble_eq_true rfl) dL_law_488 rfl ?_
  refine l_aload_n C 1 dL_law_491 rfl rfl ?_
  refine l_aload_n C 3 dL_law_492 rfl rfl ?_
  refine l_iload_n C 0 dL_law_493 rfl rfl ?_
  refine l_iconst C (v := 1) dL_law_494 rfl ?_
  refine l_iadd C dL_law_495 ?_
  refine l_sld C (j + 1) (nI_add j 1) (by omega) hL dL_law_496 ?_
  refine l_aload_n C 3 dL_law_497 rfl rfl ?_
  refine l_iload_n C 0 dL_law_498 rfl rfl ?_
  refine l_iconst C (v := 2) dL_law_499 rfl ?_
  refine l_iadd C dL_law_500 ?_
  refine l_sld C (j + 2) (nI_add j 2) (by omega) hL dL_law_501 ?_
  refine l_callM C (As := [.int (xs (j + 1)), .int (xs (j + 2))]) (rest := [.int r]) (r := r) (d' := 8) (by rw [← eM]; exact cX12_need_ok g ((xs (j + 1))) ((xs (j + 2))) _) vl_L_57 rfl (by decide) (Nat.le_of_ble_eq_true rfl) dL_law_502 rfl ?_
  refine l_eq C (tgt := 1067) dL_law_505 (by decide) ?_
  exact k _ _ hR1
set_option maxHeartbeats 4000000 in
theorem lc_behind {g : GE} {p : Program} {e : Env} {s : State} {m : MethodId} {below : List Frame} {meth : Method} {c : Code} {bS L : Nat} {xs : Nat → Int32} (C : LCx g p s m meth c bS L xs) (hL : L ≤ 3072) {Rel : Hp → Hp → Prop} (hst : Stp_behind Rel) {j : Nat} (hj : j + 6 ≤ L) {hC hM : Hp} (hR : Rel hC hM) (k : ∀ hC hM, Rel hC hM → LW g p e s m below meth c bS 1067 [(3, .int (nI j)), (2, rv g 10 0), (1, rv g 9 0), (0, .ref bS)] [] hC hM) : LW g p e s m below meth c bS 510 [(3, .int (nI j)), (2, rv g 10 0), (1, rv g 9 0), (0, .ref bS)] [] hC hM := by
  obtain ⟨r, hC1, hM1, eC, eM, hR1⟩ := hst (xs (j + 1)) (xs (j + 2)) (xs (j + 3)) hC hM hR
  refine l_aload_n C 2 dL_law_510 rfl rfl ?_
  refine l_aload_n C 3 dL_law_511 rfl rfl ?_
  refine l_iload_n C 0 dL_law_512 rfl rfl ?_
  refine l_iconst C (v := 1) dL_law_513 rfl ?_
  refine l_iadd C dL_law_514 ?_
  refine l_sld C (j + 1) (nI_add j 1) (by omega) hL dL_law_515 ?_
  refine l_aload_n C 3 dL_law_516 rfl rfl ?_
  refine l_iload_n C 0 dL_law_517 rfl rfl ?_
  refine l_iconst C (v := 2) dL_law_518 rfl ?_
  refine l_iadd C dL_law_519 ?_
  refine l_sld C (j + 2) (nI_add j 2) (by omega) hL dL_law_520 ?_
  refine l_aload_n C 3 dL_law_521 rfl rfl ?_
  refine l_iload_n C 0 dL_law_522 rfl rfl ?_
  refine l_iconst C (v := 3) dL_law_523 rfl ?_
  refine l_iadd C dL_law_524 ?_
  refine l_sld C (j + 3) (nI_add j 3) (by omega) hL dL_law_525 ?_
  refine l_callC C (As := [.int (xs (j + 1)), .int (xs (j + 2)), .int (xs (j + 3))]) (rest := []) (r := r) (d' := 8) (by rw [← eC]; exact cX11_behind_ok g ((xs (j + 1))) ((xs (j + 2))) ((xs (j + 3))) _) vl_L_58 rfl (by decide) (Nat.le_of_ble_eq_true rfl) dL_law_526 rfl ?_
  refine l_aload_n C 1 dL_law_529 rfl rfl ?_
  refine l_aload_n C 3 dL_law_530 rfl rfl ?_
  refine l_iload_n C 0 dL_law_531 rfl rfl ?_
  refine l_iconst C (v := 1) dL_law_532 rfl ?_
  refine l_iadd C dL_law_533 ?_
  refine l_sld C (j + 1) (nI_add j 1) (by omega) hL dL_law_534 ?_
  refine l_aload_n C 3 dL_law_535 rfl rfl ?_
  refine l_iload_n C 0 dL_law_536 rfl rfl ?_
  refine l_iconst C (v := 2) dL_law_537 rfl ?_
  refine l_iadd C dL_law_538 ?_
  refine l_sld C (j + 2) (nI_add j 2) (by omega) hL dL_law_539 ?_
  refine l_aload_n C 3 dL_law_540 rfl rfl ?_
  refine l_iload_n C 0 dL_law_541 rfl rfl ?_
  refine l_iconst C (v := 3) dL_law_542 rfl ?_
  refine l_iadd C dL_law_543 ?_
  refine l_sld C (j + 3) (nI_add j 3) (by omega) hL dL_law_544 ?_
  refine l_callM C (As := [.int (xs (j + 1)), .int (xs (j + 2)), .int (xs (j + 3))]) (rest := [.int r]) (r := r) (d' := 7) (by rw [← eM]; exact cX12_behind_ok g ((xs (j + 1))) ((xs (j + 2))) ((xs (j + 3))) _) vl_L_61 rfl (by decide) (Nat.le_of_ble_eq_true rfl) dL_law_545 rfl ?_
  refine l_eq C (tgt := 1067) dL_law_548 (by decide) ?_
  exact k _ _ hR1
set_option maxHeartbeats 4000000 in
theorem lc_save {g : GE} {p : Program} {e : Env} {s : State} {m : MethodId} {below : List Frame} {meth : Method} {c : Code} {bS L : Nat} {xs : Nat → Int32} (C : LCx g p s m meth c bS L xs) (hL : L ≤ 3072) {Rel : Hp → Hp → Prop} (hst : Stp_save Rel) {j : Nat} (hj : j + 6 ≤ L) {hC hM : Hp} (hR : Rel hC hM) (k : ∀ hC hM, Rel hC hM → LW g p e s m below meth c bS 1067 [(3, .int (nI j)), (2, rv g 10 0), (1, rv g 9 0), (0, .ref bS)] [] hC hM) : LW g p e s m below meth c bS 553 [(3, .int (nI j)), (2, rv g 10 0), (1, rv g 9 0), (0, .ref bS)] [] hC hM := by
  by_cases hz : xs (j + 3) = 0
  · obtain ⟨r, hC1, hM1, eC, eM, hR1⟩ := hst (xs (j + 1)) (xs (j + 2)) 0 rfl hC hM hR
    refine l_aload_n C 2 dL_law_553 rfl rfl ?_
    refine l_aload_n C 3 dL_law_554 rfl rfl ?_
    refine l_iload_n C 0 dL_law_555 rfl rfl ?_
    refine l_iconst C (v := 1) dL_law_556 rfl ?_
    refine l_iadd C dL_law_557 ?_
    refine l_sld C (j + 1) (nI_add j 1) (by omega) hL dL_law_558 ?_
    refine l_aload_n C 3 dL_law_559 rfl rfl ?_
    refine l_iload_n C 0 dL_law_560 rfl rfl ?_
    refine l_iconst C (v := 2) dL_law_561 rfl ?_
    refine l_iadd C dL_law_562 ?_
    refine l_sld C (j + 2) (nI_add j 2) (by omega) hL dL_law_563 ?_
    refine l_aload_n C 3 dL_law_564 rfl rfl ?_
    refine l_iload_n C 0 dL_law_565 rfl rfl ?_
    refine l_iconst C (v := 3) dL_law_566 rfl ?_
    refine l_iadd C dL_law_567 ?_
    refine l_sld C (j + 3) (nI_add j 3) (by omega) hL dL_law_568 ?_
    refine l_ifeqT C hz (tgt := 576) dL_law_569 (by decide) ?_
    refine l_iconst C (v := 0) dL_law_576 rfl ?_
    refine l_callC C (As := [.int (xs (j + 1)), .int (xs (j + 2)), .int 0]) (rest := []) (r := r) (d' := 16) (by rw [← eC]; exact cX11_save_ok g ((xs (j + 1))) ((xs (j + 2))) (0) _) vl_L_62 rfl (by decide) (Nat.le_of_ble_eq_true rfl) dL_law_577 rfl ?_
    refine l_aload_n C 1 dL_law_580 rfl rfl ?_
    refine l_aload_n C 3 dL_law_581 rfl rfl ?_
    refine l_iload_n C 0 dL_law_582 rfl rfl ?_
    refine l_iconst C (v := 1) dL_law_583 rfl ?_
    refine l_iadd C dL_law_584 ?_
    refine l_sld C (j + 1) (nI_add j 1) (by omega) hL dL_law_585 ?_
    refine l_aload_n C 3 dL_law_586 rfl rfl ?_
    refine l_iload_n C 0 dL_law_587 rfl rfl ?_
    refine l_iconst C (v := 2) dL_law_588 rfl ?_
    refine l_iadd C dL_law_589 ?_
    refine l_sld C (j + 2) (nI_add j 2) (by omega) hL dL_law_590 ?_
    refine l_aload_n C 3 dL_law_591 rfl rfl ?_
    refine l_iload_n C 0 dL_law_592 rfl rfl ?_
    refine l_iconst C (v := 3) dL_law_593 rfl ?_
    refine l_iadd C dL_law_594 ?_
    refine l_sld C (j + 3) (nI_add j 3) (by omega) hL dL_law_595 ?_
    refine l_ifeqT C hz (tgt := 603) dL_law_596 (by decide) ?_
    refine l_iconst C (v := 0) dL_law_603 rfl ?_
    refine l_callM C (As := [.int (xs (j + 1)), .int (xs (j + 2)), .int 0]) (rest := [.int r]) (r := r) (d' := 7) (by rw [← eM]; exact cX12_save_ok g ((xs (j + 1))) ((xs (j + 2))) (0) _) vl_L_66 rfl (by decide) (Nat.le_of_ble_eq_true rfl) dL_law_604 rfl ?_
    refine l_eq C (tgt := 1067) dL_law_607 (by decide) ?_
    exact k _ _ hR1
  · obtain ⟨r, hC1, hM1, eC, eM, hR1⟩ := hst (xs (j + 1)) (xs (j + 2)) 1 rfl hC hM hR
    refine l_aload_n C 2 dL_law_553 rfl rfl ?_
    refine l_aload_n C 3 dL_law_554 rfl rfl ?_
    refine l_iload_n C 0 dL_law_555 rfl rfl ?_
    refine l_iconst C (v := 1) dL_law_556 rfl ?_
    refine l_iadd C dL_law_557 ?_
    refine l_sld C (j + 1) (nI_add j 1) (by omega) hL dL_law_558 ?_
    refine l_aload_n C 3 dL_law_559 rfl rfl ?_
    refine l_iload_n C 0 dL_law_560 rfl rfl ?_
    refine l_iconst C (v := 2) dL_law_561 rfl ?_
    refine l_iadd C dL_law_562 ?_
    refine l_sld C (j + 2) (nI_add j 2) (by omega) hL dL_law_563 ?_
    refine l_aload_n C 3 dL_law_564 rfl rfl ?_
    refine l_iload_n C 0 dL_law_565 rfl rfl ?_
    refine l_iconst C (v := 3) dL_law_566 rfl ?_
    refine l_iadd C dL_law_567 ?_
    refine l_sld C (j + 3) (nI_add j 3) (by omega) hL dL_law_568 ?_
    refine l_ifeqF C hz (tgt := 576) dL_law_569 (by decide) ?_
    refine l_iconst C (v := 1) dL_law_572 rfl ?_
    refine l_goto C (tgt := 577) dL_law_573 (by decide) ?_
    refine l_callC C (As := [.int (xs (j + 1)), .int (xs (j + 2)), .int 1]) (rest := []) (r := r) (d' := 16) (by rw [← eC]; exact cX11_save_ok g ((xs (j + 1))) ((xs (j + 2))) (1) _) vl_L_62 rfl (by decide) (Nat.le_of_ble_eq_true rfl) dL_law_577 rfl ?_
    refine l_aload_n C 1 dL_law_580 rfl rfl ?_
    refine l_aload_n C 3 dL_law_581 rfl rfl ?_
    refine l_iload_n C 0 dL_law_582 rfl rfl ?_
    refine l_iconst C (v := 1) dL_law_583 rfl ?_
    refine l_iadd C dL_law_584 ?_
    refine l_sld C (j + 1) (nI_add j 1) (by omega) hL dL_law_585 ?_
    refine l_aload_n C 3 dL_law_586 rfl rfl ?_
    refine l_iload_n C 0 dL_law_587 rfl rfl ?_
    refine l_iconst C (v := 2) dL_law_588 rfl ?_
    refine l_iadd C dL_law_589 ?_
    refine l_sld C (j + 2) (nI_add j 2) (by omega) hL dL_law_590 ?_
    refine l_aload_n C 3 dL_law_591 rfl rfl ?_
    refine l_iload_n C 0 dL_law_592 rfl rfl ?_
    refine l_iconst C (v := 3) dL_law_593 rfl ?_
    refine l_iadd C dL_law_594 ?_
    refine l_sld C (j + 3) (nI_add j 3) (by omega) hL dL_law_595 ?_
    refine l_ifeqF C hz (tgt := 603) dL_law_596 (by decide) ?_
    refine l_iconst C (v := 1) dL_law_599 rfl ?_
    refine l_goto C (tgt := 604) dL_law_600 (by decide) ?_
    refine l_callM C (As := [.int (xs (j + 1)), .int (xs (j + 2)), .int 1]) (rest := [.int r]) (r := r) (d' := 7) (by rw [← eM]; exact cX12_save_ok g ((xs (j + 1))) ((xs (j + 2))) (1) _) vl_L_66 rfl (by decide) (Nat.le_of_ble_eq_true rfl) dL_law_604 rfl ?_
    refine l_eq C (tgt := 1067) dL_law_607 (by decide) ?_
    exact k _ _ hR1
set_option maxHeartbeats 4000000 in
theorem lc_duel {g : GE} {p : Program} {e : Env} {s : State} {m : MethodId} {below : List Frame} {meth : Method} {c : Code} {bS L : Nat} {xs : Nat → Int32} (C : LCx g p s m meth c bS L xs) (hL : L ≤ 3072) {Rel : Hp → Hp → Prop} (hst : Stp_duel Rel) {j : Nat} (hj : j + 6 ≤ L) {hC hM : Hp} (hR : Rel hC hM) (k : ∀ hC hM, Rel hC hM → LW g p e s m below meth c bS 1067 [(3, .int (nI j)), (2, rv g 10 0), (1, rv g 9 0), (0, .ref bS)] [] hC hM) : LW g p e s m below meth c bS 612 [(3, .int (nI j)), (2, rv g 10 0), (1, rv g 9 0), (0, .ref bS)] [] hC hM := by
  by_cases hz : xs (j + 3) = 0
  · obtain ⟨r, hC1, hM1, eC, eM, hR1⟩ := hst (xs (j + 1)) (xs (j + 2)) 0 rfl hC hM hR
    refine l_aload_n C 2 dL_law_612 rfl rfl ?_
    refine l_aload_n C 3 dL_law_613 rfl rfl ?_
    refine l_iload_n C 0 dL_law_614 rfl rfl ?_
    refine l_iconst C (v := 1) dL_law_615 rfl ?_
    refine l_iadd C dL_law_616 ?_
    refine l_sld C (j + 1) (nI_add j 1) (by omega) hL dL_law_617 ?_
    refine l_aload_n C 3 dL_law_618 rfl rfl ?_
    refine l_iload_n C 0 dL_law_619 rfl rfl ?_
    refine l_iconst C (v := 2) dL_law_620 rfl ?_
    refine l_iadd C dL_law_621 ?_
    refine l_sld C (j + 2) (nI_add j 2) (by omega) hL dL_law_622 ?_
    refine l_aload_n C 3 dL_law_623 rfl rfl ?_
    refine l_iload_n C 0 dL_law_624 rfl rfl ?_
    refine l_iconst C (v := 3) dL_law_625 rfl ?_
    refine l_iadd C dL_law_626 ?_
    refine l_sld C (j + 3) (nI_add j 3) (by omega) hL dL_law_627 ?_
    refine l_ifeqT C hz (tgt := 635) dL_law_628 (by decide) ?_
    refine l_iconst C (v := 0) dL_law_635 rfl ?_
    refine l_callC C (As := [.int (xs (j + 1)), .int (xs (j + 2)), .int 0]) (rest := []) (r := r) (d' := 16) (by rw [← eC]; exact cX11_duel_ok g ((xs (j + 1))) ((xs (j + 2))) (0) _) vl_L_67 rfl (by decide) (Nat.le_of_ble_eq_true rfl) dL_law_636 rfl ?_
    refine l_aload_n C 1 dL_law_639 rfl rfl ?_
    refine l_aload_n C 3 dL_law_640 rfl rfl ?_
    refine l_iload_n C 0 dL_law_641 rfl rfl ?_
    refine l_iconst C (v := 1) dL_law_642 rfl ?_
    refine l_iadd C dL_law_643 ?_
    refine l_sld C (j + 1) (nI_add j 1) (by omega) hL dL_law_644 ?_
    refine l_aload_n C 3 dL_law_645 rfl rfl ?_
    refine l_iload_n C 0 dL_law_646 rfl rfl ?_
    refine l_iconst C (v := 2) dL_law_647 rfl ?_
    refine l_iadd C dL_law_648 ?_
    refine l_sld C (j + 2) (nI_add j 2) (by omega) hL dL_law_649 ?_
    refine l_aload_n C 3 dL_law_650 rfl rfl ?_
    refine l_iload_n C 0 dL_law_651 rfl rfl ?_
    refine l_iconst C (v := 3) dL_law_652 rfl ?_
    refine l_iadd C dL_law_653 ?_
    refine l_sld C (j + 3) (nI_add j 3) (by omega) hL dL_law_654 ?_
    refine l_ifeqT C hz (tgt := 662) dL_law_655 (by decide) ?_
    refine l_iconst C (v := 0) dL_law_662 rfl ?_
    refine l_callM C (As := [.int (xs (j + 1)), .int (xs (j + 2)), .int 0]) (rest := [.int r]) (r := r) (d' := 7) (by rw [← eM]; exact cX12_duel_ok g ((xs (j + 1))) ((xs (j + 2))) (0) _) vl_L_70 rfl (by decide) (Nat.le_of_ble_eq_true rfl) dL_law_663 rfl ?_
    refine l_eq C (tgt := 1067) dL_law_666 (by decide) ?_
    exact k _ _ hR1
  · obtain ⟨r, hC1, hM1, eC, eM, hR1⟩ := hst (xs (j + 1)) (xs (j + 2)) 1 rfl hC hM hR
    refine l_aload_n C 2 dL_law_612 rfl rfl ?_
    refine l_aload_n C 3 dL_law_613 rfl rfl ?_
    refine l_iload_n C 0 dL_law_614 rfl rfl ?_
    refine l_iconst C (v := 1) dL_law_615 rfl ?_
    refine l_iadd C dL_law_616 ?_
    refine l_sld C (j + 1) (nI_add j 1) (by omega) hL dL_law_617 ?_
    refine l_aload_n C 3 dL_law_618 rfl rfl ?_
    refine l_iload_n C 0 dL_law_619 rfl rfl ?_
    refine l_iconst C (v := 2) dL_law_620 rfl ?_
    refine l_iadd C dL_law_621 ?_
    refine l_sld C (j + 2) (nI_add j 2) (by omega) hL dL_law_622 ?_
    refine l_aload_n C 3 dL_law_623 rfl rfl ?_
    refine l_iload_n C 0 dL_law_624 rfl rfl ?_
    refine l_iconst C (v := 3) dL_law_625 rfl ?_
    refine l_iadd C dL_law_626 ?_
    refine l_sld C (j + 3) (nI_add j 3) (by omega) hL dL_law_627 ?_
    refine l_ifeqF C hz (tgt := 635) dL_law_628 (by decide) ?_
    refine l_iconst C (v := 1) dL_law_631 rfl ?_
    refine l_goto C (tgt := 636) dL_law_632 (by decide) ?_
    refine l_callC C (As := [.int (xs (j + 1)), .int (xs (j + 2)), .int 1]) (rest := []) (r := r) (d' := 16) (by rw [← eC]; exact cX11_duel_ok g ((xs (j + 1))) ((xs (j + 2))) (1) _) vl_L_67 rfl (by decide) (Nat.le_of_ble_eq_true rfl) dL_law_636 rfl ?_
    refine l_aload_n C 1 dL_law_639 rfl rfl ?_
    refine l_aload_n C 3 dL_law_640 rfl rfl ?_
    refine l_iload_n C 0 dL_law_641 rfl rfl ?_
    refine l_iconst C (v := 1) dL_law_642 rfl ?_
    refine l_iadd C dL_law_643 ?_
    refine l_sld C (j + 1) (nI_add j 1) (by omega) hL dL_law_644 ?_
    refine l_aload_n C 3 dL_law_645 rfl rfl ?_
    refine l_iload_n C 0 dL_law_646 rfl rfl ?_
    refine l_iconst C (v := 2) dL_law_647 rfl ?_
    refine l_iadd C dL_law_648 ?_
    refine l_sld C (j + 2) (nI_add j 2) (by omega) hL dL_law_649 ?_
    refine l_aload_n C 3 dL_law_650 rfl rfl ?_
    refine l_iload_n C 0 dL_law_651 rfl rfl ?_
    refine l_iconst C (v := 3) dL_law_652 rfl ?_
    refine l_iadd C dL_law_653 ?_
    refine l_sld C (j + 3) (nI_add j 3) (by omega) hL dL_law_654 ?_
    refine l_ifeqF C hz (tgt := 662) dL_law_655 (by decide) ?_
    refine l_iconst C (v := 1) dL_law_658 rfl ?_
    refine l_goto C (tgt := 663) dL_law_659 (by decide) ?_
    refine l_callM C (As := [.int (xs (j + 1)), .int (xs (j + 2)), .int 1]) (rest := [.int r]) (r := r) (d' := 7) (by rw [← eM]; exact cX12_duel_ok g ((xs (j + 1))) ((xs (j + 2))) (1) _) vl_L_70 rfl (by decide) (Nat.le_of_ble_eq_true rfl) dL_law_663 rfl ?_
    refine l_eq C (tgt := 1067) dL_law_666 (by decide) ?_
    exact k _ _ hR1
set_option maxHeartbeats 4000000 in
theorem lc_odds {g : GE} {p : Program} {e : Env} {s : State} {m : MethodId} {below : List Frame} {meth : Method} {c : Code} {bS L : Nat} {xs : Nat → Int32} (C : LCx g p s m meth c bS L xs) (hL : L ≤ 3072) {Rel : Hp → Hp → Prop} (hst : Stp_odds Rel) {j : Nat} (hj : j + 6 ≤ L) {hC hM : Hp} (hR : Rel hC hM) (k : ∀ hC hM, Rel hC hM → LW g p e s m below meth c bS 1067 [(3, .int (nI j)), (2, rv g 10 0), (1, rv g 9 0), (0, .ref bS)] [] hC hM) : LW g p e s m below meth c bS 671 [(3, .int (nI j)), (2, rv g 10 0), (1, rv g 9 0), (0, .ref bS)] [] hC hM := by
  by_cases hz : xs (j + 5) = 0
  · obtain ⟨r, hC1, hM1, eC, eM, hR1⟩ := hst (xs (j + 1)) (xs (j + 2)) (xs (j + 3)) (xs (j + 4)) 0 rfl hC hM hR
    refine l_aload_n C 2 dL_law_671 rfl rfl ?_
    refine l_aload_n C 3 dL_law_672 rfl rfl ?_
    refine l_iload_n C 0 dL_law_673 rfl rfl ?_
    refine l_iconst C (v := 1) dL_law_674 rfl ?_
    refine l_iadd C dL_law_675 ?_
    refine l_sld C (j + 1) (nI_add j 1) (by omega) hL dL_law_676 ?_
    refine l_aload_n C 3 dL_law_677 rfl rfl ?_
    refine l_iload_n C 0 dL_law_678 rfl rfl ?_
    refine l_iconst C (v := 2) dL_law_679 rfl ?_
    refine l_iadd C dL_law_680 ?_
    refine l_sld C (j + 2) (nI_add j 2) (by omega) hL dL_law_681 ?_
    refine l_aload_n C 3 dL_law_682 rfl rfl ?_
    refine l_iload_n C 0 dL_law_683 rfl rfl ?_
    refine l_iconst C (v := 3) dL_law_684 rfl ?_
    refine l_iadd C dL_law_685 ?_
    refine l_sld C (j + 3) (nI_add j 3) (by omega) hL dL_law_686 ?_
    refine l_aload_n C 3 dL_law_687 rfl rfl ?_
    refine l_iload_n C 0 dL_law_688 rfl rfl ?_
    refine l_iconst C (v := 4) dL_law_689 rfl ?_
    refine l_iadd C dL_law_690 ?_
    refine l_sld C (j + 4) (nI_add j 4) (by omega) hL dL_law_691 ?_
    refine l_aload_n C 3 dL_law_692 rfl rfl ?_
    refine l_iload_n C 0 dL_law_693 rfl rfl ?_
    refine l_iconst C (v := 5) dL_law_694 rfl ?_
    refine l_iadd C dL_law_695 ?_
    refine l_sld C (j + 5) (nI_add j 5) (by omega) hL dL_law_696 ?_
    refine l_ifeqT C hz (tgt := 704) dL_law_697 (by decide) ?_
    refine l_iconst C (v := 0) dL_law_704 rfl ?_
    refine l_callC C (As := [.int (xs (j + 1)), .int (xs (j + 2)), .int (xs (j + 3)), .int (xs (j + 4)), .int 0]) (rest := []) (r := r) (d' := 4) (by rw [← eC]; exact cX11_odds_ok g ((xs (j + 1))) ((xs (j + 2))) ((xs (j + 3))) ((xs (j + 4))) (0) _) vl_L_71 rfl (by decide) (Nat.le_of_ble_eq_true rfl) dL_law_705 rfl ?_
    refine l_aload_n C 1 dL_law_708 rfl rfl ?_
    refine l_aload_n C 3 dL_law_709 rfl rfl ?_
    refine l_iload_n C 0 dL_law_710 rfl rfl ?_
    refine l_iconst C (v := 1) dL_law_711 rfl ?_
    refine l_iadd C dL_law_712 ?_
    refine l_sld C (j + 1) (nI_add j 1) (by omega) hL dL_law_713 ?_
    refine l_aload_n C 3 dL_law_714 rfl rfl ?_
    refine l_iload_n C 0 dL_law_715 rfl rfl ?_
    refine l_iconst C (v := 2) dL_law_716 rfl ?_
    refine l_iadd C dL_law_717 ?_
    refine l_sld C (j + 2) (nI_add j 2) (by omega) hL dL_law_718 ?_
    refine l_aload_n C 3 dL_law_719 rfl rfl ?_
    refine l_iload_n C 0 dL_law_720 rfl rfl ?_
    refine l_iconst C (v := 3) dL_law_721 rfl ?_
    refine l_iadd C dL_law_722 ?_
    refine l_sld C (j + 3) (nI_add j 3) (by omega) hL dL_law_723 ?_
    refine l_aload_n C 3 dL_law_724 rfl rfl ?_
    refine l_iload_n C 0 dL_law_725 rfl rfl ?_
    refine l_iconst C (v := 4) dL_law_726 rfl ?_
    refine l_iadd C dL_law_727 ?_
    refine l_sld C (j + 4) (nI_add j 4) (by omega) hL dL_law_728 ?_
    refine l_aload_n C 3 dL_law_729 rfl rfl ?_
    refine l_iload_n C 0 dL_law_730 rfl rfl ?_
    refine l_iconst C (v := 5) dL_law_731 rfl ?_
    refine l_iadd C dL_law_732 ?_
    refine l_sld C (j + 5) (nI_add j 5) (by omega) hL dL_law_733 ?_
    refine l_ifeqT C hz (tgt := 741) dL_law_734 (by decide) ?_
    refine l_iconst C (v := 0) dL_law_741 rfl ?_
    refine l_callM C (As := [.int (xs (j + 1)), .int (xs (j + 2)), .int (xs (j + 3)), .int (xs (j + 4)), .int 0]) (rest := [.int r]) (r := r) (d' := 5) (by rw [← eM]; exact cX12_odds_ok g ((xs (j + 1))) ((xs (j + 2))) ((xs (j + 3))) ((xs (j + 4))) (0) _) vl_L_75 rfl (by decide) (Nat.le_of_ble_eq_true rfl) dL_law_742 rfl ?_
    refine l_eq C (tgt := 1067) dL_law_745 (by decide) ?_
    exact k _ _ hR1
  · obtain ⟨r, hC1, hM1, eC, eM, hR1⟩ := hst (xs (j + 1)) (xs (j + 2)) (xs (j + 3)) (xs (j + 4)) 1 rfl hC hM hR
    refine l_aload_n C 2 dL_law_671 rfl rfl ?_
    refine l_aload_n C 3 dL_law_672 rfl rfl ?_
    refine l_iload_n C 0 dL_law_673 rfl rfl ?_
    refine l_iconst C (v := 1) dL_law_674 rfl ?_
    refine l_iadd C dL_law_675 ?_
    refine l_sld C (j + 1) (nI_add j 1) (by omega) hL dL_law_676 ?_
    refine l_aload_n C 3 dL_law_677 rfl rfl ?_
    refine l_iload_n C 0 dL_law_678 rfl rfl ?_
    refine l_iconst C (v := 2) dL_law_679 rfl ?_
    refine l_iadd C dL_law_680 ?_
    refine l_sld C (j + 2) (nI_add j 2) (by omega) hL dL_law_681 ?_
    refine l_aload_n C 3 dL_law_682 rfl rfl ?_
    refine l_iload_n C 0 dL_law_683 rfl rfl ?_
    refine l_iconst C (v := 3) dL_law_684 rfl ?_
    refine l_iadd C dL_law_685 ?_
    refine l_sld C (j + 3) (nI_add j 3) (by omega) hL dL_law_686 ?_
    refine l_aload_n C 3 dL_law_687 rfl rfl ?_
    refine l_iload_n C 0 dL_law_688 rfl rfl ?_
    refine l_iconst C (v := 4) dL_law_689 rfl ?_
    refine l_iadd C dL_law_690 ?_
    refine l_sld C (j + 4) (nI_add j 4) (by omega) hL dL_law_691 ?_
    refine l_aload_n C 3 dL_law_692 rfl rfl ?_
    refine l_iload_n C 0 dL_law_693 rfl rfl ?_
    refine l_iconst C (v := 5) dL_law_694 rfl ?_
    refine l_iadd C dL_law_695 ?_
    refine l_sld C (j + 5) (nI_add j 5) (by omega) hL dL_law_696 ?_
    refine l_ifeqF C hz (tgt := 704) dL_law_697 (by decide) ?_
    refine l_iconst C (v := 1) dL_law_700 rfl ?_
    refine l_goto C (tgt := 705) dL_law_701 (by decide) ?_
    refine l_callC C (As := [.int (xs (j + 1)), .int (xs (j + 2)), .int (xs (j + 3)), .int (xs (j + 4)), .int 1]) (rest := []) (r := r) (d' := 4) (by rw [← eC]; exact cX11_odds_ok g ((xs (j + 1))) ((xs (j + 2))) ((xs (j + 3))) ((xs (j + 4))) (1) _) vl_L_71 rfl (by decide) (Nat.le_of_ble_eq_true rfl) dL_law_705 rfl ?_
    refine l_aload_n C 1 dL_law_708 rfl rfl ?_
    refine l_aload_n C 3 dL_law_709 rfl rfl ?_
    refine l_iload_n C 0 dL_law_710 rfl rfl ?_
    refine l_iconst C (v := 1) dL_law_711 rfl ?_
    refine l_iadd C dL_law_712 ?_
    refine l_sld C (j + 1) (nI_add j 1) (by omega) hL dL_law_713 ?_
    refine l_aload_n C 3 dL_law_714 rfl rfl ?_
    refine l_iload_n C 0 dL_law_715 rfl rfl ?_
    refine l_iconst C (v := 2) dL_law_716 rfl ?_
    refine l_iadd C dL_law_717 ?_
    refine l_sld C (j + 2) (nI_add j 2) (by omega) hL dL_law_718 ?_
    refine l_aload_n C 3 dL_law_719 rfl rfl ?_
    refine l_iload_n C 0 dL_law_720 rfl rfl ?_
    refine l_iconst C (v := 3) dL_law_721 rfl ?_
    refine l_iadd C dL_law_722 ?_
    refine l_sld C (j + 3) (nI_add j 3) (by omega) hL dL_law_723 ?_
    refine l_aload_n C 3 dL_law_724 rfl rfl ?_
    refine l_iload_n C 0 dL_law_725 rfl rfl ?_
    refine l_iconst C (v := 4) dL_law_726 rfl ?_
    refine l_iadd C dL_law_727 ?_
    refine l_sld C (j + 4) (nI_add j 4) (by omega) hL dL_law_728 ?_
    refine l_aload_n C 3 dL_law_729 rfl rfl ?_
    refine l_iload_n C 0 dL_law_730 rfl rfl ?_
    refine l_iconst C (v := 5) dL_law_731 rfl ?_
    refine l_iadd C dL_law_732 ?_
    refine l_sld C (j + 5) (nI_add j 5) (by omega) hL dL_law_733 ?_
    refine l_ifeqF C hz (tgt := 741) dL_law_734 (by decide) ?_
    refine l_iconst C (v := 1) dL_law_737 rfl ?_
    refine l_goto C (tgt := 742) dL_law_738 (by decide) ?_
    refine l_callM C (As := [.int (xs (j + 1)), .int (xs (j + 2)), .int (xs (j + 3)), .int (xs (j + 4)), .int 1]) (rest := [.int r]) (r := r) (d' := 5) (by rw [← eM]; exact cX12_odds_ok g ((xs (j + 1))) ((xs (j + 2))) ((xs (j + 3))) ((xs (j + 4))) (1) _) vl_L_75 rfl (by decide) (Nat.le_of_ble_eq_true rfl) dL_law_742 rfl ?_
    refine l_eq C (tgt := 1067) dL_law_745 (by decide) ?_
    exact k _ _ hR1
set_option maxHeartbeats 4000000 in
theorem lc_log {g : GE} {p : Program} {e : Env} {s : State} {m : MethodId} {below : List Frame} {meth : Method} {c : Code} {bS L : Nat} {xs : Nat → Int32} (C : LCx g p s m meth c bS L xs) (hL : L ≤ 3072) {Rel : Hp → Hp → Prop} (hst : Stp_log Rel) {j : Nat} (hj : j + 6 ≤ L) {hC hM : Hp} (hR : Rel hC hM) (k : ∀ hC hM, Rel hC hM → LW g p e s m below meth c bS 1067 [(3, .int (nI j)), (2, rv g 10 0), (1, rv g 9 0), (0, .ref bS)] [] hC hM) : LW g p e s m below meth c bS 750 [(3, .int (nI j)), (2, rv g 10 0), (1, rv g 9 0), (0, .ref bS)] [] hC hM := by
  obtain ⟨r, hC1, hM1, eC, eM, hR1⟩ := hst (xs (j + 1)) (xs (j + 2)) hC hM hR
  refine l_aload_n C 2 dL_law_750 rfl rfl ?_
  refine l_aload_n C 3 dL_law_751 rfl rfl ?_
  refine l_iload_n C 0 dL_law_752 rfl rfl ?_
  refine l_iconst C (v := 1) dL_law_753 rfl ?_
  refine l_iadd C dL_law_754 ?_
  refine l_sld C (j + 1) (nI_add j 1) (by omega) hL dL_law_755 ?_
  refine l_aload_n C 3 dL_law_756 rfl rfl ?_
  refine l_iload_n C 0 dL_law_757 rfl rfl ?_
  refine l_iconst C (v := 2) dL_law_758 rfl ?_
  refine l_iadd C dL_law_759 ?_
  refine l_sld C (j + 2) (nI_add j 2) (by omega) hL dL_law_760 ?_
  refine l_callC C (As := [.int (xs (j + 1)), .int (xs (j + 2))]) (rest := []) (r := r) (d' := 3) (by rw [← eC]; exact cX11_log_ok g ((xs (j + 1))) ((xs (j + 2))) _) vl_L_76 rfl (by decide) (Nat.le_of_ble_eq_true rfl) dL_law_761 rfl ?_
  refine l_aload_n C 1 dL_law_764 rfl rfl ?_
  refine l_aload_n C 3 dL_law_765 rfl rfl ?_
  refine l_iload_n C 0 dL_law_766 rfl rfl ?_
  refine l_iconst C (v := 1) dL_law_767 rfl ?_
  refine l_iadd C dL_law_768 ?_
  refine l_sld C (j + 1) (nI_add j 1) (by omega) hL dL_law_769 ?_
  refine l_aload_n C 3 dL_law_770 rfl rfl ?_
  refine l_iload_n C 0 dL_law_771 rfl rfl ?_
  refine l_iconst C (v := 2) dL_law_772 rfl ?_
  refine l_iadd C dL_law_773 ?_
  refine l_sld C (j + 2) (nI_add j 2) (by omega) hL dL_law_774 ?_
  refine l_callM C (As := [.int (xs (j + 1)), .int (xs (j + 2))]) (rest := [.int r]) (r := r) (d' := 5) (by rw [← eM]; exact cX12_log_ok g ((xs (j + 1))) ((xs (j + 2))) _) vl_L_79 rfl (by decide) (Nat.le_of_ble_eq_true rfl) dL_law_775 rfl ?_
  refine l_eq C (tgt := 1067) dL_law_778 (by decide) ?_
  exact k _ _ hR1
set_option maxHeartbeats 4000000 in
theorem lc_fits {g : GE} {p : Program} {e : Env} {s : State} {m : MethodId} {below : List Frame} {meth : Method} {c : Code} {bS L : Nat} {xs : Nat → Int32} (C : LCx g p s m meth c bS L xs) (hL : L ≤ 3072) {Rel : Hp → Hp → Prop} (hst : Stp_fits Rel) {j : Nat} (hj : j + 6 ≤ L) {hC hM : Hp} (hR : Rel hC hM) (k : ∀ hC hM, Rel hC hM → LW g p e s m below meth c bS 1067 [(3, .int (nI j)), (2, rv g 10 0), (1, rv g 9 0), (0, .ref bS)] [] hC hM) : LW g p e s m below meth c bS 783 [(3, .int (nI j)), (2, rv g 10 0), (1, rv g 9 0), (0, .ref bS)] [] hC hM := by
  obtain ⟨r, hC1, hM1, eC, eM, hR1⟩ := hst (xs (j + 1)) (xs (j + 2)) (xs (j + 3)) hC hM hR
  refine l_aload_n C 2 dL_law_783 rfl rfl ?_
  refine l_aload_n C 3 dL_law_784 rfl rfl ?_
  refine l_iload_n C 0 dL_law_785 rfl rfl ?_
  refine l_iconst C (v := 1) dL_law_786 rfl ?_
  refine l_iadd C dL_law_787 ?_
  refine l_sld C (j + 1) (nI_add j 1) (by omega) hL dL_law_788 ?_
  refine l_aload_n C 3 dL_law_789 rfl rfl ?_
  refine l_iload_n C 0 dL_law_790 rfl rfl ?_
  refine l_iconst C (v := 2) dL_law_791 rfl ?_
  refine l_iadd C dL_law_792 ?_
  refine l_sld C (j + 2) (nI_add j 2) (by omega) hL dL_law_793 ?_
  refine l_aload_n C 3 dL_law_794 rfl rfl ?_
  refine l_iload_n C 0 dL_law_795 rfl rfl ?_
  refine l_iconst C (v := 3) dL_law_796 rfl ?_
  refine l_iadd C dL_law_797 ?_
  refine l_sld C (j + 3) (nI_add j 3) (by omega) hL dL_law_798 ?_
  refine l_callC C (As := [.int (xs (j + 1)), .int (xs (j + 2)), .int (xs (j + 3))]) (rest := []) (r := r) (d' := 5) (by rw [← eC]; exact cX11_fits_ok g ((xs (j + 1))) ((xs (j + 2))) ((xs (j + 3))) _) vl_L_80 rfl (by decide) (Nat.le_of_ble_eq_true rfl) dL_law_799 rfl ?_
  refine l_aload_n C 1 dL_law_802 rfl rfl ?_
  refine l_aload_n C 3 dL_law_803 rfl rfl ?_
  refine l_iload_n C 0 dL_law_804 rfl rfl ?_
  refine l_iconst C (v := 1) dL_law_805 rfl ?_
  refine l_iadd C dL_law_806 ?_
  refine l_sld C (j + 1) (nI_add j 1) (by omega) hL dL_law_807 ?_
  refine l_aload_n C 3 dL_law_808 rfl rfl ?_
  refine l_iload_n C 0 dL_law_809 rfl rfl ?_
  refine l_iconst C (v := 2) dL_law_810 rfl ?_
  refine l_iadd C dL_law_811 ?_
  refine l_sld C (j + 2) (nI_add j 2) (by omega) hL dL_law_812 ?_
  refine l_aload_n C 3 dL_law_813 rfl rfl ?_
  refine l_iload_n C 0 dL_law_814 rfl rfl ?_
  refine l_iconst C (v := 3) dL_law_815 rfl ?_
  refine l_iadd C dL_law_816 ?_
  refine l_sld C (j + 3) (nI_add j 3) (by omega) hL dL_law_817 ?_
  refine l_callM C (As := [.int (xs (j + 1)), .int (xs (j + 2)), .int (xs (j + 3))]) (rest := [.int r]) (r := r) (d' := 7) (by rw [← eM]; exact cX12_fits_ok g ((xs (j + 1))) ((xs (j + 2))) ((xs (j + 3))) _) vl_L_83 rfl (by decide) (Nat.le_of_ble_eq_true rfl) dL_law_818 rfl ?_
  refine l_eq C (tgt := 1067) dL_law_821 (by decide) ?_
  exact k _ _ hR1
set_option maxHeartbeats 4000000 in
theorem lc_drawn {g : GE} {p : Program} {e : Env} {s : State} {m : MethodId} {below : List Frame} {meth : Method} {c : Code} {bS L : Nat} {xs : Nat → Int32} (C : LCx g p s m meth c bS L xs) (hL : L ≤ 3072) {Rel : Hp → Hp → Prop} (hst : Stp_drawn Rel) {j : Nat} (hj : j + 6 ≤ L) {hC hM : Hp} (hR : Rel hC hM) (k : ∀ hC hM, Rel hC hM → LW g p e s m below meth c bS 1067 [(3, .int (nI j)), (2, rv g 10 0), (1, rv g 9 0), (0, .ref bS)] [] hC hM) : LW g p e s m below meth c bS 826 [(3, .int (nI j)), (2, rv g 10 0), (1, rv g 9 0), (0, .ref bS)] [] hC hM := by
  obtain ⟨r, hC1, hM1, eC, eM, hR1⟩ := hst (xs (j + 1)) (xs (j + 2)) (xs (j + 3)) (xs (j + 4)) hC hM hR
  refine l_aload_n C 2 dL_law_826 rfl rfl ?_
  refine l_aload_n C 3 dL_law_827 rfl rfl ?_
  refine l_iload_n C 0 dL_law_828 rfl rfl ?_
  refine l_iconst C (v := 1) dL_law_829 rfl ?_
  refine l_iadd C dL_law_830 ?_
  refine l_sld C (j + 1) (nI_add j 1) (by omega) hL dL_law_831 ?_
  refine l_aload_n C 3 dL_law_832 rfl rfl ?_
  refine l_iload_n C 0 dL_law_833 rfl rfl ?_
  refine l_iconst C (v := 2) dL_law_834 rfl ?_
  refine l_iadd C dL_law_835 ?_
  refine l_sld C (j + 2) (nI_add j 2) (by omega) hL dL_law_836 ?_
  refine l_aload_n C 3 dL_law_837 rfl rfl ?_
  refine l_iload_n C 0 dL_law_838 rfl rfl ?_
  refine l_iconst C (v := 3) dL_law_839 rfl ?_
  refine l_iadd C dL_law_840 ?_
  refine l_sld C (j + 3) (nI_add j 3) (by omega) hL dL_law_841 ?_
  refine l_aload_n C 3 dL_law_842 rfl rfl ?_
  refine l_iload_n C 0 dL_law_843 rfl rfl ?_
  refine l_iconst C (v := 4) dL_law_844 rfl ?_
  refine l_iadd C dL_law_845 ?_
  refine l_sld C (j + 4) (nI_add j 4) (by omega) hL dL_law_846 ?_
  refine l_callC C (As := [.int (xs (j + 1)), .int (xs (j + 2)), .int (xs (j + 3)), .int (xs (j + 4))]) (rest := []) (r := r) (d' := 7) (by rw [← eC]; exact cX11_drawn_ok g ((xs (j + 1))) ((xs (j + 2))) ((xs (j + 3))) ((xs (j + 4))) _) vl_L_84 rfl (by decide) (Nat.le_of_ble_eq_true rfl) dL_law_847 rfl ?_
  refine l_aload_n C 1 dL_law_850 rfl rfl ?_
  refine l_aload_n C 3 dL_law_851 rfl rfl ?_
  refine l_iload_n C 0 dL_law_852 rfl rfl ?_
  refine l_iconst C (v := 1) dL_law_853 rfl ?_
  refine l_iadd C dL_law_854 ?_
  refine l_sld C (j + 1) (nI_add j 1) (by omega) hL dL_law_855 ?_
  refine l_aload_n C 3 dL_law_856 rfl rfl ?_
  refine l_iload_n C 0 dL_law_857 rfl rfl ?_
  refine l_iconst C (v := 2) dL_law_858 rfl ?_
  refine l_iadd C dL_law_859 ?_
  refine l_sld C (j + 2) (nI_add j 2) (by omega) hL dL_law_860 ?_
  refine l_aload_n C 3 dL_law_861 rfl rfl ?_
  refine l_iload_n C 0 dL_law_862 rfl rfl ?_
  refine l_iconst C (v := 3) dL_law_863 rfl ?_
  refine l_iadd C dL_law_864 ?_
  refine l_sld C (j + 3) (nI_add j 3) (by omega) hL dL_law_865 ?_
  refine l_aload_n C 3 dL_law_866 rfl rfl ?_
  refine l_iload_n C 0 dL_law_867 rfl rfl ?_
  refine l_iconst C (v := 4) dL_law_868 rfl ?_
  refine l_iadd C dL_law_869 ?_
  refine l_sld C (j + 4) (nI_add j 4) (by omega) hL dL_law_870 ?_
  refine l_callM C (As := [.int (xs (j + 1)), .int (xs (j + 2)), .int (xs (j + 3)), .int (xs (j + 4))]) (rest := [.int r]) (r := r) (d' := 7) (by rw [← eM]; exact cX12_drawn_ok g ((xs (j + 1))) ((xs (j + 2))) ((xs (j + 3))) ((xs (j + 4))) _) vl_L_87 rfl (by decide) (Nat.le_of_ble_eq_true rfl) dL_law_871 rfl ?_
  refine l_eq C (tgt := 1067) dL_law_874 (by decide) ?_
  exact k _ _ hR1
set_option maxHeartbeats 4000000 in
theorem lc_load {g : GE} {p : Program} {e : Env} {s : State} {m : MethodId} {below : List Frame} {meth : Method} {c : Code} {bS L : Nat} {xs : Nat → Int32} (C : LCx g p s m meth c bS L xs) (hL : L ≤ 3072) {Rel : Hp → Hp → Prop} (hst : Stp_load Rel) {j : Nat} (hj : j + 6 ≤ L) {hC hM : Hp} (hR : Rel hC hM) (k : ∀ hC hM, Rel hC hM → LW g p e s m below meth c bS 1067 [(3, .int (nI j)), (2, rv g 10 0), (1, rv g 9 0), (0, .ref bS)] [] hC hM) : LW g p e s m below meth c bS 879 [(3, .int (nI j)), (2, rv g 10 0), (1, rv g 9 0), (0, .ref bS)] [] hC hM := by
  obtain ⟨r, hC1, hM1, eC, eM, hR1⟩ := hst (xs (j + 1)) (xs (j + 2)) hC hM hR
  refine l_aload_n C 2 dL_law_879 rfl rfl ?_
  refine l_aload_n C 3 dL_law_880 rfl rfl ?_
  refine l_iload_n C 0 dL_law_881 rfl rfl ?_
  refine l_iconst C (v := 1) dL_law_882 rfl ?_
  refine l_iadd C dL_law_883 ?_
  refine l_sld C (j + 1) (nI_add j 1) (by omega) hL dL_law_884 ?_
  refine l_aload_n C 3 dL_law_885 rfl rfl ?_
  refine l_iload_n C 0 dL_law_886 rfl rfl ?_
  refine l_iconst C (v := 2) dL_law_887 rfl ?_
  refine l_iadd C dL_law_888 ?_
  refine l_sld C (j + 2) (nI_add j 2) (by omega) hL dL_law_889 ?_
  refine l_callC C (As := [.int (xs (j + 1)), .int (xs (j + 2))]) (rest := []) (r := r) (d' := 9) (by rw [← eC]; exact cX11_load_ok g ((xs (j + 1))) ((xs (j + 2))) _) vl_L_88 rfl (by decide) (Nat.le_of_ble_eq_true rfl) dL_law_890 rfl ?_
  refine l_aload_n C 1 dL_law_893 rfl rfl ?_
  refine l_aload_n C 3 dL_law_894 rfl rfl ?_
  refine l_iload_n C 0 dL_law_895 rfl rfl ?_
  refine l_iconst C (v := 1) dL_law_896 rfl ?_
  refine l_iadd C dL_law_897 ?_
  refine l_sld C (j + 1) (nI_add j 1) (by omega) hL dL_law_898 ?_
  refine l_aload_n C 3 dL_law_899 rfl rfl ?_
  refine l_iload_n C 0 dL_law_900 rfl rfl ?_
  refine l_iconst C (v := 2) dL_law_901 rfl ?_
  refine l_iadd C dL_law_902 ?_
  refine l_sld C (j + 2) (nI_add j 2) (by omega) hL dL_law_903 ?_
  refine l_callM C (As := [.int (xs (j + 1)), .int (xs (j + 2))]) (rest := [.int r]) (r := r) (d' := 9) (by rw [← eM]; exact cX12_load_ok g ((xs (j + 1))) ((xs (j + 2))) _) vl_L_91 rfl (by decide) (Nat.le_of_ble_eq_true rfl) dL_law_904 rfl ?_
  refine l_eq C (tgt := 1067) dL_law_907 (by decide) ?_
  exact k _ _ hR1
set_option maxHeartbeats 4000000 in
theorem lc_after {g : GE} {p : Program} {e : Env} {s : State} {m : MethodId} {below : List Frame} {meth : Method} {c : Code} {bS L : Nat} {xs : Nat → Int32} (C : LCx g p s m meth c bS L xs) (hL : L ≤ 3072) {Rel : Hp → Hp → Prop} (hst : Stp_after Rel) {j : Nat} (hj : j + 6 ≤ L) {hC hM : Hp} (hR : Rel hC hM) (k : ∀ hC hM, Rel hC hM → LW g p e s m below meth c bS 1067 [(3, .int (nI j)), (2, rv g 10 0), (1, rv g 9 0), (0, .ref bS)] [] hC hM) : LW g p e s m below meth c bS 912 [(3, .int (nI j)), (2, rv g 10 0), (1, rv g 9 0), (0, .ref bS)] [] hC hM := by
  obtain ⟨r, hC1, hM1, eC, eM, hR1⟩ := hst (xs (j + 1)) (xs (j + 2)) (xs (j + 3)) hC hM hR
  refine l_aload_n C 2 dL_law_912 rfl rfl ?_
  refine l_aload_n C 3 dL_law_913 rfl rfl ?_
  refine l_iload_n C 0 dL_law_914 rfl rfl ?_
  refine l_iconst C (v := 1) dL_law_915 rfl ?_
  refine l_iadd C dL_law_916 ?_
  refine l_sld C (j + 1) (nI_add j 1) (by omega) hL dL_law_917 ?_
  refine l_aload_n C 3 dL_law_918 rfl rfl ?_
  refine l_iload_n C 0 dL_law_919 rfl rfl ?_
  refine l_iconst C (v := 2) dL_law_920 rfl ?_
  refine l_iadd C dL_law_921 ?_
  refine l_sld C (j + 2) (nI_add j 2) (by omega) hL dL_law_922 ?_
  refine l_aload_n C 3 dL_law_923 rfl rfl ?_
  refine l_iload_n C 0 dL_law_924 rfl rfl ?_
  refine l_iconst C (v := 3) dL_law_925 rfl ?_
  refine l_iadd C dL_law_926 ?_
  refine l_sld C (j + 3) (nI_add j 3) (by omega) hL dL_law_927 ?_
  refine l_callC C (As := [.int (xs (j + 1)), .int (xs (j + 2)), .int (xs (j + 3))]) (rest := []) (r := r) (d' := 7) (by rw [← eC]; exact cX11_after_ok g ((xs (j + 1))) ((xs (j + 2))) ((xs (j + 3))) _) vl_L_92 rfl (by decide) (Nat.le_of_ble_eq_true rfl) dL_law_928 rfl ?_
  refine l_aload_n C 1 dL_law_931 rfl rfl ?_
  refine l_aload_n C 3 dL_law_932 rfl rfl ?_
  refine l_iload_n C 0 dL_law_933 rfl rfl ?_
  refine l_iconst C (v := 1) dL_law_934 rfl ?_
  refine l_iadd C dL_law_935 ?_
  refine l_sld C (j + 1) (nI_add j 1) (by omega) hL dL_law_936 ?_
  refine l_aload_n C 3 dL_law_937 rfl rfl ?_
  refine l_iload_n C 0 dL_law_938 rfl rfl ?_
  refine l_iconst C (v := 2) dL_law_939 rfl ?_
  refine l_iadd C dL_law_940 ?_
  refine l_sld C (j + 2) (nI_add j 2) (by omega) hL dL_law_941 ?_
  refine l_aload_n C 3 dL_law_942 rfl rfl ?_
  refine l_iload_n C 0 dL_law_943 rfl rfl ?_
  refine l_iconst C (v := 3) dL_law_944 rfl ?_
  refine l_iadd C dL_law_945 ?_
  refine l_sld C (j + 3) (nI_add j 3) (by omega) hL dL_law_946 ?_
  refine l_callM C (As := [.int (xs (j + 1)), .int (xs (j + 2)), .int (xs (j + 3))]) (rest := [.int r]) (r := r) (d' := 7) (by rw [← eM]; exact cX12_after_ok g ((xs (j + 1))) ((xs (j + 2))) ((xs (j + 3))) _) vl_L_95 rfl (by decide) (Nat.le_of_ble_eq_true rfl) dL_law_947 rfl ?_
  refine l_eq C (tgt := 1067) dL_law_950 (by decide) ?_
  exact k _ _ hR1
set_option maxHeartbeats 4000000 in
theorem lc_least {g : GE} {p : Program} {e : Env} {s : State} {m : MethodId} {below : List Frame} {meth : Method} {c : Code} {bS L : Nat} {xs : Nat → Int32} (C : LCx g p s m meth c bS L xs) (hL : L ≤ 3072) {Rel : Hp → Hp → Prop} (hst : Stp_least Rel) {j : Nat} (hj : j + 6 ≤ L) {hC hM : Hp} (hR : Rel hC hM) (k : ∀ hC hM, Rel hC hM → LW g p e s m below meth c bS 1067 [(3, .int (nI j)), (2, rv g 10 0), (1, rv g 9 0), (0, .ref bS)] [] hC hM) : LW g p e s m below meth c bS 955 [(3, .int (nI j)), (2, rv g 10 0), (1, rv g 9 0), (0, .ref bS)] [] hC hM := by
  obtain ⟨r, hC1, hM1, eC, eM, hR1⟩ := hst (xs (j + 1)) (xs (j + 2)) (xs (j + 3)) hC hM hR
  refine l_aload_n C 2 dL_law_955 rfl rfl ?_
  refine l_aload_n C 3 dL_law_956 rfl rfl ?_
  refine l_iload_n C 0 dL_law_957 rfl rfl ?_
  refine l_iconst C (v := 1) dL_law_958 rfl ?_
  refine l_iadd C dL_law_959 ?_
  refine l_sld C (j + 1) (nI_add j 1) (by omega) hL dL_law_960 ?_
  refine l_aload_n C 3 dL_law_961 rfl rfl ?_
  refine l_iload_n C 0 dL_law_962 rfl rfl ?_
  refine l_iconst C (v := 2) dL_law_963 rfl ?_
  refine l_iadd C dL_law_964 ?_
  refine l_sld C (j + 2) (nI_add j 2) (by omega) hL dL_law_965 ?_
  refine l_aload_n C 3 dL_law_966 rfl rfl ?_
  refine l_iload_n C 0 dL_law_967 rfl rfl ?_
  refine l_iconst C (v := 3) dL_law_968 rfl ?_
  refine l_iadd C dL_law_969 ?_
  refine l_sld C (j + 3) (nI_add j 3) (by omega) hL dL_law_970 ?_
  refine l_callC C (As := [.int (xs (j + 1)), .int (xs (j + 2)), .int (xs (j + 3))]) (rest := []) (r := r) (d' := 5) (by rw [← eC]; exact cX11_least_ok g ((xs (j + 1))) ((xs (j + 2))) ((xs (j + 3))) _) vl_L_96 rfl (by decide) (Nat.le_of_ble_eq_true rfl) dL_law_971 rfl ?_
  refine l_aload_n C 1 dL_law_974 rfl rfl ?_
  refine l_aload_n C 3 dL_law_975 rfl rfl ?_
  refine l_iload_n C 0 dL_law_976 rfl rfl ?_
  refine l_iconst C (v := 1) dL_law_977 rfl ?_
  refine l_iadd C dL_law_978 ?_
  refine l_sld C (j + 1) (nI_add j 1) (by omega) hL dL_law_979 ?_
  refine l_aload_n C 3 dL_law_980 rfl rfl ?_
  refine l_iload_n C 0 dL_law_981 rfl rfl ?_
  refine l_iconst C (v := 2) dL_law_982 rfl ?_
  refine l_iadd C dL_law_983 ?_
  refine l_sld C (j + 2) (nI_add j 2) (by omega) hL dL_law_984 ?_
  refine l_aload_n C 3 dL_law_985 rfl rfl ?_
  refine l_iload_n C 0 dL_law_986 rfl rfl ?_
  refine l_iconst C (v := 3) dL_law_987 rfl ?_
  refine l_iadd C dL_law_988 ?_
  refine l_sld C (j + 3) (nI_add j 3) (by omega) hL dL_law_989 ?_
  refine l_callM C (As := [.int (xs (j + 1)), .int (xs (j + 2)), .int (xs (j + 3))]) (rest := [.int r]) (r := r) (d' := 7) (by rw [← eM]; exact cX12_least_ok g ((xs (j + 1))) ((xs (j + 2))) ((xs (j + 3))) _) vl_L_99 rfl (by decide) (Nat.le_of_ble_eq_true rfl) dL_law_990 rfl ?_
  refine l_eq C (tgt := 1067) dL_law_993 (by decide) ?_
  exact k _ _ hR1
set_option maxHeartbeats 4000000 in
theorem lc_count {g : GE} {p : Program} {e : Env} {s : State} {m : MethodId} {below : List Frame} {meth : Method} {c : Code} {bS L : Nat} {xs : Nat → Int32} (C : LCx g p s m meth c bS L xs) (hL : L ≤ 3072) {Rel : Hp → Hp → Prop} (hst : Stp_count Rel) {j : Nat} (hj : j + 6 ≤ L) {hC hM : Hp} (hR : Rel hC hM) (k : ∀ hC hM, Rel hC hM → LW g p e s m below meth c bS 1067 [(3, .int (nI j)), (2, rv g 10 0), (1, rv g 9 0), (0, .ref bS)] [] hC hM) : LW g p e s m below meth c bS 998 [(3, .int (nI j)), (2, rv g 10 0), (1, rv g 9 0), (0, .ref bS)] [] hC hM := by
  obtain ⟨r, hC1, hM1, eC, eM, hR1⟩ := hst (xs (j + 1)) hC hM hR
  refine l_aload_n C 2 dL_law_998 rfl rfl ?_
  refine l_aload_n C 3 dL_law_999 rfl rfl ?_
  refine l_iload_n C 0 dL_law_1000 rfl rfl ?_
  refine l_iconst C (v := 1) dL_law_1001 rfl ?_
  refine l_iadd C dL_law_1002 ?_
  refine l_sld C (j + 1) (nI_add j 1) (by omega) hL dL_law_1003 ?_
  refine l_callC C (As := [.int (xs (j + 1))]) (rest := []) (r := r) (d' := 3) (by rw [← eC]; exact cX11_count_ok g ((xs (j + 1))) _) vl_L_100 rfl (by decide) (Nat.le_of_ble_eq_true rfl) dL_law_1004 rfl ?_
  refine l_aload_n C 1 dL_law_1007 rfl rfl ?_
  refine l_aload_n C 3 dL_law_1008 rfl rfl ?_
  refine l_iload_n C 0 dL_law_1009 rfl rfl ?_
  refine l_iconst C (v := 1) dL_law_1010 rfl ?_
  refine l_iadd C dL_law_1011 ?_
  refine l_sld C (j + 1) (nI_add j 1) (by omega) hL dL_law_1012 ?_
  refine l_callM C (As := [.int (xs (j + 1))]) (rest := [.int r]) (r := r) (d' := 3) (by rw [← eM]; exact cX12_count_ok g ((xs (j + 1))) _) vl_L_103 rfl (by decide) (Nat.le_of_ble_eq_true rfl) dL_law_1013 rfl ?_
  refine l_eq C (tgt := 1067) dL_law_1016 (by decide) ?_
  exact k _ _ hR1
set_option maxHeartbeats 4000000 in
theorem lc_image {g : GE} {p : Program} {e : Env} {s : State} {m : MethodId} {below : List Frame} {meth : Method} {c : Code} {bS L : Nat} {xs : Nat → Int32} (C : LCx g p s m meth c bS L xs) (hL : L ≤ 3072) {Rel : Hp → Hp → Prop} (hst : Stp_image Rel) {j : Nat} (hj : j + 6 ≤ L) {hC hM : Hp} (hR : Rel hC hM) (k : ∀ hC hM, Rel hC hM → LW g p e s m below meth c bS 1067 [(3, .int (nI j)), (2, rv g 10 0), (1, rv g 9 0), (0, .ref bS)] [] hC hM) : LW g p e s m below meth c bS 1021 [(3, .int (nI j)), (2, rv g 10 0), (1, rv g 9 0), (0, .ref bS)] [] hC hM := by
  obtain ⟨r, hC1, hM1, eC, eM, hR1⟩ := hst (xs (j + 1)) hC hM hR
  refine l_aload_n C 2 dL_law_1021 rfl rfl ?_
  refine l_aload_n C 3 dL_law_1022 rfl rfl ?_
  refine l_iload_n C 0 dL_law_1023 rfl rfl ?_
  refine l_iconst C (v := 1) dL_law_1024 rfl ?_
  refine l_iadd C dL_law_1025 ?_
  refine l_sld C (j + 1) (nI_add j 1) (by omega) hL dL_law_1026 ?_
  refine l_callC C (As := [.int (xs (j + 1))]) (rest := []) (r := r) (d' := 4) (by rw [← eC]; exact cX11_image_ok g ((xs (j + 1))) _) vl_L_104 rfl (by decide) (Nat.le_of_ble_eq_true rfl) dL_law_1027 rfl ?_
  refine l_aload_n C 1 dL_law_1030 rfl rfl ?_
  refine l_aload_n C 3 dL_law_1031 rfl rfl ?_
  refine l_iload_n C 0 dL_law_1032 rfl rfl ?_
  refine l_iconst C (v := 1) dL_law_1033 rfl ?_
  refine l_iadd C dL_law_1034 ?_
  refine l_sld C (j + 1) (nI_add j 1) (by omega) hL dL_law_1035 ?_
  refine l_callM C (As := [.int (xs (j + 1))]) (rest := [.int r]) (r := r) (d' := 4) (by rw [← eM]; exact cX12_image_ok g ((xs (j + 1))) _) vl_L_108 rfl (by decide) (Nat.le_of_ble_eq_true rfl) dL_law_1036 rfl ?_
  refine l_eq C (tgt := 1067) dL_law_1039 (by decide) ?_
  exact k _ _ hR1
set_option maxHeartbeats 4000000 in
theorem lc_again {g : GE} {p : Program} {e : Env} {s : State} {m : MethodId} {below : List Frame} {meth : Method} {c : Code} {bS L : Nat} {xs : Nat → Int32} (C : LCx g p s m meth c bS L xs) (hL : L ≤ 3072) {Rel : Hp → Hp → Prop} (hst : Stp_again Rel) {j : Nat} (hj : j + 6 ≤ L) {hC hM : Hp} (hR : Rel hC hM) (k : ∀ hC hM, Rel hC hM → LW g p e s m below meth c bS 1067 [(3, .int (nI j)), (2, rv g 10 0), (1, rv g 9 0), (0, .ref bS)] [] hC hM) : LW g p e s m below meth c bS 1044 [(3, .int (nI j)), (2, rv g 10 0), (1, rv g 9 0), (0, .ref bS)] [] hC hM := by
  obtain ⟨r, hC1, hM1, eC, eM, hR1⟩ := hst (xs (j + 1)) hC hM hR
  refine l_aload_n C 2 dL_law_1044 rfl rfl ?_
  refine l_aload_n C 3 dL_law_1045 rfl rfl ?_
  refine l_iload_n C 0 dL_law_1046 rfl rfl ?_
  refine l_iconst C (v := 1) dL_law_1047 rfl ?_
  refine l_iadd C dL_law_1048 ?_
  refine l_sld C (j + 1) (nI_add j 1) (by omega) hL dL_law_1049 ?_
  refine l_callC C (As := [.int (xs (j + 1))]) (rest := []) (r := r) (d' := 4) (by rw [← eC]; exact cX11_again_ok g ((xs (j + 1))) _) vl_L_109 rfl (by decide) (Nat.le_of_ble_eq_true rfl) dL_law_1050 rfl ?_
  refine l_aload_n C 1 dL_law_1053 rfl rfl ?_
  refine l_aload_n C 3 dL_law_1054 rfl rfl ?_
  refine l_iload_n C 0 dL_law_1055 rfl rfl ?_
  refine l_iconst C (v := 1) dL_law_1056 rfl ?_
  refine l_iadd C dL_law_1057 ?_
  refine l_sld C (j + 1) (nI_add j 1) (by omega) hL dL_law_1058 ?_
  refine l_callM C (As := [.int (xs (j + 1))]) (rest := [.int r]) (r := r) (d' := 4) (by rw [← eM]; exact cX12_again_ok g ((xs (j + 1))) _) vl_L_112 rfl (by decide) (Nat.le_of_ble_eq_true rfl) dL_law_1059 rfl ?_
  refine l_eq C (tgt := 1067) dL_law_1062 (by decide) ?_
  exact k _ _ hR1
def AllStp (Rel : Hp → Hp → Prop) : Prop := Stp_feed Rel ∧ Stp_end Rel ∧ Stp_text Rel ∧ Stp_fault Rel ∧ Stp_stage Rel ∧ Stp_deed Rel ∧ Stp_stop Rel ∧ Stp_state Rel ∧ Stp_keep Rel ∧ Stp_need Rel ∧ Stp_behind Rel ∧ Stp_save Rel ∧ Stp_duel Rel ∧ Stp_odds Rel ∧ Stp_log Rel ∧ Stp_fits Rel ∧ Stp_drawn Rel ∧ Stp_load Rel ∧ Stp_after Rel ∧ Stp_least Rel ∧ Stp_count Rel ∧ Stp_image Rel ∧ Stp_again Rel
set_option maxHeartbeats 4000000 in
theorem l_switch {g : GE} {p : Program} {e : Env} {s : State} {m : MethodId} {below : List Frame} {meth : Method} {c : Code} {bS L : Nat} {xs : Nat → Int32} (C : LCx g p s m meth c bS L xs) (hL : L ≤ 3072) {Rel : Hp → Hp → Prop} (hst : AllStp Rel) {j : Nat} (hj : j + 6 ≤ L) {hC hM : Hp} (hR : Rel hC hM) (k : ∀ hC hM, Rel hC hM → LW g p e s m below meth c bS 1067 [(3, .int (nI j)), (2, rv g 10 0), (1, rv g 9 0), (0, .ref bS)] [] hC hM) : LW g p e s m below meth c bS 33 [(3, .int (nI j)), (2, rv g 10 0), (1, rv g 9 0), (0, .ref bS)] [.int (xs j &&& 31)] hC hM := by
  obtain ⟨t0, t1, t2, t3, t4, t5, t6, t7, t8, t9, t10, t11, t12, t13, t14, t15, t16, t17, t18, t19, t20, t21, t22⟩ := hst
  generalize xs j &&& 31 = x
  refine l_tab C 0 (tgt := 140) dL_law_33 (by decide) (by decide) rfl (by decide) (fun _ => lc_feed C hL t0 hj hR k) (fun e0 => ?_)
  refine l_tab C 1 (tgt := 203) dL_law_33 (by decide) (by decide) rfl (by decide) (fun _ => lc_end C hL t1 hj hR k) (fun e1 => ?_)
  refine l_tab C 2 (tgt := 226) dL_law_33 (by decide) (by decide) rfl (by decide) (fun _ => lc_text C hL t2 hj hR k) (fun e2 => ?_)
  refine l_tab C 3 (tgt := 259) dL_law_33 (by decide) (by decide) rfl (by decide) (fun _ => lc_fault C hL t3 hj hR k) (fun e3 => ?_)
  refine l_tab C 4 (tgt := 282) dL_law_33 (by decide) (by decide) rfl (by decide) (fun _ => lc_stage C hL t4 hj hR k) (fun e4 => ?_)
  refine l_tab C 5 (tgt := 315) dL_law_33 (by decide) (by decide) rfl (by decide) (fun _ => lc_deed C hL t5 hj hR k) (fun e5 => ?_)
  refine l_tab C 6 (tgt := 358) dL_law_33 (by decide) (by decide) rfl (by decide) (fun _ => lc_stop C hL t6 hj hR k) (fun e6 => ?_)
  refine l_tab C 7 (tgt := 391) dL_law_33 (by decide) (by decide) rfl (by decide) (fun _ => lc_state C hL t7 hj hR k) (fun e7 => ?_)
  refine l_tab C 8 (tgt := 444) dL_law_33 (by decide) (by decide) rfl (by decide) (fun _ => lc_keep C hL t8 hj hR k) (fun e8 => ?_)
  refine l_tab C 9 (tgt := 477) dL_law_33 (by decide) (by decide) rfl (by decide) (fun _ => lc_need C hL t9 hj hR k) (fun e9 => ?_)
  refine l_tab C 10 (tgt := 510) dL_law_33 (by decide) (by decide) rfl (by decide) (fun _ => lc_behind C hL t10 hj hR k) (fun e10 => ?_)
  refine l_tab C 11 (tgt := 553) dL_law_33 (by decide) (by decide) rfl (by decide) (fun _ => lc_save C hL t11 hj hR k) (fun e11 => ?_)
  refine l_tab C 12 (tgt := 612) dL_law_33 (by decide) (by decide) rfl (by decide) (fun _ => lc_duel C hL t12 hj hR k) (fun e12 => ?_)
  refine l_tab C 13 (tgt := 671) dL_law_33 (by decide) (by decide) rfl (by decide) (fun _ => lc_odds C hL t13 hj hR k) (fun e13 => ?_)
  refine l_tab C 14 (tgt := 750) dL_law_33 (by decide) (by decide) rfl (by decide) (fun _ => lc_log C hL t14 hj hR k) (fun e14 => ?_)
  refine l_tab C 15 (tgt := 783) dL_law_33 (by decide) (by decide) rfl (by decide) (fun _ => lc_fits C hL t15 hj hR k) (fun e15 => ?_)
  refine l_tab C 16 (tgt := 826) dL_law_33 (by decide) (by decide) rfl (by decide) (fun _ => lc_drawn C hL t16 hj hR k) (fun e16 => ?_)
  refine l_tab C 17 (tgt := 879) dL_law_33 (by decide) (by decide) rfl (by decide) (fun _ => lc_load C hL t17 hj hR k) (fun e17 => ?_)
  refine l_tab C 18 (tgt := 912) dL_law_33 (by decide) (by decide) rfl (by decide) (fun _ => lc_after C hL t18 hj hR k) (fun e18 => ?_)
  refine l_tab C 19 (tgt := 955) dL_law_33 (by decide) (by decide) rfl (by decide) (fun _ => lc_least C hL t19 hj hR k) (fun e19 => ?_)
  refine l_tab C 20 (tgt := 998) dL_law_33 (by decide) (by decide) rfl (by decide) (fun _ => lc_count C hL t20 hj hR k) (fun e20 => ?_)
  refine l_tab C 21 (tgt := 1021) dL_law_33 (by decide) (by decide) rfl (by decide) (fun _ => lc_image C hL t21 hj hR k) (fun e21 => ?_)
  refine l_tab C 22 (tgt := 1044) dL_law_33 (by decide) (by decide) rfl (by decide) (fun _ => lc_again C hL t22 hj hR k) (fun e22 => ?_)
  have e0 := lv_neT e0 (show (0 : Int32).toInt = 0 from rfl)
  have e1 := lv_neT e1 (show (1 : Int32).toInt = 1 from rfl)
  have e2 := lv_neT e2 (show (2 : Int32).toInt = 2 from rfl)
  have e3 := lv_neT e3 (show (3 : Int32).toInt = 3 from rfl)
  have e4 := lv_neT e4 (show (4 : Int32).toInt = 4 from rfl)
  have e5 := lv_neT e5 (show (5 : Int32).toInt = 5 from rfl)
  have e6 := lv_neT e6 (show (6 : Int32).toInt = 6 from rfl)
  have e7 := lv_neT e7 (show (7 : Int32).toInt = 7 from rfl)
  have e8 := lv_neT e8 (show (8 : Int32).toInt = 8 from rfl)
  have e9 := lv_neT e9 (show (9 : Int32).toInt = 9 from rfl)
  have e10 := lv_neT e10 (show (10 : Int32).toInt = 10 from rfl)
  have e11 := lv_neT e11 (show (11 : Int32).toInt = 11 from rfl)
  have e12 := lv_neT e12 (show (12 : Int32).toInt = 12 from rfl)
  have e13 := lv_neT e13 (show (13 : Int32).toInt = 13 from rfl)
  have e14 := lv_neT e14 (show (14 : Int32).toInt = 14 from rfl)
  have e15 := lv_neT e15 (show (15 : Int32).toInt = 15 from rfl)
  have e16 := lv_neT e16 (show (16 : Int32).toInt = 16 from rfl)
  have e17 := lv_neT e17 (show (17 : Int32).toInt = 17 from rfl)
  have e18 := lv_neT e18 (show (18 : Int32).toInt = 18 from rfl)
  have e19 := lv_neT e19 (show (19 : Int32).toInt = 19 from rfl)
  have e20 := lv_neT e20 (show (20 : Int32).toInt = 20 from rfl)
  have e21 := lv_neT e21 (show (21 : Int32).toInt = 21 from rfl)
  have e22 := lv_neT e22 (show (22 : Int32).toInt = 22 from rfl)
  refine l_tabd C (tgt := 1067) dL_law_33 (by omega) (by decide) (k _ _ hR)
set_option maxHeartbeats 4000000 in
theorem law_loop {g : GE} {p : Program} {e : Env} {s : State} {m : MethodId} {below : List Frame} {meth : Method} {c : Code} {bS L : Nat} {xs : Nat → Int32} (C : LCx g p s m meth c bS L xs) (hL : L ≤ 3072) {Rel : Hp → Hp → Prop} (hst : AllStp Rel) : ∀ (n j : Nat), j ≤ 3072 → 4000 ≤ j + n → ∀ (hC hM : Hp), Rel hC hM → LW g p e s m below meth c bS 18 [(3, .int (nI j)), (2, rv g 10 0), (1, rv g 9 0), (0, .ref bS)] [] hC hM := by
  intro n
  induction n with
  | zero => intro j h1 h2; exact absurd h2 (by omega)
  | succ n ih =>
    intro j hj hn hC hM hR
    refine l_iload_n C 0 dL_law_18 rfl rfl ?_
    refine l_aload_n C 3 dL_law_19 rfl rfl ?_
    refine l_slen C dL_law_20 ?_
    refine l_bipush C (v := 6) dL_law_21 rfl ?_
    refine l_isub C dL_law_23 ?_
    refine l_gt C (tgt := 1073) dL_law_24 (by decide) (fun q => ?_) (fun q => ?_)
    · refine l_iconst C (v := 1) dL_law_1073 rfl ?_
      exact l_ret C dL_law_1074
    · have hjl : j + 6 ≤ L := by
        rw [nI_sub6 hL hj] at q
        omega
      refine l_aload_n C 3 dL_law_27 rfl rfl ?_
      refine l_iload_n C 0 dL_law_28 rfl rfl ?_
      refine l_sld C j rfl (by omega) hL dL_law_29 ?_
      refine l_bipush C (v := 31) dL_law_30 rfl ?_
      refine l_iand C dL_law_32 ?_
      refine l_switch C hL hst hjl hR (fun hC hM hR => ?_)
      refine l_iinc C 0 (v := nI (j + 6)) (ls' := [(3, .int (nI (j + 6))), (2, rv g 10 0), (1, rv g 9 0), (0, .ref bS)]) dL_law_1067 rfl (nI_add j 6) (by decide) rfl ?_
      refine l_goto C (tgt := 18) dL_law_1070 (by decide) ?_
      exact ih (j + 6) (by omega) (by omega) hC hM hR

