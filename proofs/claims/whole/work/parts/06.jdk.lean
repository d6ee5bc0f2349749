/-! the JDK's String members over the literals -/
theorem str_shr : ∀ i < 11, nI (strLen.getD i 0) >>> ((0 : Int32) &&& 31) = nI (strLen.getD i 0) := by decide +kernel
theorem str_lt : ∀ i < 11, strLen.getD i 0 < 10 := by decide +kernel
theorem str_chr : ∀ i < 11, ∀ j < strLen.getD i 0, ((((strByt.getD i []).getD j 0) &&& 255).toUInt32 % 65536).toInt32 = (strByt.getD i []).getD j 0 ∧ narrow .char (.int ((strByt.getD i []).getD j 0)) = .int ((strByt.getD i []).getD j 0) := by decide +kernel
set_option maxHeartbeats 4000000 in
theorem cJ0_coder_ok (g : GE) (u i : Nat) (hi : i < 11) (h : Hp) : Con cvi u g mJ0_coder_7d493 2 [.ref (g.2.2.2.2.1 i)] h (some (0, h)) := by
  refine Con.of (by decide +kernel) (Nat.le_of_ble_eq_true rfl) ?_
  show Sim cvi u g mJ0_coder_7d493 2 0 [(0, .ref (g.2.2.2.2.1 i))] [] h (if (1 : Int32) = 0 then none else some (0, h))
  refine s_gcs jf_J0_38 dJ0_coder_7d493_0 ?_
  refine s_if_eq (tgt := 13) dJ0_coder_7d493_3 (by decide) ?_ ?_
  · exact s_none
  · refine s_aload_n 0 dJ0_coder_7d493_6 rfl rfl ?_
    refine s_sgc jf_J0_15 hi dJ0_coder_7d493_7 ?_
    refine s_goto (tgt := 14) dJ0_coder_7d493_10 (by decide) ?_
    exact s_nret rfl rfl dJ0_coder_7d493_14
set_option maxHeartbeats 4000000 in
theorem cJ0_isLatin1_ok (g : GE) (u i : Nat) (hi : i < 11) (h : Hp) : Con cvi u g mJ0_isLatin1_aae02 2 [.ref (g.2.2.2.2.1 i)] h (some (1, h)) := by
  refine Con.of (by decide +kernel) (Nat.le_of_ble_eq_true rfl) ?_
  show Sim cvi u g mJ0_isLatin1_aae02 2 0 [(0, .ref (g.2.2.2.2.1 i))] [] h (if (1 : Int32) = 0 then none else (if (0 : Int32) = 0 then some (1, h) else none))
  refine s_gcs jf_J0_38 dJ0_isLatin1_aae02_0 ?_
  refine s_if_eq (tgt := 17) dJ0_isLatin1_aae02_3 (by decide) ?_ ?_
  · exact s_none
  · refine s_aload_n 0 dJ0_isLatin1_aae02_6 rfl rfl ?_
    refine s_sgc jf_J0_15 hi dJ0_isLatin1_aae02_7 ?_
    refine s_if_ne (tgt := 17) dJ0_isLatin1_aae02_10 (by decide) ?_ ?_
    · refine s_iconst (v := 1) dJ0_isLatin1_aae02_13 rfl ?_
      refine s_goto (tgt := 18) dJ0_isLatin1_aae02_14 (by decide) ?_
      exact s_nret rfl rfl dJ0_isLatin1_aae02_18
    · exact s_none
set_option maxHeartbeats 4000000 in
theorem cJ0_length_ok (g : GE) (u i : Nat) (hi : i < 11) (h : Hp) : Con cvi u g mJ0_length_8abf5 3 [.ref (g.2.2.2.2.1 i)] h (some (nI (strLen.getD i 0), h)) := by
  refine Con.of (by decide +kernel) (Nat.le_of_ble_eq_true rfl) ?_
  show Sim cvi u g mJ0_length_8abf5 3 0 [(0, .ref (g.2.2.2.2.1 i))] [] h _
  refine s_aload_n 0 dJ0_length_8abf5_0 rfl rfl ?_
  refine s_sgv jf_J0_9 hi dJ0_length_8abf5_1 ?_
  refine s_stal hi dJ0_length_8abf5_4 ?_
  refine s_aload_n 0 dJ0_length_8abf5_5 rfl rfl ?_
  refine s_callT0 (As := []) (rest := [.int (nI (strLen.getD i 0))]) hi (cJ0_coder_ok g u i hi h) tl_J0_335 rfl (Nat.le_of_ble_eq_true rfl) (Nat.le_of_ble_eq_true rfl) dJ0_length_8abf5_6 rfl ?_
  refine s_ishr dJ0_length_8abf5_9 ?_
  rw [str_shr i hi]
  exact s_iret rfl dJ0_length_8abf5_10
set_option maxHeartbeats 4000000 in
theorem cJ3_checkIndex_ok (g : GE) (u : Nat) (l0 l1 : Int32) (q : Option Nat) (h0 : ¬ l0 < 0) (h1 : l0 < l1) (h : Hp) : Con cvi u g mJ3_checkIndex_8e157 2 [.int l0, .int l1, va_rf q] h (some (l0, h)) := by
  refine Con.of (by decide +kernel) ?_ ?_
  · cases q <;> exact Nat.le_of_ble_eq_true rfl
  have e : lv_args 0 [.int l0, .int l1, va_rf q] = [(0, .int l0), (1, .int l1), (2, va_rf q)] := by cases q <;> rfl
  have e2 : (some (l0, h) : Option (Int32 × Hp)) = if l0 < 0 then none else if l0 < l1 then some (l0, h) else none := by rw [if_neg h0, if_pos h1]
  rw [e, e2]
  refine s_iload_n 0 dJ3_checkIndex_8e157_0 rfl rfl ?_
  refine s_if_lt (tgt := 9) dJ3_checkIndex_8e157_1 (by decide) ?_ ?_
  · exact s_none
  · refine s_iload_n 0 dJ3_checkIndex_8e157_4 rfl rfl ?_
    refine s_iload_n 1 dJ3_checkIndex_8e157_5 rfl rfl ?_
    refine s_icmp_lt (tgt := 16) dJ3_checkIndex_8e157_6 (by decide) ?_ ?_
    · refine s_iload_n 0 dJ3_checkIndex_8e157_16 rfl rfl ?_
      exact s_iret rfl dJ3_checkIndex_8e157_17
    · exact s_none
set_option maxHeartbeats 4000000 in
theorem cJ0_checkIndex_ok (g : GE) (u : Nat) (l0 l1 : Int32) (h0 : ¬ l0 < 0) (h1 : l0 < l1) (h : Hp) : Con cvv u g mJ0_checkIndex_df160 3 [.int l0, .int l1] h (some ((), h)) := by
  refine Con.of (by decide +kernel) (Nat.le_of_ble_eq_true rfl) ?_
  show Sim cvv u g mJ0_checkIndex_df160 3 0 [(0, .int l0), (1, .int l1)] [] h _
  refine s_iload_n 0 dJ0_checkIndex_df160_0 rfl rfl ?_
  refine s_iload_n 1 dJ0_checkIndex_df160_1 rfl rfl ?_
  refine s_gff jf_J0_1053 dJ0_checkIndex_df160_2 (fun q => ?_)
  refine s_callS0 (As := [.int l0, .int l1, va_rf q]) (rest := []) (cJ3_checkIndex_ok g u l0 l1 q h0 h1 h) sl_J0_1059 rfl (Nat.le_of_ble_eq_true rfl) (Nat.le_of_ble_eq_true rfl) dJ0_checkIndex_df160_5 rfl ?_
  show Sim cvv u g mJ0_checkIndex_df160 3 8 [(0, .int l0), (1, .int l1)] [.int l0] h _
  refine s_pop dJ0_checkIndex_df160_8 rfl ?_
  exact s_vret rfl dJ0_checkIndex_df160_9
set_option maxHeartbeats 4000000 in
theorem cJ1_charAt_ok (g : GE) (u i : Nat) (hi : i < 11) (j : Int32) (hj : vp_in j (strLen.getD i 0)) (h : Hp) : Con cvi u g mJ1_charAt_3b067 4 [.ref (g.2.2.2.2.2 i), .int j] h (some ((strByt.getD i []).getD j.toNatClampNeg 0, h)) := by
  refine Con.of (by decide +kernel) (Nat.le_of_ble_eq_true rfl) ?_
  show Sim cvi u g mJ1_charAt_3b067 4 0 [(0, .ref (g.2.2.2.2.2 i)), (1, .int j)] [] h _
  have hj2 : j.toNatClampNeg < strLen.getD i 0 := Nat.not_le.mp fun q => hj (Or.inr q)
  obtain ⟨e1, e2⟩ := str_chr i hi _ hj2
  have hj0 : ¬ j < 0 := fun q => hj (Or.inl q)
  have hlt := str_lt i hi
  have hjl : j < nI (strLen.getD i 0) := by
    obtain ⟨k, hk, rfl⟩ := vp_in_of hj (by omega)
    exact nI_lt hk (by omega)
  refine s_iload_n 1 dJ1_charAt_3b067_0 rfl rfl ?_
  refine s_aload_n 0 dJ1_charAt_3b067_1 rfl rfl ?_
  refine s_stal hi dJ1_charAt_3b067_2 ?_
  refine s_callS0 (As := [.int j, .int (nI (strLen.getD i 0))]) (rest := []) (cJ0_checkIndex_ok g u j (nI (strLen.getD i 0)) hj0 hjl h) sl_J1_9 rfl (Nat.le_of_ble_eq_true rfl) (Nat.le_of_ble_eq_true rfl) dJ1_charAt_3b067_3 rfl ?_
  show Sim cvi u g mJ1_charAt_3b067 4 6 [(0, .ref (g.2.2.2.2.2 i)), (1, .int j)] [] h _
  refine s_aload_n 0 dJ1_charAt_3b067_6 rfl rfl ?_
  refine s_iload_n 1 dJ1_charAt_3b067_7 rfl rfl ?_
  refine s_stb hi hj dJ1_charAt_3b067_8 ?_
  refine s_sipush (v := 255) dJ1_charAt_3b067_9 rfl ?_
  refine s_iand dJ1_charAt_3b067_12 ?_
  refine s_i2c dJ1_charAt_3b067_13 ?_
  rw [e1]
  exact s_nret rfl e2 dJ1_charAt_3b067_14
set_option maxHeartbeats 4000000 in
theorem cJ0_charAt_ok (g : GE) (u i : Nat) (hi : i < 11) (j : Int32) (hj : vp_in j (strLen.getD i 0)) (h : Hp) : Con cvi u g mJ0_charAt_5068e 5 [.ref (g.2.2.2.2.1 i), .int j] h (some ((strByt.getD i []).getD j.toNatClampNeg 0, h)) := by
  have hj2 : j.toNatClampNeg < strLen.getD i 0 := Nat.not_le.mp fun q => hj (Or.inr q)
  obtain ⟨e1, e2⟩ := str_chr i hi _ hj2
  refine Con.of (by decide +kernel) (Nat.le_of_ble_eq_true rfl) ?_
  show Sim cvi u g mJ0_charAt_5068e 5 0 [(0, .ref (g.2.2.2.2.1 i)), (1, .int j)] [] h (if (1 : Int32) = 0 then none else some ((strByt.getD i []).getD j.toNatClampNeg 0, h))
  refine s_aload_n 0 dJ0_charAt_5068e_0 rfl rfl ?_
  refine s_callT0 (As := []) (rest := []) hi (cJ0_isLatin1_ok g u i hi h) tl_J0_492 rfl (Nat.le_of_ble_eq_true rfl) (Nat.le_of_ble_eq_true rfl) dJ0_charAt_5068e_1 rfl ?_
  refine s_if_eq (tgt := 16) dJ0_charAt_5068e_4 (by decide) ?_ ?_
  · exact s_none
  · refine s_aload_n 0 dJ0_charAt_5068e_7 rfl rfl ?_
    refine s_sgv jf_J0_9 hi dJ0_charAt_5068e_8 ?_
    refine s_iload_n 1 dJ0_charAt_5068e_11 rfl rfl ?_
    refine s_callS0 (As := [.ref (g.2.2.2.2.2 i), .int j]) (rest := []) (cJ1_charAt_ok g u i hi j hj h) sl_J0_495 rfl (Nat.le_of_ble_eq_true rfl) (Nat.le_of_ble_eq_true rfl) dJ0_charAt_5068e_12 rfl ?_
    exact s_nret rfl e2 dJ0_charAt_5068e_15
section Rows7
variable {ρ : Type} {cv : ρ → Option Value} {u : Nat} {g : GE} {M : MI} {d pc : Nat} {ls : List (Nat × Value)} {st : List Value} {h : Hp} {o : Option (ρ × Hp)}
theorem s_slen {i ix : Nat} (hv : TL M.1.cls ix mJ0_length_8abf5 0) (hdd : 4 ≤ d) (hr : (st.map fun v => v.category).sum ≤ 8) (hd : decode M.2.1 pc = .ok (.invokevirtual ix, 3)) (k : Sim cv u g M d (pc + 3) ls (.int (nI (strLen.getD i 0)) :: st) h o) : Sim cv u g M d pc ls (.ref (g.2.2.2.2.1 i) :: st) h (ck (decide (i < 11)) o) := by
  intro r h' ho
  obtain ⟨hb, ho⟩ := ck_some ho
  have hi : i < 11 := of_decide_eq_true hb
  exact s_callT0 (As := []) (rest := st) hi (cJ0_length_ok g u i hi h) hv rfl hdd hr hd rfl k r h' ho
theorem s_schar {i ix : Nat} {j : Int32} (hv : TL M.1.cls ix mJ0_charAt_5068e 1) (hdd : 6 ≤ d) (hr : (st.map fun v => v.category).sum ≤ 8) (hd : decode M.2.1 pc = .ok (.invokevirtual ix, 3)) (k : Sim cv u g M d (pc + 3) ls (.int ((strByt.getD i []).getD j.toNatClampNeg 0) :: st) h o) : Sim cv u g M d pc ls (.int j :: .ref (g.2.2.2.2.1 i) :: st) h (ck (decide (i < 11)) (ck (ib j (strLen.getD i 0)) o)) := by
  intro r h' ho
  obtain ⟨hb, ho⟩ := ck_some ho
  obtain ⟨hb2, ho⟩ := ck_some ho
  have hi : i < 11 := of_decide_eq_true hb
  exact s_callT0 (As := [.int j]) (rest := st) hi (cJ0_charAt_ok g u i hi j (ib_in hb2) h) hv rfl hdd hr hd rfl k r h' ho
end Rows7
