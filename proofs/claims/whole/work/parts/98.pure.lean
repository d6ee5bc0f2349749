/-! all steps, and the beginning -/
theorem rel0 : Rel KIv h00 h01 := by
  refine ⟨⟨fun j _ => ⟨rfl, rfl⟩, ⟨0, by omega, rfl, rfl⟩, rfl, rfl, 0, 0, 0, ⟨by omega, by omega, by omega⟩, ⟨rfl, rfl, rfl⟩, ⟨rfl, rfl, rfl⟩, fun k hk => absurd hk (Nat.not_lt_zero _), fun k hk => absurd hk (Nat.not_lt_zero _), fun k hk => absurd hk (Nat.not_lt_zero _)⟩, fun k _ => ⟨0, by omega, rfl, rfl, fun h => absurd h (by decide)⟩, ⟨?_, Or.inl rfl, fun h => absurd h (by decide)⟩, ?_⟩
  · refine ⟨0, 1, 0, fun _ => 0, fun _ => 0, fun _ => 0, 0, fun _ => 0, ⟨by omega, by omega, by omega, by omega, fun p hp => absurd hp (Nat.not_lt_zero _)⟩, ⟨rfl, fun i hi => absurd hi (Nat.not_lt_zero _), fun _ => 0, fun _ => 0, fun i hi => absurd hi (Nat.not_lt_zero _), fun k _ _ => rfl⟩, by omega⟩
  · exact ⟨0, by omega, rfl, fun i hi => absurd hi (Nat.not_lt_zero _), fun c _ hne => absurd rfl hne⟩
theorem pure_all : ∃ Rel : Hp → Hp → Prop, AllStp Rel ∧ Rel h00 h01 :=
  ⟨Rel KIv, ⟨st_feed KIv_stab, st_end KIv_stab, st_text KIv_stab, st_fault KIv_stab, st_stage KIv_stab, st_deed KIv_stab, st_stop KIv_stab, st_state KIv_stab, st_keep, st_need, st_behind, st_save, st_duel, st_odds KIv_stab, st_log KIv_stab, st_fits KIv_stab, st_drawn KIv_stab, st_load, st_after KIv_stab, st_least KIv_stab, st_count KIv_stab, st_image KIv_stab, st_again KIv_stab⟩, rel0⟩
