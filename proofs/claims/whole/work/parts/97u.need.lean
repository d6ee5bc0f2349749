/-! the most plates that can be kept up -/
def LVs (P : Nat → Prop) (N b : Nat) : Prop := (b = 0 ∧ ∀ u, 1 ≤ u → u < N → ¬ P u) ∨ (1 ≤ b ∧ b < N ∧ P b ∧ ∀ u, 1 ≤ u → u < N → P u → pcN u 10 < pcN b 10 ∨ (pcN u 10 = pcN b 10 ∧ b ≤ u))
theorem LVs.uniq {P : Nat → Prop} {N b b' : Nat} (x : LVs P N b) (y : LVs P N b') : b = b' := by
  rcases x with ⟨rfl, x1⟩ | ⟨x1, x2, x3, x4⟩
  · rcases y with ⟨rfl, -⟩ | ⟨y1, y2, y3, -⟩
    · rfl
    · exact absurd y3 (x1 b' y1 y2)
  · rcases y with ⟨rfl, y1⟩ | ⟨y1, y2, y3, y4⟩
    · exact absurd x3 (y1 b x1 x2)
    · have h1 := x4 b' y1 y2 y3
      have h2 := y4 b x1 x2 x3
      omega
theorem pc_0 : pcN 0 10 = 0 := by decide
theorem pc_b : ∀ u, u < 32 → 1 ≤ u → 1 ≤ pcN u 10 := by decide +kernel
theorem pc_t : ∀ n, n ≤ 5 → ∀ u, u < 2 ^ n → pcN u 10 ≤ n := by decide +kernel
theorem LVs.keep {P : Nat → Prop} {x b : Nat} (hx : x < 32) (h1 : 1 ≤ x) (l : LVs P x b) (hn : P x → pcN x 10 ≤ pcN b 10) : LVs P (x + 1) b := by
  have hp := pc_b x hx h1
  rcases l with ⟨rfl, l1⟩ | ⟨l1, l2, l3, l4⟩
  · refine Or.inl ⟨rfl, fun u hu1 hu2 hP => ?_⟩
    by_cases g : u = x
    · rw [g] at hP
      have := hn hP
      rw [pc_0] at this
      omega
    · exact l1 u hu1 (by omega) hP
  · refine Or.inr ⟨l1, by omega, l3, fun u hu1 hu2 hP => ?_⟩
    by_cases g : u = x
    · rw [g] at hP ⊢
      have := hn hP
      omega
    · exact l4 u hu1 (by omega) hP
theorem LVs.take {P : Nat → Prop} {x b : Nat} (h1 : 1 ≤ x) (l : LVs P x b) (hP : P x) (hn : pcN b 10 < pcN x 10) : LVs P (x + 1) x := by
  refine Or.inr ⟨h1, by omega, hP, fun u hu1 hu2 hPu => ?_⟩
  by_cases g : u = x
  · rw [g]; exact Or.inr ⟨rfl, Nat.le_refl _⟩
  · rcases l with ⟨rfl, l1⟩ | ⟨l1, l2, l3, l4⟩
    · exact absurd hPu (l1 u hu1 (by omega))
    · have := l4 u hu1 (by omega) hPu
      omega
def bcI (l0 : Int32) : Int32 :=
  let x1 := l0 - (((l0.toUInt32 >>> ((1 : Int32).toUInt32 &&& Int32.toUInt32 31)).toInt32) &&& (1431655765 : Int32))
  let x2 := (x1 &&& (858993459 : Int32)) + (((x1.toUInt32 >>> ((2 : Int32).toUInt32 &&& Int32.toUInt32 31)).toInt32) &&& (858993459 : Int32))
  let x3 := (x2 + ((x2.toUInt32 >>> ((4 : Int32).toUInt32 &&& Int32.toUInt32 31)).toInt32)) &&& (252645135 : Int32)
  let x4 := x3 + ((x3.toUInt32 >>> ((8 : Int32).toUInt32 &&& Int32.toUInt32 31)).toInt32)
  let x5 := x4 + ((x4.toUInt32 >>> ((16 : Int32).toUInt32 &&& Int32.toUInt32 31)).toInt32)
  x5 &&& (63 : Int32)
theorem bc_val : ∀ u, u < 32 → bcI (nI u) = nI (pcN u 10) := by decide +kernel
theorem bc_eq {u : Nat} (hu : u < 32) (h : Hp) : fJ6_bitCount_0f7a4 (nI u) h = some (nI (pcN u 10), h) := by
  rw [← bc_val u hu]; rfl
theorem pw32 {n : Nat} (hn : n ≤ 5) : 2 ^ n ≤ 32 := Nat.pow_le_pow_right (show 0 < 2 by decide) hn
theorem pc_10 : ∀ u, u < 32 → pcN u 10 ≤ 5 := by decide +kernel
theorem leaveM {h : Hp} {sp st n : Nat} {pl li le : Nat → Nat} (hs : SV sp st n pl li le) (m : MB h sp st n pl li le) (hI : MInv h) : ∃ b h', fX12_leave h = some (nI b, h') ∧ MInv h' ∧ LVs (fun v => EvM v sp st pl li le) (2 ^ n) b := by
  suffices hw : WP (fX12_leave h) (fun r h' => MInv h' ∧ ∃ b, r = nI b ∧ LVs (fun v => EvM v sp st pl li le) (2 ^ n) b) by
    obtain ⟨r, h', e, q, b, rfl, q2⟩ := hw
    exact ⟨b, h', e, q, q2⟩
  have hn := hs.2.2.2.1
  have h32 := pw32 hn
  have hpos := Nat.two_pow_pos n
  unfold fX12_leave
  refine wp_for2 (2 ^ n) (fun x a h' => 1 ≤ x ∧ MInv h' ∧ MB h' sp st n pl li le ∧ ∃ b, a = nI b ∧ b < 32 ∧ LVs (fun v => EvM v sp st pl li le) x b) ?_ ?_ FU 0 h (i0 := 1) (by omega) (FUb (by omega)) ⟨by omega, hI, m, 0, rfl, by omega, Or.inl ⟨rfl, fun u h1 h2 => by omega⟩⟩
  · rintro x a h2 rec hx ⟨h1x, i2, m2, b, rfl, hb, hl⟩ hrec
    unfold fX12_leave_l4
    have r22 : rd h2 10 0 22 = nI n := m2.1
    have px := pc_10 x (by omega)
    have pb := pc_10 b hb
    rw [r22, shl1 (by omega), if_neg (fun q => nI_ge hx (by omega) q), lt_eq, ones_eq (by omega), bnd_eq, ones_eq hb, bnd_eq, jn_eq, jn_eq]
    by_cases g : pcN x 10 ≤ pcN b 10
    · rw [if_pos (nI_le g (by omega))]
      dsimp only
      rw [lt_eq, nI_1]
      exact hrec _ _ ⟨by omega, i2.w10 (by decide), m2.w25, b, rfl, hb, hl.keep (by omega) h1x (fun _ => g)⟩
    · obtain ⟨r, h3, e3, i3, kf3, m3, w3, hr⟩ := exM hs (m2.w25 (x := nI x)) hx rfl (i2.w10 (by decide))
      rw [if_neg (fun q => g ((le_n (by omega) (by omega)).mp q)), e3, bnd_eq]
      rcases hr with ⟨rfl, hE⟩ | ⟨rfl, hE⟩
      · rw [if_neg ne10]
        dsimp only
        rw [lt_eq, nI_1]
        exact hrec _ _ ⟨by omega, i3, m3, x, rfl, by omega, hl.take h1x hE (by omega)⟩
      · rw [if_pos rfl]
        dsimp only
        rw [lt_eq, nI_1]
        exact hrec _ _ ⟨by omega, i3, m3, b, rfl, hb, hl.keep (by omega) h1x (fun w => absurd w hE)⟩
  · rintro a h2 rec ⟨-, i2, m2, b, rfl, hb, hl⟩
    unfold fX12_leave_l4
    have r22 : rd h2 10 0 22 = nI n := m2.1
    rw [r22, shl1 (by omega), if_pos (nI_le (Nat.le_refl _) (by omega))]
    exact wp_some ⟨i2, b, rfl, hl⟩
theorem mostC {h : Hp} {j sp st n : Nat} {pl li le : Nat → Nat} (hj : j < 10) (hs : SV sp st n pl li le) (c : CSt h j sp st n pl li le) (hk : KIv h) : ∃ b h', fX10_mostKept j h = some (nI b, h') ∧ KIv h' ∧ LVs (fun v => EvM v sp st pl li le) (2 ^ n) b := by
  suffices hw : WP (fX10_mostKept j h) (fun r h' => KIv h' ∧ ∃ b, r = nI b ∧ LVs (fun v => EvM v sp st pl li le) (2 ^ n) b) by
    obtain ⟨r, h', e, q, b, rfl, q2⟩ := hw
    exact ⟨b, h', e, q, q2⟩
  have hn := hs.2.2.2.1
  have h32 := pw32 hn
  have hpos := Nat.two_pow_pos n
  have r2 : ∀ h', KZ h h' → rd h' 6 j 2 = nI n := fun h' z => by show h'.1 6 (j % cnt 6) 2 = _; rw [mj12 (by omega) rfl]; exact (c.kz z hj).2.2.1
  unfold fX10_mostKept
  rw [r2 h (fun _ _ _ _ _ _ => rfl), lt_eq]
  refine wp_itr1 (fun mm x h' => x = nI mm ∧ mm ≤ n ∧ KIv h' ∧ KZ h h' ∧ ∀ u, 1 ≤ u → u < 2 ^ n → EvM u sp st pl li le → pcN u 10 ≤ mm) ?_ FU n _ h (FUb (by omega)) ⟨rfl, Nat.le_refl _, hk, fun _ _ _ _ _ _ => rfl, fun u h1 h2 _ => pc_t n hn u h2⟩
  rintro mm x h1 rec ⟨rfl, hmn, k1, z1, hub⟩ hrec
  unfold fX10_mostKept_l5
  by_cases g0 : mm = 0
  · rw [if_pos ((le0_n (by omega)).mpr g0)]
    dsimp only
    refine wp_some ⟨k1, 0, rfl, Or.inl ⟨rfl, fun u h1 h2 hP => ?_⟩⟩
    have a := hub u h1 h2 hP
    have b := pc_b u (by omega) h1
    omega
  · rw [if_neg (fun q => g0 ((le0_n (by omega)).mp q))]
    refine wp_for1 (2 ^ n) (fun x h' => 1 ≤ x ∧ KIv h' ∧ KZ h h' ∧ ∀ u, 1 ≤ u → u < x → EvM u sp st pl li le → pcN u 10 ≠ mm) ?_ ?_ FU h1 (i0 := 1) (by omega) (FUb (by omega)) ⟨by omega, k1, z1, fun u h1 h2 => by omega⟩
    · rintro x h2 rec2 hx ⟨h1x, k2, z2, hne⟩ hrec2
      unfold fX10_mostKept_l11
      have px := pc_10 x (by omega)
      rw [r2 h2 z2, shl1 (by omega), if_neg (fun q => nI_ge hx (by omega) q), bc_eq (by omega), bnd_eq, jn_eq]
      by_cases g : pcN x 10 = mm
      · obtain ⟨r, h3, e3, k3, kz3, hr⟩ := areKept_wp hj hs hx (c.kz z2 hj) k2
        rw [if_pos (by rw [g]), e3, bnd_eq]
        rcases hr with ⟨rfl, hE⟩ | ⟨rfl, hE⟩
        · rw [if_neg ne10]
          refine wp_some ⟨k3, x, rfl, Or.inr ⟨h1x, hx, hE, fun u hu1 hu2 hP => ?_⟩⟩
          have a := hub u hu1 hu2 hP
          by_cases gu : u < x
          · have b := hne u hu1 gu hP
            omega
          · omega
        · rw [if_pos rfl]
          dsimp only
          rw [lt_eq, nI_1]
          refine hrec2 _ ⟨by omega, k3, z2.trans kz3, fun u hu1 hu2 hP => ?_⟩
          by_cases gu : u = x
          · rw [gu] at hP; exact absurd hP hE
          · exact hne u hu1 (by omega) hP
      · rw [if_neg (fun q => g ((eq_n (by omega) (by omega)).mp q))]
        dsimp only
        rw [lt_eq, nI_1]
        refine hrec2 _ ⟨by omega, k2, z2, fun u hu1 hu2 hP => ?_⟩
        by_cases gu : u = x
        · rw [gu]; exact g
        · exact hne u hu1 (by omega) hP
    · rintro h2 rec2 ⟨-, k2, z2, hne⟩
      unfold fX10_mostKept_l11
      rw [r2 h2 z2, shl1 (by omega), if_pos (nI_le (Nat.le_refl _) (by omega))]
      dsimp only
      have em : nI mm + (-1 : Int32) = nI (mm - 1) := by
        rw [← Int32.sub_eq_add_neg]
        exact nI_sub (b := 1) (by omega)
      rw [lt_eq, em]
      refine hrec (mm - 1) _ _ (by omega) ⟨rfl, by omega, k2, z2, fun u hu1 hu2 hP => ?_⟩
      have a := hub u hu1 hu2 hP
      have b := hne u hu1 hu2 hP
      omega
/-! how many stands, and how many of them for ever -/
theorem enumLe {s s' : Nat → Nat} {f f' : Nat} (h : ∀ i, i < f → ∃ j, j < f' ∧ s' j = s i) (hin : ∀ i j, i < f → j < f → s i = s j → i = j) : f ≤ f' := by
  have hJ : ∀ i, ∃ j, i < f → j < f' ∧ s' j = s i := fun i => by
    by_cases g : i < f
    · obtain ⟨j, a, b⟩ := h i g
      exact ⟨j, fun _ => ⟨a, b⟩⟩
    · exact ⟨0, fun w => absurd w g⟩
  obtain ⟨J, hJ⟩ := Classical.axiomOfChoice hJ
  refine pig f' f J (fun i hi => (hJ i hi).1) (fun i j hi hj e => hin i j hi hj ?_)
  rw [← (hJ i hi).2, ← (hJ j hj).2, e]
def CTs (P : Nat → Prop) : Nat → Nat → Prop
  | 0, c => c = 0
  | k + 1, c => ∃ c', CTs P k c' ∧ ((P k ∧ c = c' + 1) ∨ (¬ P k ∧ c = c'))
theorem CTs.le {P : Nat → Prop} : ∀ k c, CTs P k c → c ≤ k := by
  intro k
  induction k with
  | zero => intro c h; rw [show c = 0 from h]; exact Nat.le_refl _
  | succ k ih =>
    rintro c ⟨c', h1, h2⟩
    have := ih c' h1
    rcases h2 with ⟨-, rfl⟩ | ⟨-, rfl⟩ <;> omega
theorem CTs.enum {P : Nat → Prop} : ∀ k c, CTs P k c → ∃ e : Nat → Nat, (∀ i, i < c → e i < k ∧ P (e i)) ∧ (∀ i j, i < c → j < c → e i = e j → i = j) ∧ ∀ i, i < k → P i → ∃ t, t < c ∧ e t = i := by
  intro k
  induction k with
  | zero =>
    intro c h
    have h0 : c = 0 := h
    subst h0
    exact ⟨fun _ => 0, fun i hi => absurd hi (Nat.not_lt_zero _), fun i j hi => absurd hi (Nat.not_lt_zero _), fun i hi => absurd hi (Nat.not_lt_zero _)⟩
  | succ k ih =>
    rintro c ⟨c', h1, h2⟩
    obtain ⟨e, a1, a2, a3⟩ := ih c' h1
    rcases h2 with ⟨hP, rfl⟩ | ⟨hP, rfl⟩
    · refine ⟨exU e c' k, fun i hi => ?_, fun i j hi hj ee => ?_, fun i hi hPi => ?_⟩
      · by_cases g : i = c'
        · rw [exU_p g]; exact ⟨by omega, hP⟩
        · rw [exU_n g]
          have := a1 i (by omega)
          exact ⟨by omega, this.2⟩
      · by_cases g : i = c'
        · by_cases g' : j = c'
          · omega
          · rw [exU_p g, exU_n g'] at ee
            have := (a1 j (by omega)).1
            omega
        · by_cases g' : j = c'
          · rw [exU_n g, exU_p g'] at ee
            have := (a1 i (by omega)).1
            omega
          · rw [exU_n g, exU_n g'] at ee
            exact a2 i j (by omega) (by omega) ee
      · by_cases g : i = k
        · exact ⟨c', by omega, by rw [exU_p rfl, g]⟩
        · obtain ⟨t, ht, et⟩ := a3 i (by omega) hPi
          exact ⟨t, by omega, by rw [exU_n (by omega)]; exact et⟩
    · refine ⟨e, fun i hi => ⟨by have := (a1 i hi).1; omega, (a1 i hi).2⟩, a2, fun i hi hPi => ?_⟩
      by_cases g : i = k
      · rw [g] at hPi; exact absurd hPi hP
      · exact a3 i (by omega) hPi
theorem CTs.same {Q : Nat → Prop} {s s' : Nat → Nat} {f f' c c' : Nat} (x : CTs (fun i => Q (s i)) f c) (y : CTs (fun i => Q (s' i)) f' c') (h1 : ∀ i, i < f → ∃ j, j < f' ∧ s' j = s i) (h2 : ∀ i, i < f' → ∃ j, j < f ∧ s j = s' i) (i1 : ∀ i j, i < f → j < f → s i = s j → i = j) (i2 : ∀ i j, i < f' → j < f' → s' i = s' j → i = j) : c = c' := by
  obtain ⟨e, a1, a2, a3⟩ := x.enum
  obtain ⟨e', b1, b2, b3⟩ := y.enum
  have l1 : c ≤ c' := enumLe (s := fun i => s (e i)) (s' := fun i => s' (e' i)) (fun i hi => by
    obtain ⟨j, hj, ej⟩ := h1 (e i) (a1 i hi).1
    obtain ⟨t, ht, et⟩ := b3 j hj (by show Q (s' j); rw [ej]; exact (a1 i hi).2)
    exact ⟨t, ht, by show s' (e' t) = s (e i); rw [et, ej]⟩) (fun i j hi hj w => a2 i j hi hj (i1 _ _ (a1 i hi).1 (a1 j hj).1 w))
  have l2 : c' ≤ c := enumLe (s := fun i => s' (e' i)) (s' := fun i => s (e i)) (fun i hi => by
    obtain ⟨j, hj, ej⟩ := h2 (e' i) (b1 i hi).1
    obtain ⟨t, ht, et⟩ := a3 j hj (by show Q (s j); rw [ej]; exact (b1 i hi).2)
    exact ⟨t, ht, by show s (e t) = s' (e' i); rw [et, ej]⟩) (fun i j hi hj w => b2 i j hi hj (i2 _ _ (b1 i hi).1 (b1 j hj).1 w))
  omega
