def offT : List (List Nat) := [[136], [14, 25, 43, 54, 71, 82, 99, 110, 123], [129], [115], [155], [11, 22, 40, 51, 68, 79, 96, 107, 120], [7, 18, 36, 47, 64, 75, 92, 103, 116, 130, 137, 151], [1, 30, 58, 86], [135], [0], [160], [141], [142], [143], [144], [145], [146], [147], [148], [149], [150], [15, 26, 44, 55, 72, 83, 100, 111, 124], [16, 27, 45, 56, 73, 84, 101, 112, 125], [17, 28, 46, 57, 74, 85, 102, 113, 126], [134], [127], [128], [156], [157], [158], [159], [12, 23, 41, 52, 69, 80, 97, 108, 121], [13, 24, 42, 53, 70, 81, 98, 109, 122], [8, 19, 37, 48, 65, 76, 93, 104, 117, 131, 138, 152], [9, 20, 38, 49, 66, 77, 94, 105, 118, 132, 139, 153], [10, 21, 39, 50, 67, 78, 95, 106, 119, 133, 140, 154], [2, 31, 59, 87], [3, 32, 60, 88], [4, 33, 61, 89], [5, 34, 62, 90], [6, 35, 63, 91], [29], [114], [161], [162], [163], [164], [165], [166], [167], [168], [169], [170], [171], [172], [173], [174], [175], [176], [177], [178], [179], [180], [181], [182], [183], [184], [185]]
def adB (b : Nat) : Nat → Nat → Nat := fun k s => b + (offT.getD k []).getD s 0
def h00 : Hp := (fun k s i => if k = 1 ∧ i = 0 then 1 else if k = 2 ∧ i = 8 then (-1) else if k = 3 ∧ i = 4 then (-1) else if k = 4 ∧ i = 1 then (-2) else if k = 4 ∧ i = 2 then (-1) else if k = 4 ∧ i = 3 then (-1) else if k = 4 ∧ i = 4 then (-1) else if k = 6 ∧ i = 0 then 2 else if k = 7 ∧ i = 3 then (-1) else 0, 0)
def h01 : Hp := (fun k s i => if k = 46 ∧ i = 0 then (-1) else 0, 0)
theorem arrV_cg {cA : ClassId} {n : Nat} {f f' : Nat → Value} (h : ∀ i, i < n → f i = f' i) : arrV cA n f = arrV cA n f' := by
  unfold arrV
  congr 1
  apply Array.ext
  · simp
  · intro i h1 h2
    simp at h1 ⊢
    exact h i h1
/-- the cell of (k, s) is there -/
def IW (b : Nat) (g : GE) (h : Hp) (k s : Nat) : Prop := ∃ j : Nat, g.1 k s = b + j ∧ ∃ e : va_E, (blkPlateRunner g b ++ blkModel g (b + 160))[j]? = some e ∧ ∀ (D : va_G) (H : Heap), va_at D vwCl (b + j, e) H → va_at D vwCl (b + j, cellOf g h k s) H
theorem vp_cgq {cA : ClassId} {n : Nat} {f f' : Nat → Option Nat} (h : ∀ i, i < n → f i = f' i) : vp_cell cA (n, .inr (.inr (.inr (.inr f)))) = vp_cell cA (n, .inr (.inr (.inr (.inr f')))) := by
  rw [vp_cell_q, vp_cell_q]; exact arrV_cg (fun i hi => by rw [h i hi])
theorem vp_cgi {cA : ClassId} {n : Nat} {f f' : Nat → Int32} (h : ∀ i, i < n → f i = f' i) : vp_cell cA (n, .inl f) = vp_cell cA (n, .inl f') := by
  rw [vp_cell_i, vp_cell_i]; exact arrV_cg (fun i hi => by rw [h i hi])

theorem iw0_0 (b : Nat) (gg : (Nat → ClassId) × va_G × Launch × (Nat → Nat) × (Nat → Nat)) : IW b (adB b, gg) h00 0 0 := by
  exact ⟨136, rfl, _, rfl, fun D H hh => by exact hh⟩
theorem iw0_1 (b : Nat) (gg : (Nat → ClassId) × va_G × Launch × (Nat → Nat) × (Nat → Nat)) : IW b (adB b, gg) h00 1 0 := by
  exact ⟨14, rfl, _, rfl, fun D H hh => by exact hh⟩
theorem iw0_2 (b : Nat) (gg : (Nat → ClassId) × va_G × Launch × (Nat → Nat) × (Nat → Nat)) : IW b (adB b, gg) h00 1 1 := by
  exact ⟨25, rfl, _, rfl, fun D H hh => by exact hh⟩
theorem iw0_3 (b : Nat) (gg : (Nat → ClassId) × va_G × Launch × (Nat → Nat) × (Nat → Nat)) : IW b (adB b, gg) h00 1 2 := by
  exact ⟨43, rfl, _, rfl, fun D H hh => by exact hh⟩
theorem iw0_4 (b : Nat) (gg : (Nat → ClassId) × va_G × Launch × (Nat → Nat) × (Nat → Nat)) : IW b (adB b, gg) h00 1 3 := by
  exact ⟨54, rfl, _, rfl, fun D H hh => by exact hh⟩
theorem iw0_5 (b : Nat) (gg : (Nat → ClassId) × va_G × Launch × (Nat → Nat) × (Nat → Nat)) : IW b (adB b, gg) h00 1 4 := by
  exact ⟨71, rfl, _, rfl, fun D H hh => by exact hh⟩
theorem iw0_6 (b : Nat) (gg : (Nat → ClassId) × va_G × Launch × (Nat → Nat) × (Nat → Nat)) : IW b (adB b, gg) h00 1 5 := by
  exact ⟨82, rfl, _, rfl, fun D H hh => by exact hh⟩
theorem iw0_7 (b : Nat) (gg : (Nat → ClassId) × va_G × Launch × (Nat → Nat) × (Nat → Nat)) : IW b (adB b, gg) h00 1 6 := by
  exact ⟨99, rfl, _, rfl, fun D H hh => by exact hh⟩
theorem iw0_8 (b : Nat) (gg : (Nat → ClassId) × va_G × Launch × (Nat → Nat) × (Nat → Nat)) : IW b (adB b, gg) h00 1 7 := by
  exact ⟨110, rfl, _, rfl, fun D H hh => by exact hh⟩
theorem iw0_9 (b : Nat) (gg : (Nat → ClassId) × va_G × Launch × (Nat → Nat) × (Nat → Nat)) : IW b (adB b, gg) h00 1 8 := by
  exact ⟨123, rfl, _, rfl, fun D H hh => by exact hh⟩
theorem iw0_10 (b : Nat) (gg : (Nat → ClassId) × va_G × Launch × (Nat → Nat) × (Nat → Nat)) : IW b (adB b, gg) h00 2 0 := by
  exact ⟨129, rfl, _, rfl, fun D H hh => by exact hh⟩
theorem iw0_11 (b : Nat) (gg : (Nat → ClassId) × va_G × Launch × (Nat → Nat) × (Nat → Nat)) : IW b (adB b, gg) h00 3 0 := by
  exact ⟨115, rfl, _, rfl, fun D H hh => by exact hh⟩
theorem iw0_12 (b : Nat) (gg : (Nat → ClassId) × va_G × Launch × (Nat → Nat) × (Nat → Nat)) : IW b (adB b, gg) h00 4 0 := by
  exact ⟨155, rfl, _, rfl, fun D H hh => by exact hh⟩
theorem iw0_13 (b : Nat) (gg : (Nat → ClassId) × va_G × Launch × (Nat → Nat) × (Nat → Nat)) : IW b (adB b, gg) h00 5 0 := by
  exact ⟨11, rfl, _, rfl, fun D H hh => by exact hh⟩
theorem iw0_14 (b : Nat) (gg : (Nat → ClassId) × va_G × Launch × (Nat → Nat) × (Nat → Nat)) : IW b (adB b, gg) h00 5 1 := by
  exact ⟨22, rfl, _, rfl, fun D H hh => by exact hh⟩
theorem iw0_15 (b : Nat) (gg : (Nat → ClassId) × va_G × Launch × (Nat → Nat) × (Nat → Nat)) : IW b (adB b, gg) h00 5 2 := by
  exact ⟨40, rfl, _, rfl, fun D H hh => by exact hh⟩
theorem iw0_16 (b : Nat) (gg : (Nat → ClassId) × va_G × Launch × (Nat → Nat) × (Nat → Nat)) : IW b (adB b, gg) h00 5 3 := by
  exact ⟨51, rfl, _, rfl, fun D H hh => by exact hh⟩
theorem iw0_17 (b : Nat) (gg : (Nat → ClassId) × va_G × Launch × (Nat → Nat) × (Nat → Nat)) : IW b (adB b, gg) h00 5 4 := by
  exact ⟨68, rfl, _, rfl, fun D H hh => by exact hh⟩
theorem iw0_18 (b : Nat) (gg : (Nat → ClassId) × va_G × Launch × (Nat → Nat) × (Nat → Nat)) : IW b (adB b, gg) h00 5 5 := by
  exact ⟨79, rfl, _, rfl, fun D H hh => by exact hh⟩
theorem iw0_19 (b : Nat) (gg : (Nat → ClassId) × va_G × Launch × (Nat → Nat) × (Nat → Nat)) : IW b (adB b, gg) h00 5 6 := by
  exact ⟨96, rfl, _, rfl, fun D H hh => by exact hh⟩
theorem iw0_20 (b : Nat) (gg : (Nat → ClassId) × va_G × Launch × (Nat → Nat) × (Nat → Nat)) : IW b (adB b, gg) h00 5 7 := by
  exact ⟨107, rfl, _, rfl, fun D H hh => by exact hh⟩
theorem iw0_21 (b : Nat) (gg : (Nat → ClassId) × va_G × Launch × (Nat → Nat) × (Nat → Nat)) : IW b (adB b, gg) h00 5 8 := by
  exact ⟨120, rfl, _, rfl, fun D H hh => by exact hh⟩
theorem iw0_22 (b : Nat) (gg : (Nat → ClassId) × va_G × Launch × (Nat → Nat) × (Nat → Nat)) : IW b (adB b, gg) h00 6 0 := by
  exact ⟨7, rfl, _, rfl, fun D H hh => by exact hh⟩
theorem iw0_23 (b : Nat) (gg : (Nat → ClassId) × va_G × Launch × (Nat → Nat) × (Nat → Nat)) : IW b (adB b, gg) h00 6 1 := by
  exact ⟨18, rfl, _, rfl, fun D H hh => by exact hh⟩
theorem iw0_24 (b : Nat) (gg : (Nat → ClassId) × va_G × Launch × (Nat → Nat) × (Nat → Nat)) : IW b (adB b, gg) h00 6 2 := by
  exact ⟨36, rfl, _, rfl, fun D H hh => by exact hh⟩
theorem iw0_25 (b : Nat) (gg : (Nat → ClassId) × va_G × Launch × (Nat → Nat) × (Nat → Nat)) : IW b (adB b, gg) h00 6 3 := by
  exact ⟨47, rfl, _, rfl, fun D H hh => by exact hh⟩
theorem iw0_26 (b : Nat) (gg : (Nat → ClassId) × va_G × Launch × (Nat → Nat) × (Nat → Nat)) : IW b (adB b, gg) h00 6 4 := by
  exact ⟨64, rfl, _, rfl, fun D H hh => by exact hh⟩
theorem iw0_27 (b : Nat) (gg : (Nat → ClassId) × va_G × Launch × (Nat → Nat) × (Nat → Nat)) : IW b (adB b, gg) h00 6 5 := by
  exact ⟨75, rfl, _, rfl, fun D H hh => by exact hh⟩
theorem iw0_28 (b : Nat) (gg : (Nat → ClassId) × va_G × Launch × (Nat → Nat) × (Nat → Nat)) : IW b (adB b, gg) h00 6 6 := by
  exact ⟨92, rfl, _, rfl, fun D H hh => by exact hh⟩
theorem iw0_29 (b : Nat) (gg : (Nat → ClassId) × va_G × Launch × (Nat → Nat) × (Nat → Nat)) : IW b (adB b, gg) h00 6 7 := by
  exact ⟨103, rfl, _, rfl, fun D H hh => by exact hh⟩
theorem iw0_30 (b : Nat) (gg : (Nat → ClassId) × va_G × Launch × (Nat → Nat) × (Nat → Nat)) : IW b (adB b, gg) h00 6 8 := by
  exact ⟨116, rfl, _, rfl, fun D H hh => by exact hh⟩
theorem iw0_31 (b : Nat) (gg : (Nat → ClassId) × va_G × Launch × (Nat → Nat) × (Nat → Nat)) : IW b (adB b, gg) h00 6 9 := by
  exact ⟨130, rfl, _, rfl, fun D H hh => by exact hh⟩
theorem iw0_32 (b : Nat) (gg : (Nat → ClassId) × va_G × Launch × (Nat → Nat) × (Nat → Nat)) : IW b (adB b, gg) h00 6 10 := by
  exact ⟨137, rfl, _, rfl, fun D H hh => by exact hh⟩
theorem iw0_33 (b : Nat) (gg : (Nat → ClassId) × va_G × Launch × (Nat → Nat) × (Nat → Nat)) : IW b (adB b, gg) h00 6 11 := by
  exact ⟨151, rfl, _, rfl, fun D H hh => by exact hh⟩
theorem iw0_34 (b : Nat) (gg : (Nat → ClassId) × va_G × Launch × (Nat → Nat) × (Nat → Nat)) : IW b (adB b, gg) h00 7 0 := by
  exact ⟨1, rfl, _, rfl, fun D H hh => by exact hh⟩
theorem iw0_35 (b : Nat) (gg : (Nat → ClassId) × va_G × Launch × (Nat → Nat) × (Nat → Nat)) : IW b (adB b, gg) h00 7 1 := by
  exact ⟨30, rfl, _, rfl, fun D H hh => by exact hh⟩
theorem iw0_36 (b : Nat) (gg : (Nat → ClassId) × va_G × Launch × (Nat → Nat) × (Nat → Nat)) : IW b (adB b, gg) h00 7 2 := by
  exact ⟨58, rfl, _, rfl, fun D H hh => by exact hh⟩
theorem iw0_37 (b : Nat) (gg : (Nat → ClassId) × va_G × Launch × (Nat → Nat) × (Nat → Nat)) : IW b (adB b, gg) h00 7 3 := by
  exact ⟨86, rfl, _, rfl, fun D H hh => by exact hh⟩
theorem iw0_38 (b : Nat) (gg : (Nat → ClassId) × va_G × Launch × (Nat → Nat) × (Nat → Nat)) : IW b (adB b, gg) h00 8 0 := by
  exact ⟨135, rfl, _, rfl, fun D H hh => by exact hh⟩
theorem iw0_39 (b : Nat) (gg : (Nat → ClassId) × va_G × Launch × (Nat → Nat) × (Nat → Nat)) : IW b (adB b, gg) h00 9 0 := by
  exact ⟨0, rfl, _, rfl, fun D H hh => by exact hh⟩
theorem iw0_40 (b : Nat) (gg : (Nat → ClassId) × va_G × Launch × (Nat → Nat) × (Nat → Nat)) : IW b (adB b, gg) h00 11 0 := by
  exact ⟨141, rfl, _, rfl, fun D H hh => by exact hh⟩
theorem iw0_41 (b : Nat) (gg : (Nat → ClassId) × va_G × Launch × (Nat → Nat) × (Nat → Nat)) : IW b (adB b, gg) h00 12 0 := by
  exact ⟨142, rfl, _, rfl, fun D H hh => by exact hh⟩
theorem iw0_42 (b : Nat) (gg : (Nat → ClassId) × va_G × Launch × (Nat → Nat) × (Nat → Nat)) : IW b (adB b, gg) h00 13 0 := by
  exact ⟨143, rfl, _, rfl, fun D H hh => by exact hh⟩
theorem iw0_43 (b : Nat) (gg : (Nat → ClassId) × va_G × Launch × (Nat → Nat) × (Nat → Nat)) : IW b (adB b, gg) h00 14 0 := by
  exact ⟨144, rfl, _, rfl, fun D H hh => by exact hh⟩
theorem iw0_44 (b : Nat) (gg : (Nat → ClassId) × va_G × Launch × (Nat → Nat) × (Nat → Nat)) : IW b (adB b, gg) h00 15 0 := by
  exact ⟨145, rfl, _, rfl, fun D H hh => by exact hh⟩
theorem iw0_45 (b : Nat) (gg : (Nat → ClassId) × va_G × Launch × (Nat → Nat) × (Nat → Nat)) : IW b (adB b, gg) h00 16 0 := by
  exact ⟨146, rfl, _, rfl, fun D H hh => by exact hh⟩
theorem iw0_46 (b : Nat) (gg : (Nat → ClassId) × va_G × Launch × (Nat → Nat) × (Nat → Nat)) : IW b (adB b, gg) h00 17 0 := by
  exact ⟨147, rfl, _, rfl, fun D H hh => by exact hh⟩
theorem iw0_47 (b : Nat) (gg : (Nat → ClassId) × va_G × Launch × (Nat → Nat) × (Nat → Nat)) : IW b (adB b, gg) h00 18 0 := by
  exact ⟨148, rfl, _, rfl, fun D H hh => by exact hh⟩
theorem iw0_48 (b : Nat) (gg : (Nat → ClassId) × va_G × Launch × (Nat → Nat) × (Nat → Nat)) : IW b (adB b, gg) h00 19 0 := by
  exact ⟨149, rfl, _, rfl, fun D H hh => by exact hh⟩
theorem iw0_49 (b : Nat) (gg : (Nat → ClassId) × va_G × Launch × (Nat → Nat) × (Nat → Nat)) : IW b (adB b, gg) h00 20 0 := by
  exact ⟨150, rfl, _, rfl, fun D H hh => by exact hh⟩
theorem iw0_50 (b : Nat) (gg : (Nat → ClassId) × va_G × Launch × (Nat → Nat) × (Nat → Nat)) : IW b (adB b, gg) h00 21 0 := by
  exact ⟨15, rfl, _, rfl, fun D H hh => by exact hh⟩
theorem iw0_51 (b : Nat) (gg : (Nat → ClassId) × va_G × Launch × (Nat → Nat) × (Nat → Nat)) : IW b (adB b, gg) h00 21 1 := by
  exact ⟨26, rfl, _, rfl, fun D H hh => by exact hh⟩
theorem iw0_52 (b : Nat) (gg : (Nat → ClassId) × va_G × Launch × (Nat → Nat) × (Nat → Nat)) : IW b (adB b, gg) h00 21 2 := by
  exact ⟨44, rfl, _, rfl, fun D H hh => by exact hh⟩
theorem iw0_53 (b : Nat) (gg : (Nat → ClassId) × va_G × Launch × (Nat → Nat) × (Nat → Nat)) : IW b (adB b, gg) h00 21 3 := by
  exact ⟨55, rfl, _, rfl, fun D H hh => by exact hh⟩
theorem iw0_54 (b : Nat) (gg : (Nat → ClassId) × va_G × Launch × (Nat → Nat) × (Nat → Nat)) : IW b (adB b, gg) h00 21 4 := by
  exact ⟨72, rfl, _, rfl, fun D H hh => by exact hh⟩
theorem iw0_55 (b : Nat) (gg : (Nat → ClassId) × va_G × Launch × (Nat → Nat) × (Nat → Nat)) : IW b (adB b, gg) h00 21 5 := by
  exact ⟨83, rfl, _, rfl, fun D H hh => by exact hh⟩
theorem iw0_56 (b : Nat) (gg : (Nat → ClassId) × va_G × Launch × (Nat → Nat) × (Nat → Nat)) : IW b (adB b, gg) h00 21 6 := by
  exact ⟨100, rfl, _, rfl, fun D H hh => by exact hh⟩
theorem iw0_57 (b : Nat) (gg : (Nat → ClassId) × va_G × Launch × (Nat → Nat) × (Nat → Nat)) : IW b (adB b, gg) h00 21 7 := by
  exact ⟨111, rfl, _, rfl, fun D H hh => by exact hh⟩
theorem iw0_58 (b : Nat) (gg : (Nat → ClassId) × va_G × Launch × (Nat → Nat) × (Nat → Nat)) : IW b (adB b, gg) h00 21 8 := by
  exact ⟨124, rfl, _, rfl, fun D H hh => by exact hh⟩
theorem iw0_59 (b : Nat) (gg : (Nat → ClassId) × va_G × Launch × (Nat → Nat) × (Nat → Nat)) : IW b (adB b, gg) h00 22 0 := by
  exact ⟨16, rfl, _, rfl, fun D H hh => by exact hh⟩
theorem iw0_60 (b : Nat) (gg : (Nat → ClassId) × va_G × Launch × (Nat → Nat) × (Nat → Nat)) : IW b (adB b, gg) h00 22 1 := by
  exact ⟨27, rfl, _, rfl, fun D H hh => by exact hh⟩
theorem iw0_61 (b : Nat) (gg : (Nat → ClassId) × va_G × Launch × (Nat → Nat) × (Nat → Nat)) : IW b (adB b, gg) h00 22 2 := by
  exact ⟨45, rfl, _, rfl, fun D H hh => by exact hh⟩
theorem iw0_62 (b : Nat) (gg : (Nat → ClassId) × va_G × Launch × (Nat → Nat) × (Nat → Nat)) : IW b (adB b, gg) h00 22 3 := by
  exact ⟨56, rfl, _, rfl, fun D H hh => by exact hh⟩
theorem iw0_63 (b : Nat) (gg : (Nat → ClassId) × va_G × Launch × (Nat → Nat) × (Nat → Nat)) : IW b (adB b, gg) h00 22 4 := by
  exact ⟨73, rfl, _, rfl, fun D H hh => by exact hh⟩
theorem iw0_64 (b : Nat) (gg : (Nat → ClassId) × va_G × Launch × (Nat → Nat) × (Nat → Nat)) : IW b (adB b, gg) h00 22 5 := by
  exact ⟨84, rfl, _, rfl, fun D H hh => by exact hh⟩
theorem iw0_65 (b : Nat) (gg : (Nat → ClassId) × va_G × Launch × (Nat → Nat) × (Nat → Nat)) : IW b (adB b, gg) h00 22 6 := by
  exact ⟨101, rfl, _, rfl, fun D H hh => by exact hh⟩
theorem iw0_66 (b : Nat) (gg : (Nat → ClassId) × va_G × Launch × (Nat → Nat) × (Nat → Nat)) : IW b (adB b, gg) h00 22 7 := by
  exact ⟨112, rfl, _, rfl, fun D H hh => by exact hh⟩
theorem iw0_67 (b : Nat) (gg : (Nat → ClassId) × va_G × Launch × (Nat → Nat) × (Nat → Nat)) : IW b (adB b, gg) h00 22 8 := by
  exact ⟨125, rfl, _, rfl, fun D H hh => by exact hh⟩
theorem iw0_68 (b : Nat) (gg : (Nat → ClassId) × va_G × Launch × (Nat → Nat) × (Nat → Nat)) : IW b (adB b, gg) h00 23 0 := by
  exact ⟨17, rfl, _, rfl, fun D H hh => by exact hh⟩
theorem iw0_69 (b : Nat) (gg : (Nat → ClassId) × va_G × Launch × (Nat → Nat) × (Nat → Nat)) : IW b (adB b, gg) h00 23 1 := by
  exact ⟨28, rfl, _, rfl, fun D H hh => by exact hh⟩
theorem iw0_70 (b : Nat) (gg : (Nat → ClassId) × va_G × Launch × (Nat → Nat) × (Nat → Nat)) : IW b (adB b, gg) h00 23 2 := by
  exact ⟨46, rfl, _, rfl, fun D H hh => by exact hh⟩
theorem iw0_71 (b : Nat) (gg : (Nat → ClassId) × va_G × Launch × (Nat → Nat) × (Nat → Nat)) : IW b (adB b, gg) h00 23 3 := by
  exact ⟨57, rfl, _, rfl, fun D H hh => by exact hh⟩
theorem iw0_72 (b : Nat) (gg : (Nat → ClassId) × va_G × Launch × (Nat → Nat) × (Nat → Nat)) : IW b (adB b, gg) h00 23 4 := by
  exact ⟨74, rfl, _, rfl, fun D H hh => by exact hh⟩
theorem iw0_73 (b : Nat) (gg : (Nat → ClassId) × va_G × Launch × (Nat → Nat) × (Nat → Nat)) : IW b (adB b, gg) h00 23 5 := by
  exact ⟨85, rfl, _, rfl, fun D H hh => by exact hh⟩
theorem iw0_74 (b : Nat) (gg : (Nat → ClassId) × va_G × Launch × (Nat → Nat) × (Nat → Nat)) : IW b (adB b, gg) h00 23 6 := by
  exact ⟨102, rfl, _, rfl, fun D H hh => by exact hh⟩
theorem iw0_75 (b : Nat) (gg : (Nat → ClassId) × va_G × Launch × (Nat → Nat) × (Nat → Nat)) : IW b (adB b, gg) h00 23 7 := by
  exact ⟨113, rfl, _, rfl, fun D H hh => by exact hh⟩
theorem iw0_76 (b : Nat) (gg : (Nat → ClassId) × va_G × Launch × (Nat → Nat) × (Nat → Nat)) : IW b (adB b, gg) h00 23 8 := by
  exact ⟨126, rfl, _, rfl, fun D H hh => by exact hh⟩
theorem iw0_77 (b : Nat) (gg : (Nat → ClassId) × va_G × Launch × (Nat → Nat) × (Nat → Nat)) : IW b (adB b, gg) h00 24 0 := by
  exact ⟨134, rfl, _, rfl, fun D H hh => by exact hh⟩
theorem iw0_78 (b : Nat) (gg : (Nat → ClassId) × va_G × Launch × (Nat → Nat) × (Nat → Nat)) : IW b (adB b, gg) h00 25 0 := by
  exact ⟨127, rfl, _, rfl, fun D H hh => by exact hh⟩
theorem iw0_79 (b : Nat) (gg : (Nat → ClassId) × va_G × Launch × (Nat → Nat) × (Nat → Nat)) : IW b (adB b, gg) h00 26 0 := by
  exact ⟨128, rfl, _, rfl, fun D H hh => by exact hh⟩
theorem iw0_80 (b : Nat) (gg : (Nat → ClassId) × va_G × Launch × (Nat → Nat) × (Nat → Nat)) : IW b (adB b, gg) h00 27 0 := by
  exact ⟨156, rfl, _, rfl, fun D H hh => by exact hh⟩
theorem iw0_81 (b : Nat) (gg : (Nat → ClassId) × va_G × Launch × (Nat → Nat) × (Nat → Nat)) : IW b (adB b, gg) h00 28 0 := by
  exact ⟨157, rfl, _, rfl, fun D H hh => by exact hh⟩
theorem iw0_82 (b : Nat) (gg : (Nat → ClassId) × va_G × Launch × (Nat → Nat) × (Nat → Nat)) : IW b (adB b, gg) h00 29 0 := by
  exact ⟨158, rfl, _, rfl, fun D H hh => by exact hh⟩
theorem iw0_83 (b : Nat) (gg : (Nat → ClassId) × va_G × Launch × (Nat → Nat) × (Nat → Nat)) : IW b (adB b, gg) h00 30 0 := by
  exact ⟨159, rfl, _, rfl, fun D H hh => by exact hh⟩
theorem iw0_84 (b : Nat) (gg : (Nat → ClassId) × va_G × Launch × (Nat → Nat) × (Nat → Nat)) : IW b (adB b, gg) h00 31 0 := by
  exact ⟨12, rfl, _, rfl, fun D H hh => by exact hh⟩
theorem iw0_85 (b : Nat) (gg : (Nat → ClassId) × va_G × Launch × (Nat → Nat) × (Nat → Nat)) : IW b (adB b, gg) h00 31 1 := by
  exact ⟨23, rfl, _, rfl, fun D H hh => by exact hh⟩
theorem iw0_86 (b : Nat) (gg : (Nat → ClassId) × va_G × Launch × (Nat → Nat) × (Nat → Nat)) : IW b (adB b, gg) h00 31 2 := by
  exact ⟨41, rfl, _, rfl, fun D H hh => by exact hh⟩
theorem iw0_87 (b : Nat) (gg : (Nat → ClassId) × va_G × Launch × (Nat → Nat) × (Nat → Nat)) : IW b (adB b, gg) h00 31 3 := by
  exact ⟨52, rfl, _, rfl, fun D H hh => by exact hh⟩
theorem iw0_88 (b : Nat) (gg : (Nat → ClassId) × va_G × Launch × (Nat → Nat) × (Nat → Nat)) : IW b (adB b, gg) h00 31 4 := by
  exact ⟨69, rfl, _, rfl, fun D H hh => by exact hh⟩
theorem iw0_89 (b : Nat) (gg : (Nat → ClassId) × va_G × Launch × (Nat → Nat) × (Nat → Nat)) : IW b (adB b, gg) h00 31 5 := by
  exact ⟨80, rfl, _, rfl, fun D H hh => by exact hh⟩
theorem iw0_90 (b : Nat) (gg : (Nat → ClassId) × va_G × Launch × (Nat → Nat) × (Nat → Nat)) : IW b (adB b, gg) h00 31 6 := by
  exact ⟨97, rfl, _, rfl, fun D H hh => by exact hh⟩
theorem iw0_91 (b : Nat) (gg : (Nat → ClassId) × va_G × Launch × (Nat → Nat) × (Nat → Nat)) : IW b (adB b, gg) h00 31 7 := by
  exact ⟨108, rfl, _, rfl, fun D H hh => by exact hh⟩
theorem iw0_92 (b : Nat) (gg : (Nat → ClassId) × va_G × Launch × (Nat → Nat) × (Nat → Nat)) : IW b (adB b, gg) h00 31 8 := by
  exact ⟨121, rfl, _, rfl, fun D H hh => by exact hh⟩
theorem iw0_93 (b : Nat) (gg : (Nat → ClassId) × va_G × Launch × (Nat → Nat) × (Nat → Nat)) : IW b (adB b, gg) h00 32 0 := by
  exact ⟨13, rfl, _, rfl, fun D H hh => by exact hh⟩
theorem iw0_94 (b : Nat) (gg : (Nat → ClassId) × va_G × Launch × (Nat → Nat) × (Nat → Nat)) : IW b (adB b, gg) h00 32 1 := by
  exact ⟨24, rfl, _, rfl, fun D H hh => by exact hh⟩
theorem iw0_95 (b : Nat) (gg : (Nat → ClassId) × va_G × Launch × (Nat → Nat) × (Nat → Nat)) : IW b (adB b, gg) h00 32 2 := by
  exact ⟨42, rfl, _, rfl, fun D H hh => by exact hh⟩
theorem iw0_96 (b : Nat) (gg : (Nat → ClassId) × va_G × Launch × (Nat → Nat) × (Nat → Nat)) : IW b (adB b, gg) h00 32 3 := by
  exact ⟨53, rfl, _, rfl, fun D H hh => by exact hh⟩
theorem iw0_97 (b : Nat) (gg : (Nat → ClassId) × va_G × Launch × (Nat → Nat) × (Nat → Nat)) : IW b (adB b, gg) h00 32 4 := by
  exact ⟨70, rfl, _, rfl, fun D H hh => by exact hh⟩
theorem iw0_98 (b : Nat) (gg : (Nat → ClassId) × va_G × Launch × (Nat → Nat) × (Nat → Nat)) : IW b (adB b, gg) h00 32 5 := by
  exact ⟨81, rfl, _, rfl, fun D H hh => by exact hh⟩
theorem iw0_99 (b : Nat) (gg : (Nat → ClassId) × va_G × Launch × (Nat → Nat) × (Nat → Nat)) : IW b (adB b, gg) h00 32 6 := by
  exact ⟨98, rfl, _, rfl, fun D H hh => by exact hh⟩
theorem iw0_100 (b : Nat) (gg : (Nat → ClassId) × va_G × Launch × (Nat → Nat) × (Nat → Nat)) : IW b (adB b, gg) h00 32 7 := by
  exact ⟨109, rfl, _, rfl, fun D H hh => by exact hh⟩
theorem iw0_101 (b : Nat) (gg : (Nat → ClassId) × va_G × Launch × (Nat → Nat) × (Nat → Nat)) : IW b (adB b, gg) h00 32 8 := by
  exact ⟨122, rfl, _, rfl, fun D H hh => by exact hh⟩
theorem iw0_102 (b : Nat) (gg : (Nat → ClassId) × va_G × Launch × (Nat → Nat) × (Nat → Nat)) : IW b (adB b, gg) h00 33 0 := by
  exact ⟨8, rfl, _, rfl, fun D H hh => by exact hh⟩
theorem iw0_103 (b : Nat) (gg : (Nat → ClassId) × va_G × Launch × (Nat → Nat) × (Nat → Nat)) : IW b (adB b, gg) h00 33 1 := by
  exact ⟨19, rfl, _, rfl, fun D H hh => by exact hh⟩
theorem iw0_104 (b : Nat) (gg : (Nat → ClassId) × va_G × Launch × (Nat → Nat) × (Nat → Nat)) : IW b (adB b, gg) h00 33 2 := by
  exact ⟨37, rfl, _, rfl, fun D H hh => by exact hh⟩
theorem iw0_105 (b : Nat) (gg : (Nat → ClassId) × va_G × Launch × (Nat → Nat) × (Nat → Nat)) : IW b (adB b, gg) h00 33 3 := by
  exact ⟨48, rfl, _, rfl, fun D H hh => by exact hh⟩
theorem iw0_106 (b : Nat) (gg : (Nat → ClassId) × va_G × Launch × (Nat → Nat) × (Nat → Nat)) : IW b (adB b, gg) h00 33 4 := by
  exact ⟨65, rfl, _, rfl, fun D H hh => by exact hh⟩
theorem iw0_107 (b : Nat) (gg : (Nat → ClassId) × va_G × Launch × (Nat → Nat) × (Nat → Nat)) : IW b (adB b, gg) h00 33 5 := by
  exact ⟨76, rfl, _, rfl, fun D H hh => by exact hh⟩
theorem iw0_108 (b : Nat) (gg : (Nat → ClassId) × va_G × Launch × (Nat → Nat) × (Nat → Nat)) : IW b (adB b, gg) h00 33 6 := by
  exact ⟨93, rfl, _, rfl, fun D H hh => by exact hh⟩
theorem iw0_109 (b : Nat) (gg : (Nat → ClassId) × va_G × Launch × (Nat → Nat) × (Nat → Nat)) : IW b (adB b, gg) h00 33 7 := by
  exact ⟨104, rfl, _, rfl, fun D H hh => by exact hh⟩
theorem iw0_110 (b : Nat) (gg : (Nat → ClassId) × va_G × Launch × (Nat → Nat) × (Nat → Nat)) : IW b (adB b, gg) h00 33 8 := by
  exact ⟨117, rfl, _, rfl, fun D H hh => by exact hh⟩
theorem iw0_111 (b : Nat) (gg : (Nat → ClassId) × va_G × Launch × (Nat → Nat) × (Nat → Nat)) : IW b (adB b, gg) h00 33 9 := by
  exact ⟨131, rfl, _, rfl, fun D H hh => by exact hh⟩
theorem iw0_112 (b : Nat) (gg : (Nat → ClassId) × va_G × Launch × (Nat → Nat) × (Nat → Nat)) : IW b (adB b, gg) h00 33 10 := by
  exact ⟨138, rfl, _, rfl, fun D H hh => by exact hh⟩
theorem iw0_113 (b : Nat) (gg : (Nat → ClassId) × va_G × Launch × (Nat → Nat) × (Nat → Nat)) : IW b (adB b, gg) h00 33 11 := by
  exact ⟨152, rfl, _, rfl, fun D H hh => by exact hh⟩
theorem iw0_114 (b : Nat) (gg : (Nat → ClassId) × va_G × Launch × (Nat → Nat) × (Nat → Nat)) : IW b (adB b, gg) h00 34 0 := by
  exact ⟨9, rfl, _, rfl, fun D H hh => by exact hh⟩
theorem iw0_115 (b : Nat) (gg : (Nat → ClassId) × va_G × Launch × (Nat → Nat) × (Nat → Nat)) : IW b (adB b, gg) h00 34 1 := by
  exact ⟨20, rfl, _, rfl, fun D H hh => by exact hh⟩
theorem iw0_116 (b : Nat) (gg : (Nat → ClassId) × va_G × Launch × (Nat → Nat) × (Nat → Nat)) : IW b (adB b, gg) h00 34 2 := by
  exact ⟨38, rfl, _, rfl, fun D H hh => by exact hh⟩
theorem iw0_117 (b : Nat) (gg : (Nat → ClassId) × va_G × Launch × (Nat → Nat) × (Nat → Nat)) : IW b (adB b, gg) h00 34 3 := by
  exact ⟨49, rfl, _, rfl, fun D H hh => by exact hh⟩
theorem iw0_118 (b : Nat) (gg : (Nat → ClassId) × va_G × Launch × (Nat → Nat) × (Nat → Nat)) : IW b (adB b, gg) h00 34 4 := by
  exact ⟨66, rfl, _, rfl, fun D H hh => by exact hh⟩
theorem iw0_119 (b : Nat) (gg : (Nat → ClassId) × va_G × Launch × (Nat → Nat) × (Nat → Nat)) : IW b (adB b, gg) h00 34 5 := by
  exact ⟨77, rfl, _, rfl, fun D H hh => by exact hh⟩
theorem iw0_120 (b : Nat) (gg : (Nat → ClassId) × va_G × Launch × (Nat → Nat) × (Nat → Nat)) : IW b (adB b, gg) h00 34 6 := by
  exact ⟨94, rfl, _, rfl, fun D H hh => by exact hh⟩
theorem iw0_121 (b : Nat) (gg : (Nat → ClassId) × va_G × Launch × (Nat → Nat) × (Nat → Nat)) : IW b (adB b, gg) h00 34 7 := by
  exact ⟨105, rfl, _, rfl, fun D H hh => by exact hh⟩
theorem iw0_122 (b : Nat) (gg : (Nat → ClassId) × va_G × Launch × (Nat → Nat) × (Nat → Nat)) : IW b (adB b, gg) h00 34 8 := by
  exact ⟨118, rfl, _, rfl, fun D H hh => by exact hh⟩
theorem iw0_123 (b : Nat) (gg : (Nat → ClassId) × va_G × Launch × (Nat → Nat) × (Nat → Nat)) : IW b (adB b, gg) h00 34 9 := by
  exact ⟨132, rfl, _, rfl, fun D H hh => by exact hh⟩
theorem iw0_124 (b : Nat) (gg : (Nat → ClassId) × va_G × Launch × (Nat → Nat) × (Nat → Nat)) : IW b (adB b, gg) h00 34 10 := by
  exact ⟨139, rfl, _, rfl, fun D H hh => by exact hh⟩
theorem iw0_125 (b : Nat) (gg : (Nat → ClassId) × va_G × Launch × (Nat → Nat) × (Nat → Nat)) : IW b (adB b, gg) h00 34 11 := by
  exact ⟨153, rfl, _, rfl, fun D H hh => by exact hh⟩
theorem iw0_126 (b : Nat) (gg : (Nat → ClassId) × va_G × Launch × (Nat → Nat) × (Nat → Nat)) : IW b (adB b, gg) h00 35 0 := by
  exact ⟨10, rfl, _, rfl, fun D H hh => by exact hh⟩
theorem iw0_127 (b : Nat) (gg : (Nat → ClassId) × va_G × Launch × (Nat → Nat) × (Nat → Nat)) : IW b (adB b, gg) h00 35 1 := by
  exact ⟨21, rfl, _, rfl, fun D H hh => by exact hh⟩
theorem iw0_128 (b : Nat) (gg : (Nat → ClassId) × va_G × Launch × (Nat → Nat) × (Nat → Nat)) : IW b (adB b, gg) h00 35 2 := by
  exact ⟨39, rfl, _, rfl, fun D H hh => by exact hh⟩
theorem iw0_129 (b : Nat) (gg : (Nat → ClassId) × va_G × Launch × (Nat → Nat) × (Nat → Nat)) : IW b (adB b, gg) h00 35 3 := by
  exact ⟨50, rfl, _, rfl, fun D H hh => by exact hh⟩
theorem iw0_130 (b : Nat) (gg : (Nat → ClassId) × va_G × Launch × (Nat → Nat) × (Nat → Nat)) : IW b (adB b, gg) h00 35 4 := by
  exact ⟨67, rfl, _, rfl, fun D H hh => by exact hh⟩
theorem iw0_131 (b : Nat) (gg : (Nat → ClassId) × va_G × Launch × (Nat → Nat) × (Nat → Nat)) : IW b (adB b, gg) h00 35 5 := by
  exact ⟨78, rfl, _, rfl, fun D H hh => by exact hh⟩
theorem iw0_132 (b : Nat) (gg : (Nat → ClassId) × va_G × Launch × (Nat → Nat) × (Nat → Nat)) : IW b (adB b, gg) h00 35 6 := by
  exact ⟨95, rfl, _, rfl, fun D H hh => by exact hh⟩
theorem iw0_133 (b : Nat) (gg : (Nat → ClassId) × va_G × Launch × (Nat → Nat) × (Nat → Nat)) : IW b (adB b, gg) h00 35 7 := by
  exact ⟨106, rfl, _, rfl, fun D H hh => by exact hh⟩
theorem iw0_134 (b : Nat) (gg : (Nat → ClassId) × va_G × Launch × (Nat → Nat) × (Nat → Nat)) : IW b (adB b, gg) h00 35 8 := by
  exact ⟨119, rfl, _, rfl, fun D H hh => by exact hh⟩
theorem iw0_135 (b : Nat) (gg : (Nat → ClassId) × va_G × Launch × (Nat → Nat) × (Nat → Nat)) : IW b (adB b, gg) h00 35 9 := by
  exact ⟨133, rfl, _, rfl, fun D H hh => by exact hh⟩
theorem iw0_136 (b : Nat) (gg : (Nat → ClassId) × va_G × Launch × (Nat → Nat) × (Nat → Nat)) : IW b (adB b, gg) h00 35 10 := by
  exact ⟨140, rfl, _, rfl, fun D H hh => by exact hh⟩
theorem iw0_137 (b : Nat) (gg : (Nat → ClassId) × va_G × Launch × (Nat → Nat) × (Nat → Nat)) : IW b (adB b, gg) h00 35 11 := by
  exact ⟨154, rfl, _, rfl, fun D H hh => by exact hh⟩
theorem iw0_138 (b : Nat) (gg : (Nat → ClassId) × va_G × Launch × (Nat → Nat) × (Nat → Nat)) : IW b (adB b, gg) h00 36 0 := by
  exact ⟨2, rfl, _, rfl, fun D H hh => by exact hh⟩
theorem iw0_139 (b : Nat) (gg : (Nat → ClassId) × va_G × Launch × (Nat → Nat) × (Nat → Nat)) : IW b (adB b, gg) h00 36 1 := by
  exact ⟨31, rfl, _, rfl, fun D H hh => by exact hh⟩
theorem iw0_140 (b : Nat) (gg : (Nat → ClassId) × va_G × Launch × (Nat → Nat) × (Nat → Nat)) : IW b (adB b, gg) h00 36 2 := by
  exact ⟨59, rfl, _, rfl, fun D H hh => by exact hh⟩
theorem iw0_141 (b : Nat) (gg : (Nat → ClassId) × va_G × Launch × (Nat → Nat) × (Nat → Nat)) : IW b (adB b, gg) h00 36 3 := by
  exact ⟨87, rfl, _, rfl, fun D H hh => by exact hh⟩
theorem iw0_142 (b : Nat) (gg : (Nat → ClassId) × va_G × Launch × (Nat → Nat) × (Nat → Nat)) : IW b (adB b, gg) h00 37 0 := by
  exact ⟨3, rfl, _, rfl, fun D H hh => by exact hh⟩
theorem iw0_143 (b : Nat) (gg : (Nat → ClassId) × va_G × Launch × (Nat → Nat) × (Nat → Nat)) : IW b (adB b, gg) h00 37 1 := by
  exact ⟨32, rfl, _, rfl, fun D H hh => by exact hh⟩
theorem iw0_144 (b : Nat) (gg : (Nat → ClassId) × va_G × Launch × (Nat → Nat) × (Nat → Nat)) : IW b (adB b, gg) h00 37 2 := by
  exact ⟨60, rfl, _, rfl, fun D H hh => by exact hh⟩
theorem iw0_145 (b : Nat) (gg : (Nat → ClassId) × va_G × Launch × (Nat → Nat) × (Nat → Nat)) : IW b (adB b, gg) h00 37 3 := by
  exact ⟨88, rfl, _, rfl, fun D H hh => by exact hh⟩
theorem iw0_146 (b : Nat) (gg : (Nat → ClassId) × va_G × Launch × (Nat → Nat) × (Nat → Nat)) : IW b (adB b, gg) h00 38 0 := by
  refine ⟨4, rfl, _, rfl, fun D H hh => ?_⟩
  refine Eq.trans hh ?_
  exact congrArg some (vp_cgq (fun i hi => by match i, hi with | 0, _ => rfl | 1, _ => rfl | i + 2, hi => exact absurd hi (by omega)))
theorem iw0_147 (b : Nat) (gg : (Nat → ClassId) × va_G × Launch × (Nat → Nat) × (Nat → Nat)) : IW b (adB b, gg) h00 38 1 := by
  refine ⟨33, rfl, _, rfl, fun D H hh => ?_⟩
  refine Eq.trans hh ?_
  exact congrArg some (vp_cgq (fun i hi => by match i, hi with | 0, _ => rfl | 1, _ => rfl | i + 2, hi => exact absurd hi (by omega)))
theorem iw0_148 (b : Nat) (gg : (Nat → ClassId) × va_G × Launch × (Nat → Nat) × (Nat → Nat)) : IW b (adB b, gg) h00 38 2 := by
  refine ⟨61, rfl, _, rfl, fun D H hh => ?_⟩
  refine Eq.trans hh ?_
  exact congrArg some (vp_cgq (fun i hi => by match i, hi with | 0, _ => rfl | 1, _ => rfl | i + 2, hi => exact absurd hi (by omega)))
theorem iw0_149 (b : Nat) (gg : (Nat → ClassId) × va_G × Launch × (Nat → Nat) × (Nat → Nat)) : IW b (adB b, gg) h00 38 3 := by
  refine ⟨89, rfl, _, rfl, fun D H hh => ?_⟩
  refine Eq.trans hh ?_
  exact congrArg some (vp_cgq (fun i hi => by match i, hi with | 0, _ => rfl | 1, _ => rfl | i + 2, hi => exact absurd hi (by omega)))
theorem iw0_150 (b : Nat) (gg : (Nat → ClassId) × va_G × Launch × (Nat → Nat) × (Nat → Nat)) : IW b (adB b, gg) h00 39 0 := by
  refine ⟨5, rfl, _, rfl, fun D H hh => ?_⟩
  refine Eq.trans hh ?_
  exact congrArg some (vp_cgq (fun i hi => by match i, hi with | 0, _ => rfl | 1, _ => rfl | i + 2, hi => exact absurd hi (by omega)))
theorem iw0_151 (b : Nat) (gg : (Nat → ClassId) × va_G × Launch × (Nat → Nat) × (Nat → Nat)) : IW b (adB b, gg) h00 39 1 := by
  refine ⟨34, rfl, _, rfl, fun D H hh => ?_⟩
  refine Eq.trans hh ?_
  exact congrArg some (vp_cgq (fun i hi => by match i, hi with | 0, _ => rfl | 1, _ => rfl | i + 2, hi => exact absurd hi (by omega)))
theorem iw0_152 (b : Nat) (gg : (Nat → ClassId) × va_G × Launch × (Nat → Nat) × (Nat → Nat)) : IW b (adB b, gg) h00 39 2 := by
  refine ⟨62, rfl, _, rfl, fun D H hh => ?_⟩
  refine Eq.trans hh ?_
  exact congrArg some (vp_cgq (fun i hi => by match i, hi with | 0, _ => rfl | 1, _ => rfl | i + 2, hi => exact absurd hi (by omega)))
theorem iw0_153 (b : Nat) (gg : (Nat → ClassId) × va_G × Launch × (Nat → Nat) × (Nat → Nat)) : IW b (adB b, gg) h00 39 3 := by
  refine ⟨90, rfl, _, rfl, fun D H hh => ?_⟩
  refine Eq.trans hh ?_
  exact congrArg some (vp_cgq (fun i hi => by match i, hi with | 0, _ => rfl | 1, _ => rfl | i + 2, hi => exact absurd hi (by omega)))
theorem iw0_154 (b : Nat) (gg : (Nat → ClassId) × va_G × Launch × (Nat → Nat) × (Nat → Nat)) : IW b (adB b, gg) h00 40 0 := by
  refine ⟨6, rfl, _, rfl, fun D H hh => ?_⟩
  refine Eq.trans hh ?_
  exact congrArg some (vp_cgq (fun i hi => by match i, hi with | 0, _ => rfl | 1, _ => rfl | i + 2, hi => exact absurd hi (by omega)))
theorem iw0_155 (b : Nat) (gg : (Nat → ClassId) × va_G × Launch × (Nat → Nat) × (Nat → Nat)) : IW b (adB b, gg) h00 40 1 := by
  refine ⟨35, rfl, _, rfl, fun D H hh => ?_⟩
  refine Eq.trans hh ?_
  exact congrArg some (vp_cgq (fun i hi => by match i, hi with | 0, _ => rfl | 1, _ => rfl | i + 2, hi => exact absurd hi (by omega)))
theorem iw0_156 (b : Nat) (gg : (Nat → ClassId) × va_G × Launch × (Nat → Nat) × (Nat → Nat)) : IW b (adB b, gg) h00 40 2 := by
  refine ⟨63, rfl, _, rfl, fun D H hh => ?_⟩
  refine Eq.trans hh ?_
  exact congrArg some (vp_cgq (fun i hi => by match i, hi with | 0, _ => rfl | 1, _ => rfl | i + 2, hi => exact absurd hi (by omega)))
theorem iw0_157 (b : Nat) (gg : (Nat → ClassId) × va_G × Launch × (Nat → Nat) × (Nat → Nat)) : IW b (adB b, gg) h00 40 3 := by
  refine ⟨91, rfl, _, rfl, fun D H hh => ?_⟩
  refine Eq.trans hh ?_
  exact congrArg some (vp_cgq (fun i hi => by match i, hi with | 0, _ => rfl | 1, _ => rfl | i + 2, hi => exact absurd hi (by omega)))
theorem iw0_158 (b : Nat) (gg : (Nat → ClassId) × va_G × Launch × (Nat → Nat) × (Nat → Nat)) : IW b (adB b, gg) h00 41 0 := by
  refine ⟨29, rfl, _, rfl, fun D H hh => ?_⟩
  refine Eq.trans hh ?_
  exact congrArg some (vp_cgq (fun i hi => by match i, hi with | 0, _ => rfl | 1, _ => rfl | 2, _ => rfl | i + 3, hi => exact absurd hi (by omega)))
theorem iw0_159 (b : Nat) (gg : (Nat → ClassId) × va_G × Launch × (Nat → Nat) × (Nat → Nat)) : IW b (adB b, gg) h00 42 0 := by
  exact ⟨114, rfl, _, rfl, fun D H hh => by exact hh⟩
set_option maxRecDepth 100000 in
theorem iw0 (b : Nat) (gg : (Nat → ClassId) × va_G × Launch × (Nat → Nat) × (Nat → Nat)) : ∀ x ∈ ids 0, IW b (adB b, gg) h00 x.1 x.2 := by
  show ∀ x ∈ ([(0, 0), (1, 0), (1, 1), (1, 2), (1, 3), (1, 4), (1, 5), (1, 6), (1, 7), (1, 8), (2, 0), (3, 0), (4, 0), (5, 0), (5, 1), (5, 2), (5, 3), (5, 4), (5, 5), (5, 6), (5, 7), (5, 8), (6, 0), (6, 1), (6, 2), (6, 3), (6, 4), (6, 5), (6, 6), (6, 7), (6, 8), (6, 9), (6, 10), (6, 11), (7, 0), (7, 1), (7, 2), (7, 3), (8, 0), (9, 0), (11, 0), (12, 0), (13, 0), (14, 0), (15, 0), (16, 0), (17, 0), (18, 0), (19, 0), (20, 0), (21, 0), (21, 1), (21, 2), (21, 3), (21, 4), (21, 5), (21, 6), (21, 7), (21, 8), (22, 0), (22, 1), (22, 2), (22, 3), (22, 4), (22, 5), (22, 6), (22, 7), (22, 8), (23, 0), (23, 1), (23, 2), (23, 3), (23, 4), (23, 5), (23, 6), (23, 7), (23, 8), (24, 0), (25, 0), (26, 0), (27, 0), (28, 0), (29, 0), (30, 0), (31, 0), (31, 1), (31, 2), (31, 3), (31, 4), (31, 5), (31, 6), (31, 7), (31, 8), (32, 0), (32, 1), (32, 2), (32, 3), (32, 4), (32, 5), (32, 6), (32, 7), (32, 8), (33, 0), (33, 1), (33, 2), (33, 3), (33, 4), (33, 5), (33, 6), (33, 7), (33, 8), (33, 9), (33, 10), (33, 11), (34, 0), (34, 1), (34, 2), (34, 3), (34, 4), (34, 5), (34, 6), (34, 7), (34, 8), (34, 9), (34, 10), (34, 11), (35, 0), (35, 1), (35, 2), (35, 3), (35, 4), (35, 5), (35, 6), (35, 7), (35, 8), (35, 9), (35, 10), (35, 11), (36, 0), (36, 1), (36, 2), (36, 3), (37, 0), (37, 1), (37, 2), (37, 3), (38, 0), (38, 1), (38, 2), (38, 3), (39, 0), (39, 1), (39, 2), (39, 3), (40, 0), (40, 1), (40, 2), (40, 3), (41, 0), (42, 0)] : List (Nat × Nat)), IW b (adB b, gg) h00 x.1 x.2
  exact (List.forall_mem_cons.mpr ⟨iw0_0 b gg, (List.forall_mem_cons.mpr ⟨iw0_1 b gg, (List.forall_mem_cons.mpr ⟨iw0_2 b gg, (List.forall_mem_cons.mpr ⟨iw0_3 b gg, (List.forall_mem_cons.mpr ⟨iw0_4 b gg, (List.forall_mem_cons.mpr ⟨iw0_5 b gg, (List.forall_mem_cons.mpr ⟨iw0_6 b gg, (List.forall_mem_cons.mpr ⟨iw0_7 b gg, (List.forall_mem_cons.mpr ⟨iw0_8 b gg, (List.forall_mem_cons.mpr ⟨iw0_9 b gg, (List.forall_mem_cons.mpr ⟨iw0_10 b gg, (List.forall_mem_cons.mpr ⟨iw0_11 b gg, (List.forall_mem_cons.mpr ⟨iw0_12 b gg, (List.forall_mem_cons.mpr ⟨iw0_13 b gg, (List.forall_mem_cons.mpr ⟨iw0_14 b gg, (List.forall_mem_cons.mpr ⟨iw0_15 b gg, (List.forall_mem_cons.mpr ⟨iw0_16 b gg, (List.forall_mem_cons.mpr ⟨iw0_17 b gg, (List.forall_mem_cons.mpr ⟨iw0_18 b gg, (List.forall_mem_cons.mpr ⟨iw0_19 b gg, (List.forall_mem_cons.mpr ⟨iw0_20 b gg, (List.forall_mem_cons.mpr ⟨iw0_21 b gg, (List.forall_mem_cons.mpr ⟨iw0_22 b gg, (List.forall_mem_cons.mpr ⟨iw0_23 b gg, (List.forall_mem_cons.mpr ⟨iw0_24 b gg, (List.forall_mem_cons.mpr ⟨iw0_25 b gg, (List.forall_mem_cons.mpr ⟨iw0_26 b gg, (List.forall_mem_cons.mpr ⟨iw0_27 b gg, (List.forall_mem_cons.mpr ⟨iw0_28 b gg, (List.forall_mem_cons.mpr ⟨iw0_29 b gg, (List.forall_mem_cons.mpr ⟨iw0_30 b gg, (List.forall_mem_cons.mpr ⟨iw0_31 b gg, (List.forall_mem_cons.mpr ⟨iw0_32 b gg, (List.forall_mem_cons.mpr ⟨iw0_33 b gg, (List.forall_mem_cons.mpr ⟨iw0_34 b gg, (List.forall_mem_cons.mpr ⟨iw0_35 b gg, (List.forall_mem_cons.mpr ⟨iw0_36 b gg, (List.forall_mem_cons.mpr ⟨iw0_37 b gg, (List.forall_mem_cons.mpr ⟨iw0_38 b gg, (List.forall_mem_cons.mpr ⟨iw0_39 b gg, (List.forall_mem_cons.mpr ⟨iw0_40 b gg, (List.forall_mem_cons.mpr ⟨iw0_41 b gg, (List.forall_mem_cons.mpr ⟨iw0_42 b gg, (List.forall_mem_cons.mpr ⟨iw0_43 b gg, (List.forall_mem_cons.mpr ⟨iw0_44 b gg, (List.forall_mem_cons.mpr ⟨iw0_45 b gg, (List.forall_mem_cons.mpr ⟨iw0_46 b gg, (List.forall_mem_cons.mpr ⟨iw0_47 b gg, (List.forall_mem_cons.mpr ⟨iw0_48 b gg, (List.forall_mem_cons.mpr ⟨iw0_49 b gg, (List.forall_mem_cons.mpr ⟨iw0_50 b gg, (List.forall_mem_cons.mpr ⟨iw0_51 b gg, (List.forall_mem_cons.mpr ⟨iw0_52 b gg, (List.forall_mem_cons.mpr ⟨iw0_53 b gg, (List.forall_mem_cons.mpr ⟨iw0_54 b gg, (List.forall_mem_cons.mpr ⟨iw0_55 b gg, (List.forall_mem_cons.mpr ⟨iw0_56 b gg, (List.forall_mem_cons.mpr ⟨iw0_57 b gg, (List.forall_mem_cons.mpr ⟨iw0_58 b gg, (List.forall_mem_cons.mpr ⟨iw0_59 b gg, (List.forall_mem_cons.mpr ⟨iw0_60 b gg, (List.forall_mem_cons.mpr ⟨iw0_61 b gg, (List.forall_mem_cons.mpr ⟨iw0_62 b gg, (List.forall_mem_cons.mpr ⟨iw0_63 b gg, (List.forall_mem_cons.mpr ⟨iw0_64 b gg, (List.forall_mem_cons.mpr ⟨iw0_65 b gg, (List.forall_mem_cons.mpr ⟨iw0_66 b gg, (List.forall_mem_cons.mpr ⟨iw0_67 b gg, (List.forall_mem_cons.mpr ⟨iw0_68 b gg, (List.forall_mem_cons.mpr ⟨iw0_69 b gg, (List.forall_mem_cons.mpr ⟨iw0_70 b gg, (List.forall_mem_cons.mpr ⟨iw0_71 b gg, (List.forall_mem_cons.mpr ⟨iw0_72 b gg, (List.forall_mem_cons.mpr ⟨iw0_73 b gg, (List.forall_mem_cons.mpr ⟨iw0_74 b gg, (List.forall_mem_cons.mpr ⟨iw0_75 b gg, (List.forall_mem_cons.mpr ⟨iw0_76 b gg, (List.forall_mem_cons.mpr ⟨iw0_77 b gg, (List.forall_mem_cons.mpr ⟨iw0_78 b gg, (List.forall_mem_cons.mpr ⟨iw0_79 b gg, (List.forall_mem_cons.mpr ⟨iw0_80 b gg, (List.forall_mem_cons.mpr ⟨iw0_81 b gg, (List.forall_mem_cons.mpr ⟨iw0_82 b gg, (List.forall_mem_cons.mpr ⟨iw0_83 b gg, (List.forall_mem_cons.mpr ⟨iw0_84 b gg, (List.forall_mem_cons.mpr ⟨iw0_85 b gg, (List.forall_mem_cons.mpr ⟨iw0_86 b gg, (List.forall_mem_cons.mpr ⟨iw0_87 b gg, (List.forall_mem_cons.mpr ⟨iw0_88 b gg, (List.forall_mem_cons.mpr ⟨iw0_89 b gg, (List.forall_mem_cons.mpr ⟨iw0_90 b gg, (List.forall_mem_cons.mpr ⟨iw0_91 b gg, (List.forall_mem_cons.mpr ⟨iw0_92 b gg, (List.forall_mem_cons.mpr ⟨iw0_93 b gg, (List.forall_mem_cons.mpr ⟨iw0_94 b gg, (List.forall_mem_cons.mpr ⟨iw0_95 b gg, (List.forall_mem_cons.mpr ⟨iw0_96 b gg, (List.forall_mem_cons.mpr ⟨iw0_97 b gg, (List.forall_mem_cons.mpr ⟨iw0_98 b gg, (List.forall_mem_cons.mpr ⟨iw0_99 b gg, (List.forall_mem_cons.mpr ⟨iw0_100 b gg, (List.forall_mem_cons.mpr ⟨iw0_101 b gg, (List.forall_mem_cons.mpr ⟨iw0_102 b gg, (List.forall_mem_cons.mpr ⟨iw0_103 b gg, (List.forall_mem_cons.mpr ⟨iw0_104 b gg, (List.forall_mem_cons.mpr ⟨iw0_105 b gg, (List.forall_mem_cons.mpr ⟨iw0_106 b gg, (List.forall_mem_cons.mpr ⟨iw0_107 b gg, (List.forall_mem_cons.mpr ⟨iw0_108 b gg, (List.forall_mem_cons.mpr ⟨iw0_109 b gg, (List.forall_mem_cons.mpr ⟨iw0_110 b gg, (List.forall_mem_cons.mpr ⟨iw0_111 b gg, (List.forall_mem_cons.mpr ⟨iw0_112 b gg, (List.forall_mem_cons.mpr ⟨iw0_113 b gg, (List.forall_mem_cons.mpr ⟨iw0_114 b gg, (List.forall_mem_cons.mpr ⟨iw0_115 b gg, (List.forall_mem_cons.mpr ⟨iw0_116 b gg, (List.forall_mem_cons.mpr ⟨iw0_117 b gg, (List.forall_mem_cons.mpr ⟨iw0_118 b gg, (List.forall_mem_cons.mpr ⟨iw0_119 b gg, (List.forall_mem_cons.mpr ⟨iw0_120 b gg, (List.forall_mem_cons.mpr ⟨iw0_121 b gg, (List.forall_mem_cons.mpr ⟨iw0_122 b gg, (List.forall_mem_cons.mpr ⟨iw0_123 b gg, (List.forall_mem_cons.mpr ⟨iw0_124 b gg, (List.forall_mem_cons.mpr ⟨iw0_125 b gg, (List.forall_mem_cons.mpr ⟨iw0_126 b gg, (List.forall_mem_cons.mpr ⟨iw0_127 b gg, (List.forall_mem_cons.mpr ⟨iw0_128 b gg, (List.forall_mem_cons.mpr ⟨iw0_129 b gg, (List.forall_mem_cons.mpr ⟨iw0_130 b gg, (List.forall_mem_cons.mpr ⟨iw0_131 b gg, (List.forall_mem_cons.mpr ⟨iw0_132 b gg, (List.forall_mem_cons.mpr ⟨iw0_133 b gg, (List.forall_mem_cons.mpr ⟨iw0_134 b gg, (List.forall_mem_cons.mpr ⟨iw0_135 b gg, (List.forall_mem_cons.mpr ⟨iw0_136 b gg, (List.forall_mem_cons.mpr ⟨iw0_137 b gg, (List.forall_mem_cons.mpr ⟨iw0_138 b gg, (List.forall_mem_cons.mpr ⟨iw0_139 b gg, (List.forall_mem_cons.mpr ⟨iw0_140 b gg, (List.forall_mem_cons.mpr ⟨iw0_141 b gg, (List.forall_mem_cons.mpr ⟨iw0_142 b gg, (List.forall_mem_cons.mpr ⟨iw0_143 b gg, (List.forall_mem_cons.mpr ⟨iw0_144 b gg, (List.forall_mem_cons.mpr ⟨iw0_145 b gg, (List.forall_mem_cons.mpr ⟨iw0_146 b gg, (List.forall_mem_cons.mpr ⟨iw0_147 b gg, (List.forall_mem_cons.mpr ⟨iw0_148 b gg, (List.forall_mem_cons.mpr ⟨iw0_149 b gg, (List.forall_mem_cons.mpr ⟨iw0_150 b gg, (List.forall_mem_cons.mpr ⟨iw0_151 b gg, (List.forall_mem_cons.mpr ⟨iw0_152 b gg, (List.forall_mem_cons.mpr ⟨iw0_153 b gg, (List.forall_mem_cons.mpr ⟨iw0_154 b gg, (List.forall_mem_cons.mpr ⟨iw0_155 b gg, (List.forall_mem_cons.mpr ⟨iw0_156 b gg, (List.forall_mem_cons.mpr ⟨iw0_157 b gg, (List.forall_mem_cons.mpr ⟨iw0_158 b gg, (List.forall_mem_cons.mpr ⟨iw0_159 b gg, (fun _ h => absurd h List.not_mem_nil)⟩)⟩)⟩)⟩)⟩)⟩)⟩)⟩)⟩)⟩)⟩)⟩)⟩)⟩)⟩)⟩)⟩)⟩)⟩)⟩)⟩)⟩)⟩)⟩)⟩)⟩)⟩)⟩)⟩)⟩)⟩)⟩)⟩)⟩)⟩)⟩)⟩)⟩)⟩)⟩)⟩)⟩)⟩)⟩)⟩)⟩)⟩)⟩)⟩)⟩)⟩)⟩)⟩)⟩)⟩)⟩)⟩)⟩)⟩)⟩)⟩)⟩)⟩)⟩)⟩)⟩)⟩)⟩)⟩)⟩)⟩)⟩)⟩)⟩)⟩)⟩)⟩)⟩)⟩)⟩)⟩)⟩)⟩)⟩)⟩)⟩)⟩)⟩)⟩)⟩)⟩)⟩)⟩)⟩)⟩)⟩)⟩)⟩)⟩)⟩)⟩)⟩)⟩)⟩)⟩)⟩)⟩)⟩)⟩)⟩)⟩)⟩)⟩)⟩)⟩)⟩)⟩)⟩)⟩)⟩)⟩)⟩)⟩)⟩)⟩)⟩)⟩)⟩)⟩)⟩)⟩)⟩)⟩)⟩)⟩)⟩)⟩)⟩)⟩)⟩)⟩)⟩)⟩)⟩)⟩)⟩)⟩)⟩)⟩)⟩)⟩)⟩)⟩)⟩)⟩)⟩)⟩)⟩)⟩)⟩)
theorem iw1_0 (b : Nat) (gg : (Nat → ClassId) × va_G × Launch × (Nat → Nat) × (Nat → Nat)) : IW b (adB b, gg) h01 10 0 := by
  exact ⟨160, rfl, _, rfl, fun D H hh => by exact hh⟩
theorem iw1_1 (b : Nat) (gg : (Nat → ClassId) × va_G × Launch × (Nat → Nat) × (Nat → Nat)) : IW b (adB b, gg) h01 43 0 := by
  exact ⟨161, rfl, _, rfl, fun D H hh => by exact hh⟩
theorem iw1_2 (b : Nat) (gg : (Nat → ClassId) × va_G × Launch × (Nat → Nat) × (Nat → Nat)) : IW b (adB b, gg) h01 44 0 := by
  exact ⟨162, rfl, _, rfl, fun D H hh => by exact hh⟩
theorem iw1_3 (b : Nat) (gg : (Nat → ClassId) × va_G × Launch × (Nat → Nat) × (Nat → Nat)) : IW b (adB b, gg) h01 45 0 := by
  exact ⟨163, rfl, _, rfl, fun D H hh => by exact hh⟩
theorem iw1_4 (b : Nat) (gg : (Nat → ClassId) × va_G × Launch × (Nat → Nat) × (Nat → Nat)) : IW b (adB b, gg) h01 46 0 := by
  exact ⟨164, rfl, _, rfl, fun D H hh => by exact Eq.trans hh (congrArg some (vp_cgi (fun i hi => by match i, hi with | 0, _ => rfl | 1, _ => rfl | 2, _ => rfl | 3, _ => rfl | i + 4, hi => exact absurd hi (by omega))))⟩
theorem iw1_5 (b : Nat) (gg : (Nat → ClassId) × va_G × Launch × (Nat → Nat) × (Nat → Nat)) : IW b (adB b, gg) h01 47 0 := by
  exact ⟨165, rfl, _, rfl, fun D H hh => by exact hh⟩
theorem iw1_6 (b : Nat) (gg : (Nat → ClassId) × va_G × Launch × (Nat → Nat) × (Nat → Nat)) : IW b (adB b, gg) h01 48 0 := by
  exact ⟨166, rfl, _, rfl, fun D H hh => by exact hh⟩
theorem iw1_7 (b : Nat) (gg : (Nat → ClassId) × va_G × Launch × (Nat → Nat) × (Nat → Nat)) : IW b (adB b, gg) h01 49 0 := by
  exact ⟨167, rfl, _, rfl, fun D H hh => by exact hh⟩
theorem iw1_8 (b : Nat) (gg : (Nat → ClassId) × va_G × Launch × (Nat → Nat) × (Nat → Nat)) : IW b (adB b, gg) h01 50 0 := by
  exact ⟨168, rfl, _, rfl, fun D H hh => by exact hh⟩
theorem iw1_9 (b : Nat) (gg : (Nat → ClassId) × va_G × Launch × (Nat → Nat) × (Nat → Nat)) : IW b (adB b, gg) h01 51 0 := by
  exact ⟨169, rfl, _, rfl, fun D H hh => by exact hh⟩
theorem iw1_10 (b : Nat) (gg : (Nat → ClassId) × va_G × Launch × (Nat → Nat) × (Nat → Nat)) : IW b (adB b, gg) h01 52 0 := by
  exact ⟨170, rfl, _, rfl, fun D H hh => by exact hh⟩
theorem iw1_11 (b : Nat) (gg : (Nat → ClassId) × va_G × Launch × (Nat → Nat) × (Nat → Nat)) : IW b (adB b, gg) h01 53 0 := by
  exact ⟨171, rfl, _, rfl, fun D H hh => by exact hh⟩
theorem iw1_12 (b : Nat) (gg : (Nat → ClassId) × va_G × Launch × (Nat → Nat) × (Nat → Nat)) : IW b (adB b, gg) h01 54 0 := by
  exact ⟨172, rfl, _, rfl, fun D H hh => by exact hh⟩
theorem iw1_13 (b : Nat) (gg : (Nat → ClassId) × va_G × Launch × (Nat → Nat) × (Nat → Nat)) : IW b (adB b, gg) h01 55 0 := by
  exact ⟨173, rfl, _, rfl, fun D H hh => by exact hh⟩
theorem iw1_14 (b : Nat) (gg : (Nat → ClassId) × va_G × Launch × (Nat → Nat) × (Nat → Nat)) : IW b (adB b, gg) h01 56 0 := by
  exact ⟨174, rfl, _, rfl, fun D H hh => by exact hh⟩
theorem iw1_15 (b : Nat) (gg : (Nat → ClassId) × va_G × Launch × (Nat → Nat) × (Nat → Nat)) : IW b (adB b, gg) h01 57 0 := by
  exact ⟨175, rfl, _, rfl, fun D H hh => by exact hh⟩
theorem iw1_16 (b : Nat) (gg : (Nat → ClassId) × va_G × Launch × (Nat → Nat) × (Nat → Nat)) : IW b (adB b, gg) h01 58 0 := by
  exact ⟨176, rfl, _, rfl, fun D H hh => by exact hh⟩
theorem iw1_17 (b : Nat) (gg : (Nat → ClassId) × va_G × Launch × (Nat → Nat) × (Nat → Nat)) : IW b (adB b, gg) h01 59 0 := by
  exact ⟨177, rfl, _, rfl, fun D H hh => by exact hh⟩
theorem iw1_18 (b : Nat) (gg : (Nat → ClassId) × va_G × Launch × (Nat → Nat) × (Nat → Nat)) : IW b (adB b, gg) h01 60 0 := by
  exact ⟨178, rfl, _, rfl, fun D H hh => by exact hh⟩
theorem iw1_19 (b : Nat) (gg : (Nat → ClassId) × va_G × Launch × (Nat → Nat) × (Nat → Nat)) : IW b (adB b, gg) h01 61 0 := by
  exact ⟨179, rfl, _, rfl, fun D H hh => by exact hh⟩
theorem iw1_20 (b : Nat) (gg : (Nat → ClassId) × va_G × Launch × (Nat → Nat) × (Nat → Nat)) : IW b (adB b, gg) h01 62 0 := by
  exact ⟨180, rfl, _, rfl, fun D H hh => by exact hh⟩
theorem iw1_21 (b : Nat) (gg : (Nat → ClassId) × va_G × Launch × (Nat → Nat) × (Nat → Nat)) : IW b (adB b, gg) h01 63 0 := by
  exact ⟨181, rfl, _, rfl, fun D H hh => by exact hh⟩
theorem iw1_22 (b : Nat) (gg : (Nat → ClassId) × va_G × Launch × (Nat → Nat) × (Nat → Nat)) : IW b (adB b, gg) h01 64 0 := by
  exact ⟨182, rfl, _, rfl, fun D H hh => by exact hh⟩
theorem iw1_23 (b : Nat) (gg : (Nat → ClassId) × va_G × Launch × (Nat → Nat) × (Nat → Nat)) : IW b (adB b, gg) h01 65 0 := by
  exact ⟨183, rfl, _, rfl, fun D H hh => by exact hh⟩
theorem iw1_24 (b : Nat) (gg : (Nat → ClassId) × va_G × Launch × (Nat → Nat) × (Nat → Nat)) : IW b (adB b, gg) h01 66 0 := by
  exact ⟨184, rfl, _, rfl, fun D H hh => by exact hh⟩
theorem iw1_25 (b : Nat) (gg : (Nat → ClassId) × va_G × Launch × (Nat → Nat) × (Nat → Nat)) : IW b (adB b, gg) h01 67 0 := by
  exact ⟨185, rfl, _, rfl, fun D H hh => by exact hh⟩
set_option maxRecDepth 100000 in
theorem iw1 (b : Nat) (gg : (Nat → ClassId) × va_G × Launch × (Nat → Nat) × (Nat → Nat)) : ∀ x ∈ ids 1, IW b (adB b, gg) h01 x.1 x.2 := by
  show ∀ x ∈ ([(10, 0), (43, 0), (44, 0), (45, 0), (46, 0), (47, 0), (48, 0), (49, 0), (50, 0), (51, 0), (52, 0), (53, 0), (54, 0), (55, 0), (56, 0), (57, 0), (58, 0), (59, 0), (60, 0), (61, 0), (62, 0), (63, 0), (64, 0), (65, 0), (66, 0), (67, 0)] : List (Nat × Nat)), IW b (adB b, gg) h01 x.1 x.2
  exact (List.forall_mem_cons.mpr ⟨iw1_0 b gg, (List.forall_mem_cons.mpr ⟨iw1_1 b gg, (List.forall_mem_cons.mpr ⟨iw1_2 b gg, (List.forall_mem_cons.mpr ⟨iw1_3 b gg, (List.forall_mem_cons.mpr ⟨iw1_4 b gg, (List.forall_mem_cons.mpr ⟨iw1_5 b gg, (List.forall_mem_cons.mpr ⟨iw1_6 b gg, (List.forall_mem_cons.mpr ⟨iw1_7 b gg, (List.forall_mem_cons.mpr ⟨iw1_8 b gg, (List.forall_mem_cons.mpr ⟨iw1_9 b gg, (List.forall_mem_cons.mpr ⟨iw1_10 b gg, (List.forall_mem_cons.mpr ⟨iw1_11 b gg, (List.forall_mem_cons.mpr ⟨iw1_12 b gg, (List.forall_mem_cons.mpr ⟨iw1_13 b gg, (List.forall_mem_cons.mpr ⟨iw1_14 b gg, (List.forall_mem_cons.mpr ⟨iw1_15 b gg, (List.forall_mem_cons.mpr ⟨iw1_16 b gg, (List.forall_mem_cons.mpr ⟨iw1_17 b gg, (List.forall_mem_cons.mpr ⟨iw1_18 b gg, (List.forall_mem_cons.mpr ⟨iw1_19 b gg, (List.forall_mem_cons.mpr ⟨iw1_20 b gg, (List.forall_mem_cons.mpr ⟨iw1_21 b gg, (List.forall_mem_cons.mpr ⟨iw1_22 b gg, (List.forall_mem_cons.mpr ⟨iw1_23 b gg, (List.forall_mem_cons.mpr ⟨iw1_24 b gg, (List.forall_mem_cons.mpr ⟨iw1_25 b gg, (fun _ h => absurd h List.not_mem_nil)⟩)⟩)⟩)⟩)⟩)⟩)⟩)⟩)⟩)⟩)⟩)⟩)⟩)⟩)⟩)⟩)⟩)⟩)⟩)⟩)⟩)⟩)⟩)⟩)⟩)⟩)
