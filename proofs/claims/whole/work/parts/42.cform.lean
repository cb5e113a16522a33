/-! the class's reads of a form -/
section FORM
variable {S : kS} {α : kα} {o f : Nat}
theorem c_hasPlace (hF : RF (S o) α f) (hw : wfP α f) {p : Nat} (hp : p < α 1 f 0) : FX0_hasPlace o S (nI p) = some 1 := by
  have h5 := hw.1
  simp (disch := omega) only [FX0_hasPlace, FX0_hasPlace_J21, FX0_hasPlace_J22, li_5, kb, kI_eq, hF.1.1, if_neg (nI_pos (show p < 2 ^ 31 by omega)), nI_l']
  rw [if_neg (by omega), if_neg (by omega), kz_1]
  rfl
theorem c_hasPlaceN (hF : RF (S o) α f) (hw : wfP α f) {x : Int32} (hx : x < 0 ∨ nI (α 1 f 0) ≤ x) : FX0_hasPlace o S x = some 0 := by
  unfold FX0_hasPlace FX0_hasPlace_J21 FX0_hasPlace_J22
  rcases Classical.em (x < 0) with h | h
  · rw [if_pos h]; rfl
  · rw [if_neg h]
    simp only [kb, kI_eq, hF.1.1]
    rw [if_pos (hx.resolve_left h)]
    rfl
theorem c_hasValue (hF : RF (S o) α f) (hw : wfP α f) {p v : Nat} (hp : p < α 1 f 0) (hv : v < α 3 f p) : FX0_hasValue o S (nI p) (nI v) = some 1 := by
  have h5 := hw.1
  have h3 := hw.2 p hp
  unfold FX0_hasValue FX0_hasValue_J26 FX0_hasValue_J27
  rw [c_hasPlace hF hw hp]
  simp (disch := omega) only [Option.bind_some, kb, kA_nI, kin_t, kgd_t, hF.1.2.2.1 p hp, nI_l']
  rw [if_neg (by decide), if_neg (nI_pos (by omega)), if_neg (by omega)]
  rfl
theorem c_hasValueP (hF : RF (S o) α f) (hw : wfP α f) {x y : Int32} (hx : x < 0 ∨ nI (α 1 f 0) ≤ x) : FX0_hasValue o S x y = some 0 := by
  unfold FX0_hasValue FX0_hasValue_J26 FX0_hasValue_J27
  rw [c_hasPlaceN hF hw hx]
  rfl
theorem c_hasValueV (hF : RF (S o) α f) (hw : wfP α f) {p : Nat} {y : Int32} (hp : p < α 1 f 0) (hy : y < 0 ∨ nI (α 3 f p) ≤ y) : FX0_hasValue o S (nI p) y = some 0 := by
  have h5 := hw.1
  unfold FX0_hasValue FX0_hasValue_J26 FX0_hasValue_J27
  rw [c_hasPlace hF hw hp]
  simp (disch := omega) only [Option.bind_some, kb, kA_nI, kin_t, kgd_t, hF.1.2.2.1 p hp]
  rw [if_neg (by decide)]
  rcases Classical.em (y < 0) with h | h
  · rw [if_pos h]; rfl
  · rw [if_neg h, if_pos (hy.resolve_left h)]; rfl
theorem c_isWorked (hF : RF (S o) α f) (hw : wfP α f) {p : Nat} (hp : p < α 1 f 0) : FX0_isWorked o S (nI p) = some (b2 (decide (α 2 f p = 1))) := by
  have h5 := hw.1
  have h2 := hw.2 p hp
  unfold FX0_isWorked FX0_isWorked_J22 FX0_isWorked_J23
  rw [c_hasPlace hF hw hp]
  simp (disch := omega) only [Option.bind_some, kb, kA_nI, kin_t, kgd_t, hF.1.2.1 p hp, li_1, nI_e]
  rw [if_neg (by decide)]
  by_cases h : α 2 f p = 1
  · rw [if_pos h]; simp [h, b2]; rfl
  · rw [if_neg h]; simp [h, b2]; rfl
theorem c_kindOf (hF : RF (S o) α f) (hw : wfP α f) {p : Nat} (hp : p < α 1 f 0) : FX0_kindOf o S (nI p) = some (nI (α 2 f p)) := by
  have h5 := hw.1
  unfold FX0_kindOf FX0_kindOf_J18
  rw [c_hasPlace hF hw hp]
  simp (disch := omega) only [Option.bind_some, kb, kA_nI, kin_t, kgd_t, hF.1.2.1 p hp]
  rw [if_neg (by decide)]
theorem c_sizeOf (hF : RF (S o) α f) (hw : wfP α f) {p : Nat} (hp : p < α 1 f 0) : FX0_sizeOf o S (nI p) = some (nI (α 3 f p)) := by
  have h5 := hw.1
  unfold FX0_sizeOf FX0_sizeOf_J18
  rw [c_hasPlace hF hw hp]
  simp (disch := omega) only [Option.bind_some, kb, kA_nI, kin_t, kgd_t, hF.1.2.2.1 p hp]
  rw [if_neg (by decide)]
end FORM
