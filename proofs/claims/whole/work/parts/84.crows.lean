/-! reading: the class's rows -/
def wfG (α : kα) (f : Nat) : Prop := wfI α ∧ wfL α ∧ wfP α f ∧ wfW α f ∧ f < 3
def CD (S : kS) (α : kα) (f : Nat) : Prop := RR (S 1) α ∧ RF (S (6 + f)) α f ∧ (S 2).1 1 = nI (α 0 2 0) ∧ ∀ i, i < α 0 2 0 → (S 2).2 0 i = nI (α 25 i 0)
theorem nI_o {a : Nat} (h : a < 2147483648) : (nI a = 1) = (a = 1) := by rw [li_1, nI_e h (by omega)]
theorem nI_m (i : Nat) : nI i + -1 = nO i := (Int32.sub_eq_add_neg (nI i) 1).symm
theorem kmin_n {x y : Nat} (hx : x < 2147483648) (hy : y < 2147483648) : kmin (nI x) (nI y) = nI (min x y) := by
  unfold kmin
  simp only [nI_t' hy hx]
  by_cases h : y < x
  · rw [if_pos h, Nat.min_eq_right (by omega)]
  · rw [if_neg h, Nat.min_eq_left (by omega)]
theorem kmax_n {x y : Nat} (hx : x < 2147483648) (hy : y < 2147483648) : kmax (nI x) (nI y) = nI (max x y) := by
  unfold kmax
  simp only [nI_t' hx hy]
  by_cases h : x < y
  · rw [if_pos h, Nat.max_eq_right (by omega)]
  · rw [if_neg h, Nat.max_eq_left (by omega)]
section CR
variable {S : kS} {α : kα} {f o : Nat}
theorem c_isRow (hR : RR (S 1) α) (hI : wfI α) {r : Nat} (hr : r < α 0 3 0) : FX4_isRow S (nI r) = some 1 := by
  have h20 := hI.1
  unfold FX4_isRow FX4_isRow_J22 FX4_isRow_J23
  simp (disch := omega) only [kb, kI_eq, hR.1.1, nI_neg, if_false, li_20, nI_l']
  rw [if_neg (by omega), if_neg (by omega), kz_1]
  rfl
theorem c_rowCount (hR : RR (S 1) α) : FX4_rowCount S = some (nI (α 0 3 0)) := by
  unfold FX4_rowCount
  simp only [kb, kI_eq, hR.1.1]
theorem c_lengthOf (hR : RR (S 1) α) (hI : wfI α) {r : Nat} (hr : r < α 0 3 0) : FX4_lengthOf S (nI r) = some (nI (α 19 r 0)) := by
  have h20 := hI.1
  unfold FX4_lengthOf FX4_lengthOf_J18
  rw [c_isRow hR hI hr]
  simp (disch := omega) only [Option.bind_some, o_ne, if_false, kb, kA_nI, kin_t, kgd_t, hR.2.1.2.2.2 r hr]
theorem c_costOf (hR : RR (S 1) α) (hI : wfI α) {r : Nat} (hr : r < α 0 3 0) : FX4_costOf S (nI r) = some (nI (α 17 r 0)) := by
  have h20 := hI.1
  unfold FX4_costOf FX4_costOf_J18
  rw [c_isRow hR hI hr]
  simp (disch := omega) only [Option.bind_some, o_ne, if_false, kb, kA_nI, kin_t, kgd_t, hR.2.1.2.1 r hr]
theorem c_actOf (hR : RR (S 1) α) (hI : wfI α) {r : Nat} (hr : r < α 0 3 0) : FX4_actOf S (nI r) = some (nI (α 18 r 0)) := by
  have h20 := hI.1
  unfold FX4_actOf FX4_actOf_J18
  rw [c_isRow hR hI hr]
  simp (disch := omega) only [Option.bind_some, o_ne, if_false, kb, kA_nI, kin_t, kgd_t, hR.2.1.2.2.1 r hr]
theorem c_isOfForm (hR : RR (S 1) α) (hI : wfI α) (hN : α 0 0 0 ≤ 3) (hf : f < 3) {r : Nat} (hr : r < α 0 3 0) : FX4_isOfForm S (nI r) (nI f) = some (b2 (decide (α 16 r 0 = f))) := by
  have h20 := hI.1
  have h16 := (hI.2 r hr).1
  unfold FX4_isOfForm FX4_isOfForm_J22 FX4_isOfForm_J23
  rw [c_isRow hR hI hr]
  simp (disch := omega) only [Option.bind_some, o_ne, if_false, kb, kA_nI, kin_t, kgd_t, hR.2.1.1 r hr, nI_e]
  by_cases h : α 16 r 0 = f
  · rw [if_pos h, kz_1, decide_eq_true h]; rfl
  · rw [if_neg h, kz_0, decide_eq_false h]; rfl
theorem c_isItemOf (hR : RR (S 1) α) (hI : wfI α) {r i : Nat} (hr : r < α 0 3 0) (hi : i < α 19 r 0) : FX4_isItemOf S (nI r) (nI i) = some 1 := by
  have h20 := hI.1
  have h4 := (hI.2 r hr).2.2.2.2.2.1
  unfold FX4_isItemOf FX4_isItemOf_J26 FX4_isItemOf_J27
  rw [c_isRow hR hI hr]
  simp (disch := omega) only [Option.bind_some, o_ne, if_false, kb, kA_nI, kin_t, kgd_t, hR.2.1.2.2.2 r hr, nI_neg, nI_l']
  rw [if_neg (by omega), kz_1]
  rfl
theorem c_kindOfItem (hR : RR (S 1) α) (hI : wfI α) {r i : Nat} (hr : r < α 0 3 0) (hi : i < α 19 r 0) : FX4_kindOfItem S (nI r) (nI i) = some (nI (α 20 r i)) := by
  have h20 := hI.1
  have h4 := (hI.2 r hr).2.2.2.2.2.1
  have e : r * 4 + i = 4 * r + i := by omega
  unfold FX4_kindOfItem FX4_kindOfItem_J23
  rw [c_isItemOf hR hI hr hi]
  simp (disch := omega) only [Option.bind_some, o_ne, if_false, kb, li_4, nI_mul, nI_add, e, kA_nI, kin_t, kgd_t, hR.2.2.1.1 r i hr hi]
theorem c_keyOfItem (hR : RR (S 1) α) (hI : wfI α) {r i : Nat} (hr : r < α 0 3 0) (hi : i < α 19 r 0) : FX4_keyOfItem S (nI r) (nI i) = some (nI (α 21 r i)) := by
  have h20 := hI.1
  have h4 := (hI.2 r hr).2.2.2.2.2.1
  have e : r * 4 + i = 4 * r + i := by omega
  unfold FX4_keyOfItem FX4_keyOfItem_J23
  rw [c_isItemOf hR hI hr hi]
  simp (disch := omega) only [Option.bind_some, o_ne, if_false, kb, li_4, nI_mul, nI_add, e, kA_nI, kin_t, kgd_t, hR.2.2.1.2 r i hr hi]
theorem c_placeSaidBy (hF : RF (S o) α f) {w : Nat} (hw : w < 64) : FX0_placeSaidBy o S (nI w) = some (nO (α 14 f w)) := by
  unfold FX0_placeSaidBy FX0_placeSaidBy_J17
  rw [c_isWord S hw]
  simp (disch := omega) only [Option.bind_some, o_ne, if_false, kb, kA_nI, kin_t, kgd_t, hF.2.2.2.1 w hw]
theorem c_valueSaidBy (hF : RF (S o) α f) {w : Nat} (hw : w < 64) (h0 : 0 < α 14 f w) : FX0_valueSaidBy o S (nI w) = some (nI (α 15 f w)) := by
  unfold FX0_valueSaidBy FX0_valueSaidBy_J17
  rw [c_isWord S hw]
  simp (disch := omega) only [Option.bind_some, o_ne, if_false, kb, kA_nI, kin_t, kgd_t, hF.2.2.2.2 w hw h0]
theorem c_itemFits (hF : RF (S o) α f) {r i w : Nat} (hk : α 20 r i ≤ 2) (hy : α 21 r i < 64) (hw : w < 64) (h14 : α 14 f w < 2147483648) : FX3_itemFits o S (nI (α 20 r i)) (nI (α 21 r i)) (nI w) = some (b2 (itf α f r i w)) := by
  unfold FX3_itemFits FX3_itemFits_J38 FX3_itemFits_J53 itf
  rw [c_placeSaidBy hF hw]
  generalize α 20 r i = k at *
  generalize α 21 r i = y at *
  have h3 : k = 0 ∨ k = 1 ∨ k = 2 := by omega
  rcases h3 with rfl | rfl | rfl
  · rw [nI_0, if_pos rfl, if_pos rfl]
    simp (disch := omega) only [nI_e]
    by_cases h : w = y
    · rw [if_pos h, kz_1, decide_eq_true h.symm]; rfl
    · rw [if_neg h, kz_0, decide_eq_false (fun e => h e.symm)]; rfl
  · rw [← li_1, if_neg (by decide), if_pos rfl, if_neg (by decide), if_pos rfl, Option.bind_some]
    simp (disch := omega) only [nO_e]
    by_cases h : α 14 f w = y + 1
    · rw [if_pos h, kz_1, decide_eq_true h]; rfl
    · rw [if_neg h, kz_0, decide_eq_false h]; rfl
  · rw [← li_2, if_neg (by decide), if_neg (by decide), if_pos rfl, if_neg (by decide), if_neg (by decide)]
    rfl
theorem c_fgo (hD : CD S α f) (hG : wfG α f) {r a : Nat} (hr : r < α 0 3 0) (ha : a + α 19 r 0 ≤ α 0 2 0) : ∀ (k m i : Nat), i + k = α 19 r 0 → k < m → kfix (fun rec (q : Int32 × Int32 × Int32 × Int32) => FX3_fits_B29 (6 + f) rec S q.1 q.2.1 q.2.2.1 q.2.2.2) m (nI r, nI a, nI (α 19 r 0), nI i) = some (b2 (fgo α f r a k i)) := by
  obtain ⟨hR, hF, hl, hln⟩ := hD
  obtain ⟨hI, hL, hw, hW, hf⟩ := hG
  obtain ⟨i1, i2, i3, i4, i5, i6, i7⟩ := hI.2 r hr
  have h8 := hL.1
  have h5 := hw.1
  intro k
  induction k with
  | zero =>
    intro m i hk hm
    obtain ⟨m, rfl⟩ : ∃ m', m = m' + 1 := ⟨m - 1, by omega⟩
    rw [kfix_s]
    generalize kfix (fun rec (q : Int32 × Int32 × Int32 × Int32) => FX3_fits_B29 (6 + f) rec S q.1 q.2.1 q.2.2.1 q.2.2.2) m = Rk
    simp (disch := omega) only [FX3_fits_B29, nI_l']
    rw [if_pos (by omega)]
    rfl
  | succ k ih =>
    intro m i hk hm
    obtain ⟨m, rfl⟩ : ∃ m', m = m' + 1 := ⟨m - 1, by omega⟩
    rw [kfix_s]
    have ihm := ih m (i + 1) (by omega) (by omega)
    clear ih
    generalize kfix (fun rec (q : Int32 × Int32 × Int32 × Int32) => FX3_fits_B29 (6 + f) rec S q.1 q.2.1 q.2.2.1 q.2.2.2) m = Rk at ihm ⊢
    have hi : i < α 19 r 0 := by omega
    have hli := hln (a + i) (by omega)
    have hlw := hL.2 (a + i) (by omega)
    have h14 := (hW _ hlw).1
    have cI := c_itemFits (S := S) (o := 6 + f) hF (r := r) (i := i) (i7 i hi).1 (i7 i hi).2.1 hlw (by omega)
    simp (disch := omega) only [FX3_fits_B29, nI_l', c_kindOfItem hR hI hr hi, c_keyOfItem hR hI hr hi, Option.bind_some, nI_add, kin_t, kgd_t, kb, kA_nI, hli, cI]
    rw [if_neg (by omega), fgo_s]
    cases q : itf α f r i (α 25 (a + i) 0) with
    | true =>
      rw [b2_1, if_neg (by decide), if_pos rfl, li_1, nI_add]
      exact ihm
    | false =>
      rw [b2_0, if_pos rfl, if_neg (by decide)]
      rfl
theorem c_fits (hD : CD S α f) (hG : wfG α f) {r a : Nat} (hr : r < α 0 3 0) (h16 : α 16 r 0 = f) (ha : a < 8) : FX3_fits (6 + f) S (nI r) (nI a) = some (b2 (fit α f r a)) := by
  obtain ⟨i1, i2, i3, i4, i5, i6, i7⟩ := hG.1.2 r hr
  have h8 := hG.2.1.1
  unfold FX3_fits FX3_fits_J24 FX3_fits_L29 fit
  rw [c_lengthOf hD.1 hG.1 hr]
  simp (disch := omega) only [Option.bind_some, kb, kI_eq, hD.2.2.1, nI_lz, nI_add, nI_l']
  rw [if_neg (by omega)]
  by_cases h : a + α 19 r 0 ≤ α 0 2 0
  · rw [if_pos h, if_pos ⟨h16, h⟩, ← nI_0]
    exact c_fgo hD hG hr h (α 19 r 0) kfuel 0 (by omega) (by unfold kfuel; omega)
  · rw [if_neg h, if_neg (fun q => h q.2)]
    rfl
theorem c_ownL (hD : CD S α f) (hG : wfG α f) {r a p : Nat} (hr : r < α 0 3 0) (hp : p < 5) (hft : fit α f r a = true) : ∀ (i m : Nat), i ≤ α 19 r 0 → i < m → kfix (fun rec (q : Int32 × Int32 × Int32 × Int32) => FX3_fillingByRow_B9 (6 + f) rec S q.1 q.2.1 q.2.2.1 q.2.2.2) m (nI r, nI a, nI p, nO i) = some (nI (ow α f r a p i)) := by
  obtain ⟨hR, hF, hl, hln⟩ := hD
  obtain ⟨hI, hL, hw, hW, hf⟩ := hG
  obtain ⟨i1, i2, i3, i4, i5, i6, i7⟩ := hI.2 r hr
  obtain ⟨f1, f2, f3⟩ := fit_d hft
  have h8 := hL.1
  have h5 := hw.1
  intro i
  induction i with
  | zero =>
    intro m hk hm
    obtain ⟨m, rfl⟩ : ∃ m', m = m' + 1 := ⟨m - 1, by omega⟩
    rw [kfix_s]
    generalize kfix (fun rec (q : Int32 × Int32 × Int32 × Int32) => FX3_fillingByRow_B9 (6 + f) rec S q.1 q.2.1 q.2.2.1 q.2.2.2) m = Rk
    simp only [FX3_fillingByRow_B9, nO_0]
    rw [if_pos (by decide), li_16, ow_0]
  | succ i ih =>
    intro m hk hm
    obtain ⟨m, rfl⟩ : ∃ m', m = m' + 1 := ⟨m - 1, by omega⟩
    rw [kfix_s]
    have ihm := ih m (by omega) (by omega)
    clear ih
    generalize kfix (fun rec (q : Int32 × Int32 × Int32 × Int32) => FX3_fillingByRow_B9 (6 + f) rec S q.1 q.2.1 q.2.2.1 q.2.2.2) m = Rk at ihm ⊢
    have hi : i < α 19 r 0 := by omega
    have hli := hln (a + i) (by omega)
    have hlw := hL.2 (a + i) (by omega)
    have h14 := (hW _ hlw).1
    obtain ⟨k2, y64, k1⟩ := i7 i hi
    simp (disch := omega) only [FX3_fillingByRow_B9, FX3_fillingByRow_J54, nO_s, nI_neg, if_false, c_kindOfItem hR hI hr hi, c_keyOfItem hR hI hr hi, Option.bind_some, nI_o, nI_e, nI_add, kin_t, kgd_t, kb, kA_nI, hli, nI_m]
    rw [ow_s]
    by_cases q1 : α 20 r i = 1
    · rw [if_pos q1]
      by_cases q2 : α 21 r i = p
      · have g14 := it_1 (f3 i hi) q1
        have hv := (hW _ hlw).2 (by omega)
        rw [g14, Nat.add_sub_cancel] at hv
        rw [f1] at k1
        have h4 := (hw.2 _ (k1 q1).1).2.2.1
        rw [if_pos q2, if_pos ⟨q1, q2⟩, c_valueSaidBy hF hlw (by omega), Option.bind_some, sh_1 _ (by omega)]
      · rw [if_neg q2, if_neg (fun h => q2 h.2)]
        exact ihm
    · rw [if_neg q1, if_neg (fun h => q1 h.1)]
      exact ihm
theorem c_own (hD : CD S α f) (hG : wfG α f) {r a p : Nat} (hr : r < α 0 3 0) (hp : p < 5) (hft : fit α f r a = true) : FX3_fillingByRow (6 + f) S (nI r) (nI a) (nI p) = some (nI (ow α f r a p (α 19 r 0))) := by
  have i6 := (hG.1.2 r hr).2.2.2.2.2.1
  unfold FX3_fillingByRow FX3_fillingByRow_L9
  rw [c_lengthOf hD.1 hG.1 hr, Option.bind_some, sub1]
  exact c_ownL hD hG hr hp hft (α 19 r 0) kfuel (by omega) (by unfold kfuel; omega)
end CR
