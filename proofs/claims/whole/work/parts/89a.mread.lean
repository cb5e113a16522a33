/-! reading: the reference -/
def MD (m : kO) (α : kα) (f : Nat) : Prop := (m.1 16 = nI (α 0 3 0) ∧ m.1 33 = nI (α 0 2 0)) ∧ ((∀ r, r < α 0 3 0 → m.2 17 r = nI (α 16 r 0)) ∧ (∀ r, r < α 0 3 0 → m.2 18 r = nI (α 17 r 0)) ∧ (∀ r, r < α 0 3 0 → m.2 19 r = nI (α 18 r 0)) ∧ (∀ r, r < α 0 3 0 → m.2 20 r = nI (α 19 r 0))) ∧ ((∀ r i, r < α 0 3 0 → i < α 19 r 0 → m.2 21 (4 * r + i) = nI (α 20 r i)) ∧ (∀ r i, r < α 0 3 0 → i < α 19 r 0 → m.2 22 (4 * r + i) = nI (α 21 r i))) ∧ (∀ i, i < α 0 2 0 → m.2 32 i = nI (α 25 i 0)) ∧ (∀ w, w < 64 → m.2 15 (64 * f + w) = if α 14 f w = 0 then -1 else nI (4 * (α 14 f w - 1) + α 15 f w))
theorem MD_of {m : kO} {α : kα} {f : Nat} (h : RM m α) (hf : f < α 0 0 0) : MD m α f := ⟨⟨h.2.1.1.1, h.1.2.2.1.1⟩, h.2.1.2.1, h.2.1.2.2.1, h.1.2.2.1.2, (h.2.2.2.2 f hf).2.2⟩
theorem div_4 : ∀ s, s < 20 → nI s / 4 = nI (s / 4) := by decide +kernel
section MR
variable {S : kS} {α : kα} {f : Nat}
theorem m_fgo (hD : MD (S 5) α f) (hG : wfG α f) {r a : Nat} (hr : r < α 0 3 0) (ha : a + α 19 r 0 ≤ α 0 2 0) : ∀ (k m i : Nat), i + k = α 19 r 0 → k < m → kfix (fun rec (q : Int32 × Int32 × Int32 × Int32) => FX6_fits_B30 rec S q.1 q.2.1 q.2.2.1 q.2.2.2) m (nI r, nI a, nI f, nI i) = some (b2 (fgo α f r a k i)) := by
  obtain ⟨⟨d1, d2⟩, ⟨d3, d4, d5, d6⟩, ⟨d7, d8⟩, d9, d10⟩ := hD
  obtain ⟨hI, hL, hw, hW, hf⟩ := hG
  obtain ⟨i1, i2, i3, i4, i5, i6, i7⟩ := hI.2 r hr
  have h20 := hI.1
  have h8 := hL.1
  have h5 := hw.1
  intro k
  induction k with
  | zero =>
    intro m i hk hm
    obtain ⟨m, rfl⟩ : ∃ m', m = m' + 1 := ⟨m - 1, by omega⟩
    rw [kfix_s]
    generalize kfix (fun rec (q : Int32 × Int32 × Int32 × Int32) => FX6_fits_B30 rec S q.1 q.2.1 q.2.2.1 q.2.2.2) m = Rk
    simp (disch := omega) only [FX6_fits_B30, kb, kin_t, kgd_t, kA_nI, d6 r hr, nI_l']
    rw [if_pos (by omega)]
    rfl
  | succ k ih =>
    intro m i hk hm
    obtain ⟨m, rfl⟩ : ∃ m', m = m' + 1 := ⟨m - 1, by omega⟩
    rw [kfix_s]
    have ihm := ih m (i + 1) (by omega) (by omega)
    clear ih
    generalize kfix (fun rec (q : Int32 × Int32 × Int32 × Int32) => FX6_fits_B30 rec S q.1 q.2.1 q.2.2.1 q.2.2.2) m = Rk at ihm ⊢
    have hi : i < α 19 r 0 := by omega
    have hli := d9 (a + i) (by omega)
    have hlw := hL.2 (a + i) (by omega)
    have h15 := d10 _ hlw
    obtain ⟨w14, w15⟩ := hW _ hlw
    obtain ⟨k2, y64, k1⟩ := i7 i hi
    have e1 : nI i + 1 = nI (i + 1) := by rw [li_1, nI_add]
    simp (disch := omega) only [FX6_fits_B30, FX6_fits_J100, FX6_fits_J130, FX6_fits_J132, kb, kin_t, kgd_t, li_4, li_64, nI_mul, nI_add, kA_nI, d6 r hr, d7 r i hr hi, d8 r i hr hi, hli, h15, nI_l', nI_z, nI_o, nI_e, e1]
    rw [if_neg (by omega), fgo_s]
    unfold itf
    generalize α 25 (a + i) 0 = w at *
    by_cases q0 : α 20 r i = 0
    · rw [if_pos q0, if_pos q0]
      by_cases e : α 21 r i = w
      · rw [if_pos e, if_neg (by omega), decide_eq_true e, if_pos rfl]
        exact ihm
      · rw [if_neg e, decide_eq_false e, if_neg (by decide)]
        rfl
    · rw [if_neg q0, if_neg q0]
      by_cases q1 : α 20 r i = 1
      · rw [if_pos q1, if_pos q1]
        by_cases z : α 14 f w = 0
        · rw [if_pos (by rw [if_pos z]), decide_eq_false (by omega), if_neg (by decide)]
          rfl
        · have h3 := w15 (by omega)
          have hz4 := (hw.2 (α 14 f w - 1) (by omega)).2.2.1
          rw [if_neg z, if_neg (by rw [nI_m1 (by omega)]; exact fun h => h), ← li_4, div_4 _ (by omega), show (4 * (α 14 f w - 1) + α 15 f w) / 4 = α 14 f w - 1 by omega]
          simp (disch := omega) only [nI_e]
          by_cases e : α 14 f w = α 21 r i + 1
          · rw [if_pos (by omega), decide_eq_true e, if_pos rfl]
            exact ihm
          · rw [if_neg (by omega), decide_eq_false e, if_neg (by decide)]
            rfl
      · rw [if_neg q1, if_neg q1, if_pos rfl]
        exact ihm
theorem m_fits (hD : MD (S 5) α f) (hG : wfG α f) (hN : α 0 0 0 ≤ 3) {r a : Nat} (hr : r < α 0 3 0) (ha : a ≤ 8) : FX6_fits S (nI r) (nI a) (nI f) = some (b2 (fit α f r a)) := by
  have hL : a + α 19 r 0 ≤ α 0 2 0 → FX6_fits_L30 S (nI r) (nI a) (nI f) 0 = some (b2 (fgo α f r a (α 19 r 0) 0)) := fun h => by
    have i6 := (hG.1.2 r hr).2.2.2.2.2.1
    unfold FX6_fits_L30
    rw [← nI_0]
    exact m_fgo hD hG hr h (α 19 r 0) kfuel 0 (by omega) (by unfold kfuel; omega)
  obtain ⟨⟨d1, d2⟩, ⟨d3, d4, d5, d6⟩, ⟨d7, d8⟩, d9, d10⟩ := hD
  obtain ⟨hI, hL8, hw, hW, hf⟩ := hG
  obtain ⟨i1, i2, i3, i4, i5, i6, i7⟩ := hI.2 r hr
  have h20 := hI.1
  have h8 := hL8.1
  unfold FX6_fits FX6_fits_J25 fit
  simp (disch := omega) only [kb, kin_t, kgd_t, kA_nI, d3 r hr, d6 r hr, kI_eq, d2, nI_e, nI_add, nI_l']
  by_cases h16 : α 16 r 0 = f
  · rw [if_pos h16]
    by_cases h : a + α 19 r 0 ≤ α 0 2 0
    · rw [if_pos h, if_pos ⟨h16, h⟩]
      exact hL h
    · rw [if_neg h, if_neg (fun q => h q.2)]
      rfl
  · rw [if_neg h16, if_neg (fun q => h16 q.1)]
    rfl
theorem m_isLeast (hD : MD (S 5) α f) (hG : wfG α f) (hN : α 0 0 0 ≤ 3) {τ : Nat → Nat → Nat} {r a m : Nat} (hr : r < α 0 3 0) (ha : a ≤ 8) (hT : ∀ i, a < i → i ≤ α 0 2 0 → (S 5).2 34 i = nI (τ 0 i) ∧ τ 0 i ≤ 100) (hm : (S 5).2 34 a = nI m) (bm : m ≤ 100) : FX6_isLeast S (nI r) (nI a) (nI f) = some (b2 (lst α f τ a m r)) := by
  have hF := m_fits hD hG hN hr ha
  obtain ⟨⟨d1, d2⟩, ⟨d3, d4, d5, d6⟩, ⟨d7, d8⟩, d9, d10⟩ := hD
  obtain ⟨i1, i2, i3, i4, i5, i6, i7⟩ := hG.1.2 r hr
  have h20 := hG.1.1
  have h8 := hG.2.1.1
  unfold FX6_isLeast FX6_isLeast_J43 FX6_isLeast_J44 lst
  rw [hF, Option.bind_some]
  cases hft : fit α f r a with
  | false =>
    rw [b2_0, if_pos rfl, kz_0, decide_eq_false (by simp)]
    rfl
  | true =>
    have f2 := (fit_d hft).2.1
    obtain ⟨t1, t2⟩ := hT (a + α 19 r 0) (by omega) f2
    rw [b2_1, if_neg (by decide)]
    simp (disch := omega) only [kb, kin_t, kgd_t, kA_nI, d4 r hr, d6 r hr, nI_add, t1, hm, nI_e]
    by_cases e : α 17 r 0 + τ 0 (a + α 19 r 0) = m
    · rw [if_pos e, kz_1, decide_eq_true ⟨trivial, e⟩]
      rfl
    · rw [if_neg e, kz_0, decide_eq_false (fun h => e h.2)]
      rfl
theorem m_mayPass {τ : Nat → Nat → Nat} {a m : Nat} (ha : a < 8) (h1 : (S 5).2 34 (a + 1) = nI (τ 0 (a + 1))) (b1 : τ 0 (a + 1) ≤ 100) (hm : (S 5).2 34 a = nI m) (bm : m ≤ 100) : FX6_mayPass S (nI a) = some (b2 (decide (6 + τ 0 (a + 1) = m))) := by
  unfold FX6_mayPass FX6_mayPass_J25
  have e1 : nI a + 1 = nI (a + 1) := by rw [li_1, nI_add]
  simp (disch := omega) only [e1, kb, kin_t, kgd_t, kA_nI, h1, hm, li_6, nI_add, nI_e]
  by_cases e : 6 + τ 0 (a + 1) = m
  · rw [if_pos (by omega), kz_1, decide_eq_true e]
    rfl
  · rw [if_neg (by omega), kz_0, decide_eq_false e]
    rfl
end MR
