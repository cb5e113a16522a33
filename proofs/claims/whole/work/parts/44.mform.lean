/-! the reference's reads -/
theorem sub1 (n : Nat) : nI n - 1 = nO n := rfl
theorem nO_t {n : Nat} {x : Int32} (h : n < 2147483648) (hx : nI n ≤ x) : nO n < x := by
  have h1 : (nO n).toInt = (n : Int) - 1 := by
    by_cases h0 : n = 0
    · subst h0; decide +kernel
    · rw [nO_31 h h0, nI_toInt (by omega)]
      omega
  rw [Int32.lt_iff_toInt_lt, h1]
  rw [Int32.le_iff_toInt_le, nI_toInt h] at hx
  omega
theorem nO_tI {n i : Nat} (h : n < 2147483648) (hi : i < 2147483648) : (nO n < nI i) = (n ≤ i) := by
  by_cases h0 : n = 0
  · subst h0
    rw [nO_0, m1_t hi]
    simp
  · rw [nO_31 h h0, nI_t' (by omega) hi]
    apply propext
    omega
section MOD
variable {S : kS} {α : kα} {f n : Nat}
theorem m_in (S : kS) (x l h : Int32) : FX6_in S x l h = some (if x < l then 0 else if h < x then 0 else 1) := by
  unfold FX6_in FX6_in_J14 FX6_in_J15
  by_cases h1 : x < l
  · rw [if_pos h1, if_pos h1]; rfl
  · rw [if_neg h1, if_neg h1]
    by_cases h2 : h < x
    · rw [if_pos h2, if_pos h2]; rfl
    · rw [if_neg h2, if_neg h2]; rfl
theorem m_inT (S : kS) {i n : Nat} (h : i < n) (hn : n < 2147483648) : FX6_in S (nI i) 0 (nO n) = some 1 := by
  rw [m_in, if_neg (nI_pos (by omega)), if_neg (by rw [nO_tI hn (by omega)]; omega)]
theorem m_inF (S : kS) {x : Int32} {n : Nat} (h : x < 0 ∨ nI n ≤ x) (hn : n < 2147483648) : FX6_in S x 0 (nO n) = some 0 := by
  rw [m_in]
  by_cases h1 : x < 0
  · rw [if_pos h1]
  · rw [if_neg h1, if_pos (nO_t hn (h.resolve_left h1))]
theorem m_isForm (hn : (S 5).1 1 = nI n) (h3 : n ≤ 3) {i : Nat} (hi : i < n) : FX6_isForm S (nI i) = some 1 := by
  unfold FX6_isForm
  simp only [kb, kI_eq, hn, sub1]
  rw [m_inT S hi (by omega)]
  rfl
theorem m_isFormN (hn : (S 5).1 1 = nI n) (h3 : n ≤ 3) {x : Int32} (hx : x < 0 ∨ nI n ≤ x) : FX6_isForm S x = some 0 := by
  unfold FX6_isForm
  simp only [kb, kI_eq, hn, sub1]
  rw [m_inF S hx (by omega)]
  rfl
theorem m_isPlace (hn : (S 5).1 1 = nI n) (h3 : n ≤ 3) (hS : MS (S 5) α) (hw : wfP α f) (hf : f < n) {p : Nat} (hp : p < α 1 f 0) : FX6_isPlace S (nI f) (nI p) = some 1 := by
  have h5 := hw.1
  unfold FX6_isPlace FX6_isPlace_J28 FX6_isPlace_J29
  rw [m_isForm hn h3 hf]
  simp (disch := omega) only [Option.bind_some, kb, kA_nI, kin_t, kgd_t, hS.1 f (by omega), sub1, m_inT S hp]
  rfl
theorem m_isPlaceF (hn : (S 5).1 1 = nI n) (h3 : n ≤ 3) {x y : Int32} (hx : x < 0 ∨ nI n ≤ x) : FX6_isPlace S x y = some 0 := by
  unfold FX6_isPlace FX6_isPlace_J28 FX6_isPlace_J29
  rw [m_isFormN hn h3 hx]
  rfl
theorem m_isPlaceP (hn : (S 5).1 1 = nI n) (h3 : n ≤ 3) (hS : MS (S 5) α) (hw : wfP α f) (hf : f < n) {y : Int32} (hy : y < 0 ∨ nI (α 1 f 0) ≤ y) : FX6_isPlace S (nI f) y = some 0 := by
  have h5 := hw.1
  unfold FX6_isPlace FX6_isPlace_J28 FX6_isPlace_J29
  rw [m_isForm hn h3 hf]
  simp (disch := omega) only [Option.bind_some, kb, kA_nI, kin_t, kgd_t, hS.1 f (by omega), sub1, m_inF S hy]
  rfl
theorem m_isValue (hn : (S 5).1 1 = nI n) (h3 : n ≤ 3) (hS : MS (S 5) α) (hM : MF (S 5) α f) (hw : wfP α f) (hf : f < n) {p v : Nat} (hp : p < α 1 f 0) (hv : v < α 3 f p) : FX6_isValue S (nI f) (nI p) (nI v) = some 1 := by
  have h5 := hw.1
  have h2 := hw.2 p hp
  unfold FX6_isValue FX6_isValue_J33 FX6_isValue_J34
  rw [m_isPlace hn h3 hS hw hf hp]
  simp (disch := omega) only [Option.bind_some, kb, li_5, nI_mul, nI_add, kA_nI, kin_t, kgd_t, hM.1.2.1 p hp, sub1, m_inT S hv]
  rfl
theorem m_isValueF (hn : (S 5).1 1 = nI n) (h3 : n ≤ 3) {x y z : Int32} (hx : x < 0 ∨ nI n ≤ x) : FX6_isValue S x y z = some 0 := by
  unfold FX6_isValue FX6_isValue_J33 FX6_isValue_J34
  rw [m_isPlaceF hn h3 hx]
  rfl
theorem m_isValueP (hn : (S 5).1 1 = nI n) (h3 : n ≤ 3) (hS : MS (S 5) α) (hw : wfP α f) (hf : f < n) {y z : Int32} (hy : y < 0 ∨ nI (α 1 f 0) ≤ y) : FX6_isValue S (nI f) y z = some 0 := by
  unfold FX6_isValue FX6_isValue_J33 FX6_isValue_J34
  rw [m_isPlaceP hn h3 hS hw hf hy]
  rfl
theorem m_isValueV (hn : (S 5).1 1 = nI n) (h3 : n ≤ 3) (hS : MS (S 5) α) (hM : MF (S 5) α f) (hw : wfP α f) (hf : f < n) {p : Nat} {z : Int32} (hp : p < α 1 f 0) (hz : z < 0 ∨ nI (α 3 f p) ≤ z) : FX6_isValue S (nI f) (nI p) z = some 0 := by
  have h5 := hw.1
  have h2 := hw.2 p hp
  unfold FX6_isValue FX6_isValue_J33 FX6_isValue_J34
  rw [m_isPlace hn h3 hS hw hf hp]
  simp (disch := omega) only [Option.bind_some, kb, li_5, nI_mul, nI_add, kA_nI, kin_t, kgd_t, hM.1.2.1 p hp, sub1, m_inF S hz]
  rfl
theorem if01 {c : Prop} [Decidable c] : ((if c then (0 : Int32) else 1) = 0) = c := by
  by_cases h : c
  · simp [h]
  · simp [h]
theorem m_valueOf (hS : MS (S 5) α) (hM : MF (S 5) α f) (hw : wfP α f) (hs : wfS α f) (hf : f < 3) {p : Nat} (hp : p < α 1 f 0) : FX6_valueOf S (nI (5 * f + p)) = some (nO (sv α f p)) := by
  have h5 := hw.1
  have h3 := hw.2 p hp
  unfold FX6_valueOf FX6_valueOf_J94 FX6_valueOf_J95 FX6_valueOf_J32
  simp (disch := omega) only [kb, kA_nI, kin_t, kgd_t, hM.1.1 p hp, ↓m1_eq, li_1, nI_e]
  unfold sv
  by_cases hk : α 2 f p = 1
  · rw [if_pos hk, if_pos hk]
    obtain ⟨ha, hb, hka, hkb⟩ := h3.2.2.2 hk
    have sa := wf_su hw hs (p := α 4 f p) (by omega)
    have sb := wf_su hw hs (p := α 5 f p) (by omega)
    simp (disch := omega) only [hM.1.2.2.1 p hp hk, hM.1.2.2.2 p hp hk, hM.1.2.1 p hp, kA_nI, kin_t, kgd_t, hS.2.2.2 f _ hf, hS.2.2.1 f _ hf, if01]
    by_cases h1 : α 7 f (α 4 f p) = 0
    · rw [if_pos h1, if_pos (Or.inl h1)]
    · rw [if_neg h1]
      by_cases h2 : α 7 f (α 5 f p) = 0
      · rw [if_pos h2, if_pos (Or.inr h2)]
      · have e1 := sa.2.2 (by omega)
        have e2 := sb.2.2 (by omega)
        have p1 := Nat.two_pow_pos (α 7 f (α 4 f p) - 1)
        have p2 := Nat.two_pow_pos (α 7 f (α 5 f p) - 1)
        rw [if_neg h2, if_neg (by omega), m_lowest S sa.2.1 (by omega), e1, low_pow _ (by omega)]
        simp only [Option.bind_some]
        rw [m_lowest S sb.2.1 (by omega), e2, low_pow _ (by omega)]
        simp only [Option.bind_some]
        rw [nI_add, nI_rem (by omega) (by omega), nO_s]
        have : knz (nI (α 3 f p)) = true := by
          unfold knz
          apply decide_eq_true
          exact nI_ne0 (by omega) (by omega)
        rw [this]
        rfl
  · rw [if_neg hk, if_neg hk]
    have sa := wf_su hw hs (p := p) (by omega)
    simp (disch := omega) only [kA_nI, kin_t, kgd_t, hS.2.2.2 f _ hf, hS.2.2.1 f _ hf, if01]
    by_cases h1 : α 7 f p = 0
    · rw [if_pos h1, h1]
    · have e1 := sa.2.2 (by omega)
      have p1 := Nat.two_pow_pos (α 7 f p - 1)
      rw [if_neg h1, m_lowest S sa.2.1 (by omega), e1, low_pow _ (by omega), nO_31 (by omega) h1]
      rfl
theorem b2_0 : b2 false = 0 := rfl
theorem b2_1 : b2 true = 1 := rfl
theorem m_wgo (hS : MS (S 5) α) (hM : MF (S 5) α f) (hw : wfP α f) (hs : wfS α f) (hr : wfR α f) (hf : f < 3) {p : Nat} (hp : p < α 1 f 0) : ∀ (k m r : Nat) (free : Bool), r + k = α 8 f 0 → k < m → kfix (fun rec (q : Int32 × Int32 × Int32 × Int32) => FX6_isWanted_B15 rec S q.1 q.2.1 q.2.2.1 q.2.2.2) m (nI f, nI (5 * f + p), b2 (!free), nI (6 * f + r)) = some (b2 (decide (α 2 f p ≠ 1) && wgo α f p k r free)) := by
  have h6 := hr.1
  have h5 := hw.1
  have h2 := hw.2 p hp
  intro k
  induction k with
  | zero =>
    intro m r free hk hm
    obtain ⟨m, rfl⟩ : ∃ m', m = m' + 1 := ⟨m - 1, by omega⟩
    rw [kfix_s]
    generalize kfix (fun rec (q : Int32 × Int32 × Int32 × Int32) => FX6_isWanted_B15 rec S q.1 q.2.1 q.2.2.1 q.2.2.2) m = Rk
    simp (disch := omega) only [FX6_isWanted_B15, FX6_isWanted_J106, FX6_isWanted_J107, kb, kA_nI, kin_t, kgd_t, hS.2.1 f hf, li_6, li_1, nI_mul, nI_add, nI_l', hM.1.1 p hp, nI_e]
    rw [if_pos (by omega)]
    unfold wgo
    cases free with
    | false =>
      rw [if_neg (by decide), Bool.and_false]
      rfl
    | true =>
      rw [if_pos (by decide), Bool.and_true]
      by_cases hk : α 2 f p = 1
      · rw [if_pos hk]; simp [hk, b2]; rfl
      · rw [if_neg hk]; simp [hk, b2]; rfl
  | succ k ih =>
    intro m r free hk hm
    obtain ⟨m, rfl⟩ : ∃ m', m = m' + 1 := ⟨m - 1, by omega⟩
    have hlt : r < α 8 f 0 := by omega
    obtain ⟨r1, r2, r3, r4, r5, r6⟩ := hr.2 r hlt
    have h4 := (hw.2 _ r2).2.2.1
    have hsv := sv_le hw hs r2
    rw [kfix_s]
    have ihm := fun free => ih m (r + 1) free (by omega) (by omega)
    clear ih
    generalize kfix (fun rec (q : Int32 × Int32 × Int32 × Int32) => FX6_isWanted_B15 rec S q.1 q.2.1 q.2.2.1 q.2.2.2) m = Rk at ihm ⊢
    simp (disch := omega) only [FX6_isWanted_B15, FX6_isWanted_J81, kb, kA_nI, kin_t, kgd_t, hS.2.1 f hf, li_6, li_1, nI_mul, nI_add, nI_l', nI_e, nI_z, hM.2.1.1 r hlt, hM.2.1.2.1 r hlt, hM.2.1.2.2.1 r hlt, hM.2.1.2.2.2.1 r hlt, m_valueOf hS hM hw hs hf r2, Option.bind_some, nO_e]
    rw [if_neg (by omega)]
    unfold wgo
    by_cases h9 : α 9 f r = 1
    · rw [if_pos (by omega)]
      by_cases h12 : α 12 f r = p
      · rw [if_pos (by omega), if_pos (show α 9 f r = 1 ∧ α 12 f r = p from ⟨h9, h12⟩)]
        by_cases hq : sv α f (α 10 f r) = α 11 f r + 1
        · have hkd := r6 h9
          rw [h12] at hkd
          rw [if_pos hq, if_pos hq, ← li_1]
          simp [hkd, b2]
        · rw [if_neg hq, if_neg hq]
          exact ihm false
      · rw [if_neg (by omega), if_neg (fun h => h12 h.2)]
        exact ihm free
    · rw [if_neg (by omega), if_neg (fun h => h9 h.1)]
      exact ihm free
theorem m_isWanted (hS : MS (S 5) α) (hM : MF (S 5) α f) (hw : wfP α f) (hs : wfS α f) (hr : wfR α f) (hf : f < 3) {p : Nat} (hp : p < α 1 f 0) : FX6_isWanted S (nI f) (nI p) = some (b2 (wanted α f p)) := by
  have h6 := hr.1
  have h5 := hw.1
  unfold FX6_isWanted FX6_isWanted_L15 wanted
  have := m_wgo hS hM hw hs hr hf hp (α 8 f 0) kfuel 0 true (by omega) (by unfold kfuel; omega)
  rw [li_5, li_6, nI_mul, nI_mul, nI_add]
  exact this
theorem m_bgo (hS : MS (S 5) α) (hM : MF (S 5) α f) (hw : wfP α f) (hs : wfS α f) (hr : wfR α f) (hf : f < 3) : ∀ (k m r : Nat), r + k = α 8 f 0 → k < m → kfix (fun rec (q : Int32 × Int32) => FX6_broken_B5 rec S q.1 q.2) m (nI f, nI (6 * f + r)) = some (nO (bgo α f k r)) := by
  have h6 := hr.1
  have h5 := hw.1
  intro k
  induction k with
  | zero =>
    intro m r hk hm
    obtain ⟨m, rfl⟩ : ∃ m', m = m' + 1 := ⟨m - 1, by omega⟩
    rw [kfix_s]
    generalize kfix (fun rec (q : Int32 × Int32) => FX6_broken_B5 rec S q.1 q.2) m = Rk
    simp (disch := omega) only [FX6_broken_B5, kb, kA_nI, kin_t, kgd_t, hS.2.1 f hf, li_6, nI_mul, nI_add, nI_l']
    rw [if_pos (by omega)]
    unfold bgo
    rw [nO_0]
  | succ k ih =>
    intro m r hk hm
    obtain ⟨m, rfl⟩ : ∃ m', m = m' + 1 := ⟨m - 1, by omega⟩
    have hlt : r < α 8 f 0 := by omega
    obtain ⟨r1, r2, r3, r4, r5, r6⟩ := hr.2 r hlt
    have h4 := (hw.2 _ r2).2.2.1
    have hsv := sv_le hw hs r2
    have hsv3 := sv_le hw hs r3
    rw [kfix_s]
    have ihm := ih m (r + 1) (by omega) (by omega)
    clear ih
    generalize kfix (fun rec (q : Int32 × Int32) => FX6_broken_B5 rec S q.1 q.2) m = Rk at ihm ⊢
    simp (disch := omega) only [FX6_broken_B5, FX6_broken_J74, kb, kA_nI, kin_t, kgd_t, hS.2.1 f hf, ↓m1_eq, li_6, li_1, nI_mul, nI_add, nI_l', nI_e, nI_z, hM.2.1.1 r hlt, hM.2.1.2.1 r hlt, hM.2.1.2.2.1 r hlt, hM.2.1.2.2.2.1 r hlt, hM.2.1.2.2.2.2 r hlt, m_valueOf hS hM hw hs hf r2, m_valueOf hS hM hw hs hf r3, Option.bind_some, nO_e]
    rw [if_neg (by omega)]
    unfold bgo
    by_cases h9 : α 9 f r = 0
    · rw [if_neg (by omega)]
      by_cases hq : sv α f (α 10 f r) = α 11 f r + 1
      · rw [if_pos hq]
        by_cases hq2 : sv α f (α 12 f r) = α 13 f r + 1
        · rw [if_pos hq2, if_pos (show α 9 f r = 0 ∧ sv α f (α 10 f r) = α 11 f r + 1 ∧ sv α f (α 12 f r) = α 13 f r + 1 from ⟨h9, hq, hq2⟩), nO_s, nI_sub (by omega)]
          congr 2
          omega
        · rw [if_neg hq2, if_neg (fun h => hq2 h.2.2)]
          exact ihm
      · rw [if_neg hq, if_neg (fun h => hq h.2.1)]
        exact ihm
    · rw [if_pos (by omega), if_neg (fun h => h9 h.1)]
      exact ihm
theorem m_broken (hS : MS (S 5) α) (hM : MF (S 5) α f) (hw : wfP α f) (hs : wfS α f) (hr : wfR α f) (hf : f < 3) : FX6_broken S (nI f) = some (nO (broken α f)) := by
  have h6 := hr.1
  unfold FX6_broken FX6_broken_L5 broken
  have := m_bgo hS hM hw hs hr hf (α 8 f 0) kfuel 0 (by omega) (by unfold kfuel; omega)
  rw [li_6, nI_mul]
  exact this
end MOD
