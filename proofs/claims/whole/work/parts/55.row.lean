/-! row -/
def lk (α : kα) (f : Nat) : Nat → Nat → Bool
  | 0, _ => false
  | k + 1, i => if α 22 i 0 = 1 ∧ ¬ α 23 i 0 < α 1 f 0 then true else lk α f k (i + 1)
def wk (α : kα) (f : Nat) (z : Bool) : Nat → Nat → Bool
  | 0, _ => false
  | k + 1, i => if α 22 i 0 = 1 ∧ (z = true ∨ α 2 f (α 23 i 0) = 1) then true else wk α f z k (i + 1)
theorem lk_no {α : kα} {f : Nat} : ∀ (k i : Nat), lk α f k i = false → ∀ j, i ≤ j → j < i + k → α 22 j 0 = 1 → α 23 j 0 < α 1 f 0
  | 0, i, h, j, h1, h2, h3 => by omega
  | k + 1, i, h, j, h1, h2, h3 => by
    unfold lk at h
    by_cases e : α 22 i 0 = 1 ∧ ¬ α 23 i 0 < α 1 f 0
    · rw [if_pos e] at h; cases h
    · rw [if_neg e] at h
      by_cases q : i = j
      · subst q
        rcases Nat.lt_or_ge (α 23 i 0) (α 1 f 0) with w | w
        · exact w
        · exact absurd ⟨h3, by omega⟩ e
      · exact lk_no k (i + 1) h j (by omega) (by omega) h3
theorem wk_no {α : kα} {f : Nat} {z : Bool} : ∀ (k i : Nat), wk α f z k i = false → ∀ j, i ≤ j → j < i + k → α 22 j 0 = 1 → z = false ∧ α 2 f (α 23 j 0) ≠ 1
  | 0, i, h, j, h1, h2, h3 => by omega
  | k + 1, i, h, j, h1, h2, h3 => by
    unfold wk at h
    by_cases e : α 22 i 0 = 1 ∧ (z = true ∨ α 2 f (α 23 i 0) = 1)
    · rw [if_pos e] at h; cases h
    · rw [if_neg e] at h
      by_cases q : i = j
      · subst q
        refine ⟨?_, fun w => e ⟨h3, Or.inr w⟩⟩
        cases z
        · rfl
        · exact absurd ⟨h3, Or.inl rfl⟩ e
      · exact wk_no k (i + 1) h j (by omega) (by omega) h3
theorem wk_mono {α : kα} {f : Nat} : ∀ (k i : Nat), wk α f false k i = true → wk α f true k i = true
  | 0, i, h => by cases h
  | k + 1, i, h => by
    unfold wk at h ⊢
    by_cases e : α 22 i 0 = 1
    · rw [if_pos ⟨e, Or.inl rfl⟩]
    · rw [if_neg (fun q => e q.1)] at h ⊢
      exact wk_mono k (i + 1) h
theorem lk_s (α : kα) (f k i : Nat) : lk α f (k + 1) i = if α 22 i 0 = 1 ∧ ¬ α 23 i 0 < α 1 f 0 then true else lk α f k (i + 1) := rfl
theorem wk_s (α : kα) (f : Nat) (z : Bool) (k i : Nat) : wk α f z (k + 1) i = if α 22 i 0 = 1 ∧ (z = true ∨ α 2 f (α 23 i 0) = 1) then true else wk α f z k (i + 1) := rfl
theorem lk_0 (α : kα) (f i : Nat) : lk α f 0 i = false := rfl
theorem wk_0 (α : kα) (f : Nat) (z : Bool) (i : Nat) : wk α f z 0 i = false := rfl
section ROW
variable {α : kα} {S : kS} {f : Nat}
theorem c_lack (hR : RR (S 1) α) (hQ : wfQ α) (hI : α 0 3 0 ≤ 20) (hF : RF (S (6 + f)) α f) (hw : wfP α f) : ∀ (k m i : Nat), i + k = α 0 4 0 → k < m → kfix (fun rec (q : Int32) => FX4_itemsLackPlace_B2 (6 + f) rec S q) m (nI i) = some (b2 (lk α f k i)) := by
  have hq := hQ.1
  have h5 := hw.1
  intro k
  induction k with
  | zero =>
    intro m i hk hm
    obtain ⟨m, rfl⟩ : ∃ m', m = m' + 1 := ⟨m - 1, by omega⟩
    rw [kfix_s]
    generalize kfix (fun rec (q : Int32) => FX4_itemsLackPlace_B2 (6 + f) rec S q) m = Rk
    simp (disch := omega) only [FX4_itemsLackPlace_B2, kb, kI_eq, hR.1.2, nI_l']
    rw [if_pos (by omega)]
    rfl
  | succ k ih =>
    intro m i hk hm
    obtain ⟨m, rfl⟩ : ∃ m', m = m' + 1 := ⟨m - 1, by omega⟩
    rw [kfix_s]
    have ihm := ih m (i + 1) (by omega) (by omega)
    clear ih
    generalize kfix (fun rec (q : Int32) => FX4_itemsLackPlace_B2 (6 + f) rec S q) m = Rk at ihm ⊢
    have hlt : i < α 0 4 0 := by omega
    obtain ⟨u1, u2, u3⟩ := hQ.2 i hlt
    have e : α 0 3 0 * 4 = 4 * α 0 3 0 := by omega
    have fe : (nI (α 22 i 0) = 1) = (α 22 i 0 = 1) := by rw [li_1, nI_e (by omega) (by omega)]
    simp (disch := omega) only [FX4_itemsLackPlace_B2, FX4_itemsLackPlace_J44, kb, kI_eq, hR.1.1, hR.1.2, nI_l', li_4, nI_mul, e, nI_add, kin_t, kgd_t, kA_nI, hR.2.2.2.1 i hlt, hR.2.2.2.2 i hlt, fe, show ¬ α 0 4 0 ≤ i by omega, if_false]
    rw [li_1, nI_add, ihm]
    rw [lk_s]
    by_cases h1 : α 22 i 0 = 1
    · rw [if_pos h1]
      by_cases h2 : α 23 i 0 < α 1 f 0
      · rw [c_hasPlace hF hw h2, Option.bind_some, if_neg (by decide), if_neg (fun q => q.2 h2)]
      · rw [c_hasPlaceN hF hw (Or.inr (by rw [nI_l' (by omega) (by omega)]; omega)), Option.bind_some, if_pos rfl, if_pos ⟨h1, h2⟩, ← li_1]
        rfl
    · rw [if_neg h1, if_neg (fun q => h1 q.1)]
theorem c_nworked (hR : RR (S 1) α) (hQ : wfQ α) (hI : α 0 3 0 ≤ 20) (hF : RF (S (6 + f)) α f) (hw : wfP α f) (hl : ∀ j, j < α 0 4 0 → α 22 j 0 = 1 → α 23 j 0 < α 1 f 0) : ∀ (k m i : Nat), i + k = α 0 4 0 → k < m → kfix (fun rec (q : Int32) => FX4_itemsNameWorked_B2 (6 + f) rec S q) m (nI i) = some (b2 (wk α f false k i)) := by
  have hq := hQ.1
  have h5 := hw.1
  intro k
  induction k with
  | zero =>
    intro m i hk hm
    obtain ⟨m, rfl⟩ : ∃ m', m = m' + 1 := ⟨m - 1, by omega⟩
    rw [kfix_s]
    generalize kfix (fun rec (q : Int32) => FX4_itemsNameWorked_B2 (6 + f) rec S q) m = Rk
    simp (disch := omega) only [FX4_itemsNameWorked_B2, kb, kI_eq, hR.1.2, nI_l']
    rw [if_pos (by omega)]
    rfl
  | succ k ih =>
    intro m i hk hm
    obtain ⟨m, rfl⟩ : ∃ m', m = m' + 1 := ⟨m - 1, by omega⟩
    rw [kfix_s]
    have ihm := ih m (i + 1) (by omega) (by omega)
    clear ih
    generalize kfix (fun rec (q : Int32) => FX4_itemsNameWorked_B2 (6 + f) rec S q) m = Rk at ihm ⊢
    have hlt : i < α 0 4 0 := by omega
    obtain ⟨u1, u2, u3⟩ := hQ.2 i hlt
    have e : α 0 3 0 * 4 = 4 * α 0 3 0 := by omega
    have fe : (nI (α 22 i 0) = 1) = (α 22 i 0 = 1) := by rw [li_1, nI_e (by omega) (by omega)]
    simp (disch := omega) only [FX4_itemsNameWorked_B2, FX4_itemsNameWorked_J44, kb, kI_eq, hR.1.1, hR.1.2, nI_l', li_4, nI_mul, e, nI_add, kin_t, kgd_t, kA_nI, hR.2.2.2.1 i hlt, hR.2.2.2.2 i hlt, fe, show ¬ α 0 4 0 ≤ i by omega, if_false]
    rw [li_1, nI_add, ihm]
    rw [wk_s]
    by_cases h1 : α 22 i 0 = 1
    · rw [if_pos h1, c_isWorked hF hw (hl i hlt h1), Option.bind_some]
      by_cases h2 : α 2 f (α 23 i 0) = 1
      · rw [if_neg (by rw [b2_d0]; simpa using h2), if_pos ⟨h1, Or.inr h2⟩, ← li_1]
        rfl
      · rw [if_pos (by rw [b2_d0]; exact h2), if_neg (fun q => q.2.elim (fun h => by cases h) h2)]
    · rw [if_neg h1, if_neg (fun q => h1 q.1)]
theorem c_nplace (hR : RR (S 1) α) (hQ : wfQ α) (hI : α 0 3 0 ≤ 20) : ∀ (k m i : Nat), i + k = α 0 4 0 → k < m → kfix (fun rec (q : Int32) => FX4_itemsNamePlace_B2 rec S q) m (nI i) = some (b2 (wk α f true k i)) := by
  have hq := hQ.1
  intro k
  induction k with
  | zero =>
    intro m i hk hm
    obtain ⟨m, rfl⟩ : ∃ m', m = m' + 1 := ⟨m - 1, by omega⟩
    rw [kfix_s]
    generalize kfix (fun rec (q : Int32) => FX4_itemsNamePlace_B2 rec S q) m = Rk
    simp (disch := omega) only [FX4_itemsNamePlace_B2, kb, kI_eq, hR.1.2, nI_l']
    rw [if_pos (by omega)]
    rfl
  | succ k ih =>
    intro m i hk hm
    obtain ⟨m, rfl⟩ : ∃ m', m = m' + 1 := ⟨m - 1, by omega⟩
    rw [kfix_s]
    have ihm := ih m (i + 1) (by omega) (by omega)
    clear ih
    generalize kfix (fun rec (q : Int32) => FX4_itemsNamePlace_B2 rec S q) m = Rk at ihm ⊢
    have hlt : i < α 0 4 0 := by omega
    obtain ⟨u1, u2, u3⟩ := hQ.2 i hlt
    have e : α 0 3 0 * 4 = 4 * α 0 3 0 := by omega
    have fe : (nI (α 22 i 0) = 1) = (α 22 i 0 = 1) := by rw [li_1, nI_e (by omega) (by omega)]
    simp (disch := omega) only [FX4_itemsNamePlace_B2, kb, kI_eq, hR.1.1, hR.1.2, nI_l', li_4, nI_mul, e, nI_add, kin_t, kgd_t, kA_nI, hR.2.2.2.1 i hlt, hR.2.2.2.2 i hlt, fe, show ¬ α 0 4 0 ≤ i by omega, if_false]
    rw [li_1, nI_add, ihm]
    rw [wk_s]
    by_cases h1 : α 22 i 0 = 1
    · rw [if_pos h1, if_pos ⟨h1, Or.inl rfl⟩, ← li_1]
      rfl
    · rw [if_neg h1, if_neg (fun q => h1 q.1)]
end ROW
def rowT (L : kS → Int32 → Option (Int32 × kS)) (S : kS) (v1 v2 v3 : Int32) : Option (Int32 × kS) := kb (kI S 5 23) fun x2 => if x2 = 0 then (some ((-3 : Int32), S)) else (kb (kI S 5 16) fun x3 => if x3 = (20 : Int32) then (some ((-4 : Int32), S)) else (kb (kI S 5 16) fun x4 => kgd (kin x4 20) <| kb (kpA S 5 17 x4 v1) fun S1 => kb (kI S1 5 16) fun x5 => kgd (kin x5 20) <| kb (kpA S1 5 18 x5 v2) fun S2 => kb (kI S2 5 16) fun x6 => kgd (kin x6 20) <| kb (kpA S2 5 19 x6 v3) fun S3 => kb (kI S3 5 16) fun x7 => kb (kI S3 5 23) fun x8 => kgd (kin x7 20) <| kb (kpA S3 5 20 x7 x8) fun S4 => L S4 (0 : Int32)))
theorem m_rloop {α : kα} {S : kS} {f : Nat} (hM : RM (S 5) α) (hQ : wfQ α) (h3 : α 0 0 0 ≤ 3) (hf : f < α 0 0 0) (hw : wfP α f) (v2 v3 : Int32) (z : Bool) (hz : (v3 = 0) = (z = false)) : ∀ (k m i : Nat) (b : Bool), i + k = α 0 4 0 → k < m → kfix (fun rec (q : kS × Int32 × Int32 × Int32 × Int32 × Int32) => FX6_row_B39 rec q.1 q.2.1 q.2.2.1 q.2.2.2.1 q.2.2.2.2.1 q.2.2.2.2.2) m (S, nI f, v2, v3, b2 b, nI i) = if lk α f k i = true then some (-1, S) else if (b || wk α f z k i) = true then some (-2, S) else rowT FX6_row_L202 S (nI f) v2 v3 := by
  have hq := hQ.1
  have h5 := hw.1
  have hMF := hM.2.2.2.2 f hf
  obtain ⟨⟨r0, r4⟩, _, _, r5, r6⟩ := hM.2.1
  generalize hL : FX6_row_L202 = L
  intro k
  induction k with
  | zero =>
    intro m i b hk hm
    obtain ⟨m, rfl⟩ : ∃ m', m = m' + 1 := ⟨m - 1, by omega⟩
    rw [kfix_s]
    generalize kfix (fun rec (q : kS × Int32 × Int32 × Int32 × Int32 × Int32) => FX6_row_B39 rec q.1 q.2.1 q.2.2.1 q.2.2.2.1 q.2.2.2.2.1 q.2.2.2.2.2) m = Rk
    show FX6_row_B39 Rk S (nI f) v2 v3 (b2 b) (nI i) = _
    unfold FX6_row_B39 rowT
    rw [hL]
    have hk0 : kI S 5 23 = nI (α 0 4 0) := r4
    rw [hk0]
    rw [lk_0, wk_0]
    have hc : nI (α 0 4 0) ≤ nI i := by rw [nI_l' (by omega) (by omega)]; omega
    cases b
    · simp only [kb, hc, if_true, b2_0, Bool.false_eq_true, if_false, Bool.or_false]
    · simp only [kb, hc, if_true, b2_1, o_ne, Bool.false_eq_true, if_false, Bool.or_false]
  | succ k ih =>
    intro m i b hk hm
    obtain ⟨m, rfl⟩ : ∃ m', m = m' + 1 := ⟨m - 1, by omega⟩
    rw [kfix_s]
    have ihm := fun b => ih m (i + 1) b (by omega) (by omega)
    clear ih
    generalize kfix (fun rec (q : kS × Int32 × Int32 × Int32 × Int32 × Int32) => FX6_row_B39 rec q.1 q.2.1 q.2.2.1 q.2.2.2.1 q.2.2.2.2.1 q.2.2.2.2.2) m = Rk at ihm ⊢
    show FX6_row_B39 Rk S (nI f) v2 v3 (b2 b) (nI i) = _
    unfold FX6_row_B39 FX6_row_J120 FX6_row_J113 FX6_row_J118 FX6_row_J120
    rw [hL]
    generalize rowT L S (nI f) v2 v3 = TT at ihm ⊢
    have hlt : i < α 0 4 0 := by omega
    obtain ⟨u1, u2, u3⟩ := hQ.2 i hlt
    have fe : (nI (α 22 i 0) = 1) = (α 22 i 0 = 1) := by rw [li_1, nI_e (by omega) (by omega)]
    have ia : nI i + 1 = nI (i + 1) := by rw [li_1, nI_add]
    have i80 : (80 : Int32) + nI i = nI (80 + i) := by rw [li_80, nI_add]
    have iT : Rk (S, nI f, v2, v3, 1, nI (i + 1)) = if lk α f k (i + 1) = true then some (-1, S) else some (-2, S) := by
      have := ihm true
      simpa only [b2_1, Bool.true_or, if_true] using this
    have iF : Rk (S, nI f, v2, v3, 0, nI (i + 1)) = if lk α f k (i + 1) = true then some (-1, S) else if wk α f z k (i + 1) = true then some (-2, S) else TT := by
      have := ihm false
      simpa only [b2_0, Bool.false_or] using this
    have ib := ihm b
    simp (disch := omega) only [kb, kI_eq, r4, nI_l', show ¬ α 0 4 0 ≤ i by omega, if_false, i80, kin_t, kgd_t, kA_nI, r5 i hlt, r6 i hlt, fe, ia, iT, ib]
    rw [lk_s, wk_s]
    by_cases h1 : α 22 i 0 = 1
    · rw [if_pos h1]
      by_cases h2 : α 23 i 0 < α 1 f 0
      · rw [m_isPlace hM.1.1 h3 hM.2.2.2.1 hw hf h2, Option.bind_some, if_neg (show ¬ (1 : Int32) = 0 by decide), if_neg (show ¬ (α 22 i 0 = 1 ∧ ¬ α 23 i 0 < α 1 f 0) from fun q => q.2 h2)]
        have k2 := (hw.2 _ h2).1
        have ge : (nI (α 2 f (α 23 i 0)) = 1) = (α 2 f (α 23 i 0) = 1) := by rw [li_1, nI_e (by omega) (by omega)]
        simp (disch := omega) only [li_5, nI_mul, nI_add, kin_t, kgd_t, kA_nI, hMF.1.1 _ h2, ge]
        cases b
        · rw [if_pos (show b2 false = 0 from rfl), Bool.false_or]
          by_cases h4 : α 2 f (α 23 i 0) = 1
          · rw [if_pos h4, if_pos (show α 22 i 0 = 1 ∧ (z = true ∨ α 2 f (α 23 i 0) = 1) from ⟨h1, Or.inr h4⟩), if_pos (show true = true from rfl)]
          · rw [if_neg h4]
            cases z
            · rw [if_pos (hz.mpr rfl), if_neg (show ¬ (α 22 i 0 = 1 ∧ (false = true ∨ α 2 f (α 23 i 0) = 1)) from fun q => q.2.elim (fun h => by cases h) h4), iF]
            · rw [if_neg (fun h => by have := hz.mp h; cases this), if_pos (show α 22 i 0 = 1 ∧ (true = true ∨ α 2 f (α 23 i 0) = 1) from ⟨h1, Or.inl rfl⟩), if_pos (show true = true from rfl)]
        · rw [if_neg (show ¬ b2 true = 0 by decide), Bool.true_or, if_pos (show true = true from rfl)]
      · rw [m_isPlaceP hM.1.1 h3 hM.2.2.2.1 hw hf (Or.inr (by rw [nI_l' (by omega) (by omega)]; omega)), Option.bind_some, if_pos (show (0 : Int32) = 0 from rfl), if_pos (show (α 22 i 0 = 1 ∧ ¬ α 23 i 0 < α 1 f 0) from ⟨h1, h2⟩), if_pos (show true = true from rfl)]
    · rw [if_neg h1, if_neg (show ¬ (α 22 i 0 = 1 ∧ ¬ α 23 i 0 < α 1 f 0) from fun q => h1 q.1), if_neg (show ¬ (α 22 i 0 = 1 ∧ (z = true ∨ α 2 f (α 23 i 0) = 1)) from fun q => h1 q.1)]
