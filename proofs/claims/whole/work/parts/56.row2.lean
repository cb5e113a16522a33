/-! row, the rest -/
theorem m_cloop {R q : Nat} (hR : R < 20) (hq : q ≤ 4) : ∀ (k m i : Nat) (S : kS), i + k = q → k < m → (S 5).1 23 = nI q → (S 5).1 16 = nI R → ∃ S', kfix (fun rec (q : kS × Int32) => FX6_row_B202 rec q.1 q.2) m (S, nI i) = some (nI R, S') ∧ (∀ o, o ≠ 5 → S' o = S o) ∧ (∀ c, (S' 5).1 c = if c = 16 then nI (R + 1) else if c = 23 then 0 else (S 5).1 c) ∧ (∀ x, (S' 5).2 21 x = if 4 * R + i ≤ x ∧ x < 4 * R + q then (S 5).2 21 (80 + (x - 4 * R)) else (S 5).2 21 x) ∧ (∀ x, (S' 5).2 22 x = if 4 * R + i ≤ x ∧ x < 4 * R + q then (S 5).2 22 (80 + (x - 4 * R)) else (S 5).2 22 x) ∧ ∀ c, c ≠ 21 → c ≠ 22 → (S' 5).2 c = (S 5).2 c := by
  intro k
  induction k with
  | zero =>
    intro m i S hk hm hS hS2
    obtain ⟨m, rfl⟩ : ∃ m', m = m' + 1 := ⟨m - 1, by omega⟩
    refine ⟨kpI (kpI S 5 23 0) 5 16 (nI (R + 1)), ?_, ?_, ?_, ?_, ?_, ?_⟩
    · rw [kfix_s]
      generalize kfix (fun rec (q : kS × Int32) => FX6_row_B202 rec q.1 q.2) m = Rk
      simp (disch := omega) only [FX6_row_B202, kb, kI_eq, hS, hS2, nI_l', pI_1, and_false, and_self, Nat.reduceEqDiff, if_false, if_true, li_1, nI_add]
      rw [if_pos (by omega), nI_sub (by omega)]
      rfl
    · intro o ho
      rw [pI_ne ho, pI_ne ho]
    · intro c
      rw [pI_1, pI_1]
      simp
    · intro x
      rw [if_neg (by omega)]
      rfl
    · intro x
      rw [if_neg (by omega)]
      rfl
    · intro c _ _
      rfl
  | succ k ih =>
    intro m i S hk hm hS hS2
    obtain ⟨m, rfl⟩ : ∃ m', m = m' + 1 := ⟨m - 1, by omega⟩
    obtain ⟨S', q1, q2, q3, q4, q5, q6⟩ := ih m (i + 1) (kpR (kpR S 5 21 (upd ((S 5).2 21) (4 * R + i) ((S 5).2 21 (80 + i)))) 5 22 (upd ((S 5).2 22) (4 * R + i) ((S 5).2 22 (80 + i)))) (by omega) (by omega) hS hS2
    refine ⟨S', ?_, ?_, q3, ?_, ?_, ?_⟩
    · rw [kfix_s]
      generalize kfix (fun rec (q : kS × Int32) => FX6_row_B202 rec q.1 q.2) m = Rk at q1 ⊢
      simp (disch := omega) only [FX6_row_B202, kb, kI_eq, hS, hS2, nI_l', show ¬ q ≤ i by omega, if_false, li_80, li_4, nI_mul, nI_add, kin_t, kgd_t, kA_nI, kpA_nI, pR_1, pR_2, and_false, Nat.reduceEqDiff, li_1]
      exact q1
    · intro o ho
      rw [q2 o ho, pR_ne ho, pR_ne ho]
    · intro x
      rw [q4 x]
      show (if _ then upd ((S 5).2 21) (4 * R + i) ((S 5).2 21 (80 + i)) (80 + (x - 4 * R)) else upd ((S 5).2 21) (4 * R + i) ((S 5).2 21 (80 + i)) x) = _
      rw [upd_eq, upd_eq]
      by_cases h1 : 4 * R + (i + 1) ≤ x ∧ x < 4 * R + q
      · rw [if_pos h1, if_neg (by omega), if_pos (by omega)]
      · rw [if_neg h1]
        by_cases h2 : x = 4 * R + i
        · rw [if_pos h2, if_pos (by omega), show x - 4 * R = i by omega]
        · rw [if_neg h2, if_neg (by omega)]
    · intro x
      rw [q5 x]
      show (if _ then upd ((S 5).2 22) (4 * R + i) ((S 5).2 22 (80 + i)) (80 + (x - 4 * R)) else upd ((S 5).2 22) (4 * R + i) ((S 5).2 22 (80 + i)) x) = _
      rw [upd_eq, upd_eq]
      by_cases h1 : 4 * R + (i + 1) ≤ x ∧ x < 4 * R + q
      · rw [if_pos h1, if_neg (by omega), if_pos (by omega)]
      · rw [if_neg h1]
        by_cases h2 : x = 4 * R + i
        · rw [if_pos h2, if_pos (by omega), show x - 4 * R = i by omega]
        · rw [if_neg h2, if_neg (by omega)]
    · intro c h7 h8
      rw [q6 c h7 h8, pR_2, if_neg (fun h => h8 h.2), pR_2, if_neg (fun h => h7 h.2)]
theorem rowT_go (L : kS → Int32 → Option (Int32 × kS)) {S : kS} {q R : Nat} (hq : (S 5).1 23 = nI q) (hR : (S 5).1 16 = nI R) (h0 : 0 < q) (h4 : q ≤ 4) (h20 : R < 20) (v1 v2 v3 : Int32) : rowT L S v1 v2 v3 = L (kpR (kpR (kpR (kpR S 5 17 (upd ((S 5).2 17) R v1)) 5 18 (upd ((S 5).2 18) R v2)) 5 19 (upd ((S 5).2 19) R v3)) 5 20 (upd ((S 5).2 20) R (nI q))) 0 := by
  unfold rowT
  simp (disch := omega) only [kb, kI_eq, hq, hR, nI_z, show ¬ q = 0 by omega, if_false, show (20 : Int32) = nI 20 by decide +kernel, nI_e, show ¬ R = 20 by omega, kin_t, kgd_t, kpA_nI, pR_1, pR_2, and_false, Nat.reduceEqDiff]
theorem rowT_0 (L : kS → Int32 → Option (Int32 × kS)) {S : kS} (hq : (S 5).1 23 = 0) (v1 v2 v3 : Int32) : rowT L S v1 v2 v3 = some (-3, S) := by
  unfold rowT
  simp only [kb, kI_eq, hq, if_true]
theorem rowT_20 (L : kS → Int32 → Option (Int32 × kS)) {S : kS} {q : Nat} (hq : (S 5).1 23 = nI q) (h0 : 0 < q) (h4 : q ≤ 4) (hR : (S 5).1 16 = 20) (v1 v2 v3 : Int32) : rowT L S v1 v2 v3 = some (-4, S) := by
  unfold rowT
  simp (disch := omega) only [kb, kI_eq, hq, hR, nI_z, show ¬ q = 0 by omega, if_false, if_true]
theorem c_addRow {S : kS} {q R : Nat} (hq : (S 1).1 1 = nI q) (hR : (S 1).1 0 = nI R) (h0 : 0 < q) (h4 : q ≤ 4) (h20 : R < 20) (v1 v2 v3 : Int32) : FX4_addRow S v1 v2 v3 = some (nI R, kpI (kpI (kpR (kpR (kpR (kpR S 1 2 (upd ((S 1).2 2) R v1)) 1 3 (upd ((S 1).2 3) R v2)) 1 4 (upd ((S 1).2 4) R v3)) 1 5 (upd ((S 1).2 5) R (nI q))) 1 1 0) 1 0 (nI (R + 1))) := by
  unfold FX4_addRow
  simp (disch := omega) only [kb, kI_eq, hq, hR, kI_0t, h0, if_true, show (20 : Int32) = nI 20 by decide +kernel, nI_t', h20, kin_t, kgd_t, kpA_nI, pR_1, pR_2, pI_1, and_false, and_self, Nat.reduceEqDiff, if_false, li_1, nI_add, show ¬ (0 = 1) by omega]
  rw [nI_sub (by omega)]
  rfl
theorem c_addRow0 {S : kS} (hq : (S 1).1 1 = 0) (v1 v2 v3 : Int32) : FX4_addRow S v1 v2 v3 = some (-3, S) := by
  unfold FX4_addRow
  simp only [kb, kI_eq, hq]
  rfl
theorem c_addRow20 {S : kS} {q : Nat} (hq : (S 1).1 1 = nI q) (h0 : 0 < q) (h4 : q ≤ 4) (hR : (S 1).1 0 = 20) (v1 v2 v3 : Int32) : FX4_addRow S v1 v2 v3 = some (-4, S) := by
  unfold FX4_addRow
  simp (disch := omega) only [kb, kI_eq, hq, hR, kI_0t, h0, if_true]
  rfl
def αrow (α : kα) (f c t : Nat) : kα := au (au (au (au (au (au (ac (ac α 20 (fun r i => if r = α 0 3 0 then α 22 i 0 else α 20 r i)) 21 (fun r i => if r = α 0 3 0 then α 23 i 0 else α 21 r i)) 16 (α 0 3 0) 0 f) 17 (α 0 3 0) 0 c) 18 (α 0 3 0) 0 t) 19 (α 0 3 0) 0 (α 0 4 0)) 0 3 0 (α 0 3 0 + 1)) 0 4 0 0
theorem αrow_16 {α : kα} {f c t : Nat} (r : Nat) : αrow α f c t 16 r 0 = if r = α 0 3 0 then f else α 16 r 0 := by unfold αrow; simp [au_eq, ac_eq]
theorem αrow_17 {α : kα} {f c t : Nat} (r : Nat) : αrow α f c t 17 r 0 = if r = α 0 3 0 then c else α 17 r 0 := by unfold αrow; simp [au_eq, ac_eq]
theorem αrow_18 {α : kα} {f c t : Nat} (r : Nat) : αrow α f c t 18 r 0 = if r = α 0 3 0 then t else α 18 r 0 := by unfold αrow; simp [au_eq, ac_eq]
theorem αrow_19 {α : kα} {f c t : Nat} (r : Nat) : αrow α f c t 19 r 0 = if r = α 0 3 0 then α 0 4 0 else α 19 r 0 := by unfold αrow; simp [au_eq, ac_eq]
theorem αrow_20 {α : kα} {f c t : Nat} (r i : Nat) : αrow α f c t 20 r i = if r = α 0 3 0 then α 22 i 0 else α 20 r i := rfl
theorem αrow_21 {α : kα} {f c t : Nat} (r i : Nat) : αrow α f c t 21 r i = if r = α 0 3 0 then α 23 i 0 else α 21 r i := rfl
theorem inv_row {α : kα} {S S1 S2 : kS} {f c t k : Nat} (hw : WF α k) (hc : RC S α) (hm : RM (S 5) α) (hf : f < α 0 0 0) (hc9 : 1 ≤ c ∧ c ≤ 9) (ht : t ≤ 2) (hq : 0 < α 0 4 0) (h20 : α 0 3 0 < 20) (hit : ∀ i, i < α 0 4 0 → α 22 i 0 = 1 → α 23 i 0 < α 1 f 0 ∧ α 2 f (α 23 i 0) ≠ 1 ∧ t = 0)
    (e1 : S1 = kpI (kpI (kpR (kpR (kpR (kpR S 1 2 (upd ((S 1).2 2) (α 0 3 0) (nI f))) 1 3 (upd ((S 1).2 3) (α 0 3 0) (nI c))) 1 4 (upd ((S 1).2 4) (α 0 3 0) (nI t))) 1 5 (upd ((S 1).2 5) (α 0 3 0) (nI (α 0 4 0)))) 1 1 0) 1 0 (nI (α 0 3 0 + 1)))
    (q2 : ∀ o, o ≠ 5 → S2 o = S1 o) (q3 : ∀ c, (S2 5).1 c = if c = 16 then nI (α 0 3 0 + 1) else if c = 23 then 0 else (S 5).1 c) (q4 : ∀ x, (S2 5).2 21 x = if 4 * α 0 3 0 ≤ x ∧ x < 4 * α 0 3 0 + α 0 4 0 then (S 5).2 21 (80 + (x - 4 * α 0 3 0)) else (S 5).2 21 x) (q5 : ∀ x, (S2 5).2 22 x = if 4 * α 0 3 0 ≤ x ∧ x < 4 * α 0 3 0 + α 0 4 0 then (S 5).2 22 (80 + (x - 4 * α 0 3 0)) else (S 5).2 22 x)
    (q17 : (S2 5).2 17 = upd ((S 5).2 17) (α 0 3 0) (nI f)) (q18 : (S2 5).2 18 = upd ((S 5).2 18) (α 0 3 0) (nI c)) (q19 : (S2 5).2 19 = upd ((S 5).2 19) (α 0 3 0) (nI t)) (q20 : (S2 5).2 20 = upd ((S 5).2 20) (α 0 3 0) (nI (α 0 4 0))) (q6 : ∀ c, c < 17 ∨ 22 < c → (S2 5).2 c = (S 5).2 c) : Inv (α 0 0 0) S2 (k + 1) := by
  subst e1
  obtain ⟨w1, w2, w3, w4, w5, w6, w7, w8, w9⟩ := hw
  have hq4 := w3.1
  refine inv_fin (α := αrow α f c t) rfl ⟨w1, ⟨?_, fun r hr => ?_⟩, ⟨Nat.zero_le _, fun i hi => absurd hi (Nat.not_lt_zero _)⟩, w4, w5, w6, w7, by show α 0 6 0 ≤ k + 1; omega, w9⟩ (S1 := kpI (kpI (kpR (kpR (kpR (kpR S 1 2 (upd ((S 1).2 2) (α 0 3 0) (nI f))) 1 3 (upd ((S 1).2 3) (α 0 3 0) (nI c))) 1 4 (upd ((S 1).2 4) (α 0 3 0) (nI t))) 1 5 (upd ((S 1).2 5) (α 0 3 0) (nI (α 0 4 0)))) 1 1 0) 1 0 (nI (α 0 3 0 + 1))) ⟨hc.1, ?_, hc.2.2.1, hc.2.2.2.1, fun g hg => ?_⟩ q2 ⟨?_, ?_, ?_, ?_, fun g hg => ?_⟩
  · show α 0 3 0 + 1 ≤ 20; omega
  · have hr : r < α 0 3 0 + 1 := hr
    rw [αrow_16, αrow_17, αrow_18, αrow_19]
    simp only [αrow_20, αrow_21]
    show _ < α 0 0 0 ∧ _ ∧ _ ∧ _ ∧ _ ∧ _ ∧ ∀ i, _ → _ ∧ _ ∧ (_ → _ < α 1 _ 0 ∧ α 2 _ _ ≠ 1 ∧ _)
    by_cases e : r = α 0 3 0
    · simp only [if_pos e]
      refine ⟨hf, hc9.1, hc9.2, ht, hq, hq4, fun i hi => ?_⟩
      exact ⟨(w3.2 i hi).1, (w3.2 i hi).2.1, hit i hi⟩
    · simp only [if_neg e]
      exact w2.2 r (by omega)
  · obtain ⟨⟨t1, t2⟩, ⟨t3, t4, t5, t6⟩, ⟨t7, t8⟩, t9, t10⟩ := hc.2.1
    refine ⟨⟨rfl, nI_0.symm⟩, ⟨fun r hr => ?_, fun r hr => ?_, fun r hr => ?_, fun r hr => ?_⟩, ⟨fun r i hr hi => ?_, fun r i hr hi => ?_⟩, fun i hi => absurd hi (Nat.not_lt_zero _), fun i hi => absurd hi (Nat.not_lt_zero _)⟩
    · have hr : r < α 0 3 0 + 1 := hr
      show upd ((S 1).2 2) (α 0 3 0) (nI f) r = _
      rw [upd_eq, αrow_16]
      by_cases e : r = α 0 3 0
      · rw [if_pos e, if_pos e]
      · rw [if_neg e, if_neg e]; exact t3 r (by omega)
    · have hr : r < α 0 3 0 + 1 := hr
      show upd ((S 1).2 3) (α 0 3 0) (nI c) r = _
      rw [upd_eq, αrow_17]
      by_cases e : r = α 0 3 0
      · rw [if_pos e, if_pos e]
      · rw [if_neg e, if_neg e]; exact t4 r (by omega)
    · have hr : r < α 0 3 0 + 1 := hr
      show upd ((S 1).2 4) (α 0 3 0) (nI t) r = _
      rw [upd_eq, αrow_18]
      by_cases e : r = α 0 3 0
      · rw [if_pos e, if_pos e]
      · rw [if_neg e, if_neg e]; exact t5 r (by omega)
    · have hr : r < α 0 3 0 + 1 := hr
      show upd ((S 1).2 5) (α 0 3 0) (nI (α 0 4 0)) r = _
      rw [upd_eq, αrow_19]
      by_cases e : r = α 0 3 0
      · rw [if_pos e, if_pos e]
      · rw [if_neg e, if_neg e]; exact t6 r (by omega)
    · have hr : r < α 0 3 0 + 1 := hr
      show (S 1).2 6 (4 * r + i) = _
      rw [αrow_19] at hi
      rw [αrow_20]
      by_cases e : r = α 0 3 0
      · rw [if_pos e] at hi
        rw [if_pos e, e]; exact t9 i hi
      · rw [if_neg e] at hi
        rw [if_neg e]; exact t7 r i (by omega) hi
    · have hr : r < α 0 3 0 + 1 := hr
      show (S 1).2 7 (4 * r + i) = _
      rw [αrow_19] at hi
      rw [αrow_21]
      by_cases e : r = α 0 3 0
      · rw [if_pos e] at hi
        rw [if_pos e, e]; exact t10 i hi
      · rw [if_neg e] at hi
        rw [if_neg e]; exact t8 r i (by omega) hi
  · rw [pI_ne (by omega), pI_ne (by omega), pR_ne (by omega), pR_ne (by omega), pR_ne (by omega), pR_ne (by omega)]
    exact hc.2.2.2.2 g hg
  · unfold MT
    simp only [q3]
    rw [q6 24 (by omega), q6 32 (by omega)]
    exact hm.1
  · obtain ⟨⟨t1, t2⟩, ⟨t3, t4, t5, t6⟩, ⟨t7, t8⟩, t9, t10⟩ := hm.2.1
    unfold MR
    simp only [q3, q17, q18, q19, q20]
    refine ⟨⟨rfl, nI_0.symm⟩, ⟨fun r hr => ?_, fun r hr => ?_, fun r hr => ?_, fun r hr => ?_⟩, ⟨fun r i hr hi => ?_, fun r i hr hi => ?_⟩, fun i hi => absurd hi (Nat.not_lt_zero _), fun i hi => absurd hi (Nat.not_lt_zero _)⟩
    · have hr : r < α 0 3 0 + 1 := hr
      show upd ((S 5).2 17) (α 0 3 0) (nI f) r = _
      rw [upd_eq, αrow_16]
      by_cases e : r = α 0 3 0
      · rw [if_pos e, if_pos e]
      · rw [if_neg e, if_neg e]; exact t3 r (by omega)
    · have hr : r < α 0 3 0 + 1 := hr
      show upd ((S 5).2 18) (α 0 3 0) (nI c) r = _
      rw [upd_eq, αrow_17]
      by_cases e : r = α 0 3 0
      · rw [if_pos e, if_pos e]
      · rw [if_neg e, if_neg e]; exact t4 r (by omega)
    · have hr : r < α 0 3 0 + 1 := hr
      show upd ((S 5).2 19) (α 0 3 0) (nI t) r = _
      rw [upd_eq, αrow_18]
      by_cases e : r = α 0 3 0
      · rw [if_pos e, if_pos e]
      · rw [if_neg e, if_neg e]; exact t5 r (by omega)
    · have hr : r < α 0 3 0 + 1 := hr
      show upd ((S 5).2 20) (α 0 3 0) (nI (α 0 4 0)) r = _
      rw [upd_eq, αrow_19]
      by_cases e : r = α 0 3 0
      · rw [if_pos e, if_pos e]
      · rw [if_neg e, if_neg e]; exact t6 r (by omega)
    · have hr : r < α 0 3 0 + 1 := hr
      rw [αrow_19] at hi
      rw [αrow_20, q4]
      by_cases e : r = α 0 3 0
      · rw [if_pos e] at hi
        rw [if_pos e, if_pos (by omega), show 4 * r + i - 4 * α 0 3 0 = i by omega]; exact t9 i hi
      · rw [if_neg e] at hi
        have := (w2.2 r (by omega)).2.2.2.2.2.1
        rw [if_neg e, if_neg (by omega)]; exact t7 r i (by omega) hi
    · have hr : r < α 0 3 0 + 1 := hr
      rw [αrow_19] at hi
      rw [αrow_21, q5]
      by_cases e : r = α 0 3 0
      · rw [if_pos e] at hi
        rw [if_pos e, if_pos (by omega), show 4 * r + i - 4 * α 0 3 0 = i by omega]; exact t10 i hi
      · rw [if_neg e] at hi
        have := (w2.2 r (by omega)).2.2.2.2.2.1
        rw [if_neg e, if_neg (by omega)]; exact t8 r i (by omega) hi
  · unfold MH
    simp only [q3]
    rw [q6 27 (by omega), q6 28 (by omega)]
    exact hm.2.2.1
  · unfold MS
    rw [q6 2 (by omega), q6 9 (by omega), q6 7 (by omega), q6 8 (by omega)]
    exact hm.2.2.2.1
  · unfold MF
    rw [q6 3 (by omega), q6 4 (by omega), q6 5 (by omega), q6 6 (by omega), q6 10 (by omega), q6 11 (by omega), q6 12 (by omega), q6 13 (by omega), q6 14 (by omega), q6 15 (by omega)]
    exact hm.2.2.2.2 g hg
/-- the cost and the act that a row may have -/
theorem row_num (x y : Int32) : (∃ c t, 1 ≤ c ∧ c ≤ 9 ∧ t ≤ 2 ∧ x = nI c ∧ y = nI t) ∨ (x < 1 ∨ 9 < x ∨ y < 0 ∨ ¬ y ≤ 2) := by
  by_cases h1 : x < 1
  · exact Or.inr (Or.inl h1)
  by_cases h2 : (9 : Int32) < x
  · exact Or.inr (Or.inr (Or.inl h2))
  by_cases h3 : y < 0
  · exact Or.inr (Or.inr (Or.inr (Or.inl h3)))
  by_cases h4 : y ≤ 2
  · have h0 : ¬ x < 0 := fun h => h1 (by
      rw [Int32.lt_iff_toInt_lt] at h ⊢
      have e0 : (0 : Int32).toInt = 0 := by decide +kernel
      have e1 : (1 : Int32).toInt = 1 := by decide +kernel
      omega)
    obtain ⟨c, hc, rfl⟩ := nI_of h0
    obtain ⟨t, ht, rfl⟩ := nI_of h3
    rw [li_1, nI_t' hc (by omega)] at h1
    rw [li_9, nI_t' (by omega) hc] at h2
    rw [li_2, nI_l' ht (by omega)] at h4
    exact Or.inl ⟨c, t, by omega, by omega, by omega, rfl, rfl⟩
  · exact Or.inr (Or.inr (Or.inr (Or.inr h4)))
