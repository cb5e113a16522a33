/-! back -/
theorem kfo_n {n i : Nat} (h : i < 2147483648) (hi : n ≤ i) : kfo n (nI i) = none := by
  unfold kfo
  rw [nI_clamp (by omega), if_neg (by omega)]
theorem e145 : (150 : Int32) - 5 = nI 145 := by decide +kernel
theorem clamp0 : Int32.toNatClampNeg 0 = 0 := by decide +kernel
theorem clamp5 : Int32.toNatClampNeg 5 = 5 := by decide +kernel
theorem c_copyFrom {S : kS} {o x : Nat} (hx : x ≤ 145) (ho : o ≠ 4) : FX0_copyFrom o S (nI x) = some (kpR (kpR S o 5 (va_cpy ((S 4).2 0) ((S o).2 5) x 0 5)) o 6 (va_cpy ((S 4).2 1) ((S o).2 6) x 0 5)) := by
  unfold FX0_copyFrom FX0_holdsForm_0 FX0_holdsForm_1 FX0_holdsForm_0_J21 FX0_holdsForm_1_J21 FX0_copyFrom_J38
  have hk : kcp (nI x) (0 : Int32) (5 : Int32) 150 5 = true := by
    unfold kcp
    rw [nI_clamp (by omega), clamp0, clamp5]
    have : ¬ nI x < 0 := nI_pos (by omega)
    exact decide_eq_true ⟨this, by decide, by decide, by omega, by omega⟩
  have h4 : ∀ g, kpR S o 5 g 4 = S 4 := fun g => pR_ne (Ne.symm ho)
  have ho6 : ∀ g, (kpR S o 5 g o).2 6 = (S o).2 6 := fun g => by rw [pR_2, if_neg (by omega)]
  simp (disch := omega) only [nI_neg, if_false, e145, nI_t', show ¬ 145 < x by omega, kz_1, kgd_t, Option.bind_some, o_ne, hk, kb, h4, ho6, nI_clamp, clamp0, clamp5]
theorem c_restL {n x : Nat} (hn : n ≤ 3) (hx : x < 10) : ∀ (k m i : Nat) (S : kS), i + k = 3 → k < m → (S 4).1 2 = nI x → ∃ S', kfix (fun rec (q : kS × Int32) => FX1_restore_B32 n rec q.1 q.2) m (S, nI i) = some S' ∧ (∀ o, o < 6 + i ∨ 6 + n ≤ o → S' o = S o) ∧ ∀ f, i ≤ f → f < n → (S' (6 + f)).1 = (S (6 + f)).1 ∧ (S' (6 + f)).2 5 = va_cpy ((S 4).2 0) ((S (6 + f)).2 5) (15 * x + 5 * f) 0 5 ∧ (S' (6 + f)).2 6 = va_cpy ((S 4).2 1) ((S (6 + f)).2 6) (15 * x + 5 * f) 0 5 ∧ ∀ c, c ≠ 5 → c ≠ 6 → (S' (6 + f)).2 c = (S (6 + f)).2 c := by
  intro k
  induction k with
  | zero =>
    intro m i S hk hm hS
    obtain ⟨m, rfl⟩ : ∃ m', m = m' + 1 := ⟨m - 1, by omega⟩
    refine ⟨S, ?_, fun o _ => rfl, fun f h1 h2 => by omega⟩
    rw [kfix_s]
    generalize kfix (fun rec (q : kS × Int32) => FX1_restore_B32 n rec q.1 q.2) m = Rk
    simp (disch := omega) only [FX1_restore_B32, FX1_restore_J80, li_3, nI_l']
    rw [if_pos (by omega)]
  | succ k ih =>
    intro m i S hk hm hS
    obtain ⟨m, rfl⟩ : ∃ m', m = m' + 1 := ⟨m - 1, by omega⟩
    rw [kfix_s]
    by_cases hi : i < n
    · obtain ⟨S', q1, q2, q3⟩ := ih m (i + 1) (kpR (kpR S (6 + i) 5 (va_cpy ((S 4).2 0) ((S (6 + i)).2 5) (15 * x + 5 * i) 0 5)) (6 + i) 6 (va_cpy ((S 4).2 1) ((S (6 + i)).2 6) (15 * x + 5 * i) 0 5)) (by omega) (by omega) (by rw [pR_ne (by omega), pR_ne (by omega)]; exact hS)
      have r4 : kpR (kpR S (6 + i) 5 (va_cpy ((S 4).2 0) ((S (6 + i)).2 5) (15 * x + 5 * i) 0 5)) (6 + i) 6 (va_cpy ((S 4).2 1) ((S (6 + i)).2 6) (15 * x + 5 * i) 0 5) 4 = S 4 := by rw [pR_ne (by omega), pR_ne (by omega)]
      refine ⟨S', ?_, ?_, ?_⟩
      · generalize kfix (fun rec (q : kS × Int32) => FX1_restore_B32 n rec q.1 q.2) m = Rk at q1 ⊢
        have e : x * 15 + i * 5 = 15 * x + 5 * i := by omega
        have cf := c_copyFrom (S := S) (o := 6 + i) (x := 15 * x + 5 * i) (by omega) (by omega)
        simp (disch := omega) only [FX1_restore_B32, FX1_restore_J74, li_3, nI_l', show ¬ 3 ≤ i by omega, if_false, kin_t, kgd_t, kfo_t, kfm_t, kb, kopt_some, kI_eq, hS, li_5, show (15 : Int32) = nI 15 by decide +kernel, nI_mul, nI_add, e, cf, Option.bind_some, li_1]
        exact q1
      · intro o ho
        rw [q2 o (by omega), pR_ne (by omega), pR_ne (by omega)]
      · intro f h1 h2
        by_cases e : f = i
        · subst e
          rw [q2 (6 + f) (by omega)]
          refine ⟨rfl.trans ?_, ?_, ?_, fun c h5 h6 => ?_⟩
          · exact funext fun c => by rw [pR_1, pR_1]
          · rw [pR_2, if_neg (by omega), pR_2, if_pos ⟨rfl, rfl⟩]
          · rw [pR_2, if_pos ⟨rfl, rfl⟩]
          · rw [pR_2, if_neg (fun h => h6 h.2), pR_2, if_neg (fun h => h5 h.2)]
        · have := q3 f (by omega) h2
          rw [pR_ne (show 6 + f ≠ 6 + i by omega), pR_ne (show 6 + f ≠ 6 + i by omega), r4] at this
          exact this
    · obtain ⟨S', q1, q2, q3⟩ := ih m (i + 1) S (by omega) (by omega) hS
      refine ⟨S', ?_, fun o ho => q2 o (by omega), fun f h1 h2 => by omega⟩
      generalize kfix (fun rec (q : kS × Int32) => FX1_restore_B32 n rec q.1 q.2) m = Rk at q1 ⊢
      simp (disch := omega) only [FX1_restore_B32, FX1_restore_J74, li_3, nI_l', show ¬ 3 ≤ i by omega, if_false, kin_t, kgd_t, kfo_n, kb, kopt_none, li_1, nI_add]
      exact q1
theorem m_bloop {d : Nat} (hd : d < 10) : ∀ (k m i : Nat) (S : kS), i + k = 15 → k < m → (S 5).1 26 = nI d → (∀ x, x < 15 → (S 5).2 28 (15 * d + x) = 0 ∨ (S 5).2 28 (15 * d + x) = 1) → ∃ S', kfix (fun rec (q : kS × Int32) => FX6_back_B22 rec q.1 q.2) m (S, nI i) = some (nI d, S') ∧ (∀ o, o ≠ 5 → S' o = S o) ∧ (∀ c, (S' 5).1 c = if c = 29 then -1 else (S 5).1 c) ∧ (∀ x, x < 15 → (S' 5).2 7 x = if i ≤ x then (S 5).2 27 (15 * d + x) else (S 5).2 7 x) ∧ (∀ x, x < 15 → (S' 5).2 8 x = if i ≤ x then (S 5).2 28 (15 * d + x) else (S 5).2 8 x) ∧ ∀ c, c ≠ 7 → c ≠ 8 → (S' 5).2 c = (S 5).2 c := by
  intro k
  induction k with
  | zero =>
    intro m i S hk hm hS hb
    obtain ⟨m, rfl⟩ : ∃ m', m = m' + 1 := ⟨m - 1, by omega⟩
    refine ⟨kpI S 5 29 (-1), ?_, ?_, ?_, ?_, ?_, ?_⟩
    · rw [kfix_s]
      generalize kfix (fun rec (q : kS × Int32) => FX6_back_B22 rec q.1 q.2) m = Rk
      simp (disch := omega) only [FX6_back_B22, kb, kI_eq, show (15 : Int32) = nI 15 by decide +kernel, nI_l', pI_1, hS, and_false, Nat.reduceEqDiff, if_false]
      rw [if_pos (by omega)]
    · intro o ho
      rw [pI_ne ho]
    · intro c
      rw [pI_1]
      simp
    · intro x hx
      rw [if_neg (by omega)]
      rfl
    · intro x hx
      rw [if_neg (by omega)]
      rfl
    · intro c _ _
      rfl
  | succ k ih =>
    intro m i S hk hm hS hb
    obtain ⟨m, rfl⟩ : ∃ m', m = m' + 1 := ⟨m - 1, by omega⟩
    obtain ⟨S', q1, q2, q3, q4, q5, q6⟩ := ih m (i + 1) (kpR (kpR S 5 7 (upd ((S 5).2 7) i ((S 5).2 27 (15 * d + i)))) 5 8 (upd ((S 5).2 8) i ((S 5).2 28 (15 * d + i)))) (by omega) (by omega) hS hb
    have eb : (S 5).2 28 (15 * d + i) &&& 1 = (S 5).2 28 (15 * d + i) := by
      rcases hb i (by omega) with h | h <;> rw [h] <;> decide
    refine ⟨S', ?_, ?_, q3, ?_, ?_, ?_⟩
    · rw [kfix_s]
      generalize kfix (fun rec (q : kS × Int32) => FX6_back_B22 rec q.1 q.2) m = Rk at q1 ⊢
      simp (disch := omega) only [FX6_back_B22, kb, kI_eq, show (15 : Int32) = nI 15 by decide +kernel, nI_l', hS, nI_mul, nI_add, kin_t, kgd_t, kA_nI, kpA_nI, pR_1, pR_2, and_false, Nat.reduceEqDiff, if_false, eb]
      rw [if_neg (by omega), li_1, nI_add]
      exact q1
    · intro o ho
      rw [q2 o ho, pR_ne ho, pR_ne ho]
    · intro x hx
      rw [q4 x hx]
      show (if _ then (S 5).2 27 _ else upd ((S 5).2 7) i _ x) = _
      rw [upd_eq]
      by_cases h1 : i + 1 ≤ x
      · rw [if_pos h1, if_pos (by omega)]
      · rw [if_neg h1]
        by_cases h2 : x = i
        · rw [if_pos h2, if_pos (by omega), h2]
        · rw [if_neg h2, if_neg (by omega)]
    · intro x hx
      rw [q5 x hx]
      show (if _ then (S 5).2 28 _ else upd ((S 5).2 8) i _ x) = _
      rw [upd_eq]
      by_cases h1 : i + 1 ≤ x
      · rw [if_pos h1, if_pos (by omega)]
      · rw [if_neg h1]
        by_cases h2 : x = i
        · rw [if_pos h2, if_pos (by omega), h2]
        · rw [if_neg h2, if_neg (by omega)]
    · intro c h7 h8
      rw [q6 c h7 h8, pR_2, if_neg (fun h => h8 h.2), pR_2, if_neg (fun h => h7 h.2)]
def αback (α : kα) : kα := au (au (ac (ac α 6 (fun f p => α 26 (α 0 5 0 - 1) (5 * f + p))) 7 (fun f p => α 27 (α 0 5 0 - 1) (5 * f + p))) 0 5 0 (α 0 5 0 - 1)) 0 12 0 0

