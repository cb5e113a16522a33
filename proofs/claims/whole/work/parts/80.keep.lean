/-! the lines kept -/
theorem c_copyTo {S : kS} {o x : Nat} (hx : x ≤ 145) (ho : o ≠ 4) : FX0_copyTo o S (nI x) = some (kpR (kpR S 4 0 (va_cpy ((S o).2 5) ((S 4).2 0) 0 x 5)) 4 1 (va_cpy ((S o).2 6) ((S 4).2 1) 0 x 5)) := by
  unfold FX0_copyTo FX0_holdsForm_0 FX0_holdsForm_1 FX0_holdsForm_0_J21 FX0_holdsForm_1_J21 FX0_copyTo_J38
  have hk : kcp (0 : Int32) (nI x) (5 : Int32) 5 150 = true := by
    unfold kcp
    rw [nI_clamp (by omega), clamp0, clamp5]
    have : ¬ nI x < 0 := nI_pos (by omega)
    exact decide_eq_true ⟨by decide, this, by decide, by omega, by omega⟩
  have h4 : ∀ g, kpR S 4 0 g o = S o := fun g => pR_ne ho
  have ho6 : ∀ g, (kpR S 4 0 g 4).2 1 = (S 4).2 1 := fun g => by rw [pR_2, if_neg (by omega)]
  simp (disch := omega) only [nI_neg, if_false, e145, nI_t', show ¬ 145 < x by omega, kz_1, kgd_t, Option.bind_some, o_ne, hk, kb, h4, ho6, nI_clamp, clamp0, clamp5]
theorem c_keepL {n x : Nat} (hn : n ≤ 3) (hx : x < 10) : ∀ (k m i : Nat) (S : kS), i + k = 3 → k < m → (S 4).1 2 = nI x → ∃ S', kfix (fun rec (q : kS × Int32) => FX1_keep_B2 n rec q.1 q.2) m (S, nI i) = FX1_keep_J50 n S' ∧ (∀ o, o ≠ 4 → S' o = S o) ∧ (S' 4).1 = (S 4).1 ∧ (∀ y, (S' 4).2 0 y = if 15 * x + 5 * i ≤ y ∧ y < 15 * x + 5 * n then (S (6 + (y - 15 * x) / 5)).2 5 ((y - 15 * x) % 5) else (S 4).2 0 y) ∧ (∀ y, (S' 4).2 1 y = if 15 * x + 5 * i ≤ y ∧ y < 15 * x + 5 * n then (S (6 + (y - 15 * x) / 5)).2 6 ((y - 15 * x) % 5) else (S 4).2 1 y) := by
  intro k
  induction k with
  | zero =>
    intro m i S hk hm hS
    obtain ⟨m, rfl⟩ : ∃ m', m = m' + 1 := ⟨m - 1, by omega⟩
    refine ⟨S, ?_, fun o _ => rfl, rfl, fun y => by rw [if_neg (by omega)], fun y => by rw [if_neg (by omega)]⟩
    rw [kfix_s]
    generalize kfix (fun rec (q : kS × Int32) => FX1_keep_B2 n rec q.1 q.2) m = Rk
    show FX1_keep_B2 n Rk S (nI i) = _
    unfold FX1_keep_B2
    rw [if_pos (show (3 : Int32) ≤ nI i by rw [li_3, nI_l' (by omega) (by omega)]; omega)]
  | succ k ih =>
    intro m i S hk hm hS
    obtain ⟨m, rfl⟩ : ∃ m', m = m' + 1 := ⟨m - 1, by omega⟩
    rw [kfix_s]
    by_cases hi : i < n
    · obtain ⟨S', q1, q2, q3, q4, q5⟩ := ih m (i + 1) (kpR (kpR S 4 0 (va_cpy ((S (6 + i)).2 5) ((S 4).2 0) 0 (15 * x + 5 * i) 5)) 4 1 (va_cpy ((S (6 + i)).2 6) ((S 4).2 1) 0 (15 * x + 5 * i) 5)) (by omega) (by omega) (by rw [pR_1, pR_1]; exact hS)
      clear ih
      have z0 : (kpR (kpR S 4 0 (va_cpy ((S (6 + i)).2 5) ((S 4).2 0) 0 (15 * x + 5 * i) 5)) 4 1 (va_cpy ((S (6 + i)).2 6) ((S 4).2 1) 0 (15 * x + 5 * i) 5) 4).2 0 = va_cpy ((S (6 + i)).2 5) ((S 4).2 0) 0 (15 * x + 5 * i) 5 := by rw [pR_2, if_neg (by omega), pR_2, if_pos ⟨rfl, rfl⟩]
      have z1 : (kpR (kpR S 4 0 (va_cpy ((S (6 + i)).2 5) ((S 4).2 0) 0 (15 * x + 5 * i) 5)) 4 1 (va_cpy ((S (6 + i)).2 6) ((S 4).2 1) 0 (15 * x + 5 * i) 5) 4).2 1 = va_cpy ((S (6 + i)).2 6) ((S 4).2 1) 0 (15 * x + 5 * i) 5 := by rw [pR_2, if_pos ⟨rfl, rfl⟩]
      have zo : ∀ j, kpR (kpR S 4 0 (va_cpy ((S (6 + i)).2 5) ((S 4).2 0) 0 (15 * x + 5 * i) 5)) 4 1 (va_cpy ((S (6 + i)).2 6) ((S 4).2 1) 0 (15 * x + 5 * i) 5) (6 + j) = S (6 + j) := fun j => by rw [pR_ne (by omega), pR_ne (by omega)]
      simp only [z0, z1, zo] at q4 q5
      refine ⟨S', ?_, fun o ho => by rw [q2 o ho, pR_ne ho, pR_ne ho], ?_, fun y => ?_, fun y => ?_⟩
      · generalize kfix (fun rec (q : kS × Int32) => FX1_keep_B2 n rec q.1 q.2) m = Rk at q1 ⊢
        have e : x * 15 + i * 5 = 15 * x + 5 * i := by omega
        have cf := c_copyTo (S := S) (o := 6 + i) (x := 15 * x + 5 * i) (by omega) (by omega)
        simp (disch := omega) only [FX1_keep_B2, FX1_keep_J44, li_3, nI_l', show ¬ 3 ≤ i by omega, if_false, kin_t, kgd_t, kfo_t, kfm_t, kb, kopt_some, kI_eq, hS, li_5, show (15 : Int32) = nI 15 by decide +kernel, nI_mul, nI_add, e, cf, Option.bind_some, li_1]
        exact q1
      · rw [q3]
        exact funext fun c => by rw [pR_1, pR_1]
      · rw [q4 y]
        unfold va_cpy
        by_cases h1 : 15 * x + 5 * (i + 1) ≤ y ∧ y < 15 * x + 5 * n
        · rw [if_pos h1, if_pos (by omega)]
        · rw [if_neg h1]
          by_cases h2 : 15 * x + 5 * i ≤ y ∧ y < 15 * x + 5 * i + 5
          · rw [if_pos h2, if_pos (by omega), show (y - 15 * x) / 5 = i by omega, show (y - 15 * x) % 5 = 0 + (y - (15 * x + 5 * i)) by omega]
          · rw [if_neg h2, if_neg (by omega)]
      · rw [q5 y]
        unfold va_cpy
        by_cases h1 : 15 * x + 5 * (i + 1) ≤ y ∧ y < 15 * x + 5 * n
        · rw [if_pos h1, if_pos (by omega)]
        · rw [if_neg h1]
          by_cases h2 : 15 * x + 5 * i ≤ y ∧ y < 15 * x + 5 * i + 5
          · rw [if_pos h2, if_pos (by omega), show (y - 15 * x) / 5 = i by omega, show (y - 15 * x) % 5 = 0 + (y - (15 * x + 5 * i)) by omega]
          · rw [if_neg h2, if_neg (by omega)]
    · obtain ⟨S', q1, q2, q3, q4, q5⟩ := ih m (i + 1) S (by omega) (by omega) hS
      clear ih
      refine ⟨S', ?_, q2, q3, fun y => by rw [q4 y, if_neg (by omega), if_neg (by omega)], fun y => by rw [q5 y, if_neg (by omega), if_neg (by omega)]⟩
      generalize kfix (fun rec (q : kS × Int32) => FX1_keep_B2 n rec q.1 q.2) m = Rk at q1 ⊢
      simp (disch := omega) only [FX1_keep_B2, FX1_keep_J44, li_3, nI_l', show ¬ 3 ≤ i by omega, if_false, kin_t, kgd_t, kfo_n, kb, kopt_none, li_1, nI_add]
      exact q1
