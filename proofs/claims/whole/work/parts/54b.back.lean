/-! back -/
theorem c_back {α : kα} {S : kS} {nx : Nat} (hc : RC S α) (h3 : α 0 0 0 ≤ 3) (h10 : α 0 5 0 ≤ 10) (h0 : ¬ α 0 5 0 = 0) (n1 : nx < 10) (n2 : (S 4).1 2 = nI nx) : ∃ S1, FX5_back (α 0 0 0) S = some (nI (α 0 5 0 - 1), S1) ∧ S1 0 = ((fun c => if c = 13 then -1 else if c = 12 then -1 else (S 0).1 c), (S 0).2) ∧ S1 4 = ((fun c => if c = 3 then nI (α 0 5 0 - 1) else if c = 2 then nI ((nx + 9) % 10) else (S 4).1 c), (S 4).2) ∧ (∀ o, 0 < o → o < 6 → o ≠ 4 → S1 o = S o) ∧ ∀ f, f < α 0 0 0 → (S1 (6 + f)).1 = (S (6 + f)).1 ∧ (S1 (6 + f)).2 5 = va_cpy ((S 4).2 0) ((S (6 + f)).2 5) (15 * ((nx + 9) % 10) + 5 * f) 0 5 ∧ (S1 (6 + f)).2 6 = va_cpy ((S 4).2 1) ((S (6 + f)).2 6) (15 * ((nx + 9) % 10) + 5 * f) 0 5 ∧ ∀ c, c ≠ 5 → c ≠ 6 → (S1 (6 + f)).2 c = (S (6 + f)).2 c := by
  have e1 : nI (α 0 5 0) - 1 = nI (α 0 5 0 - 1) := by rw [sub1, nO_31 (by omega) h0]
  have e9 : nx + 10 - 1 = nx + 9 := by omega
  have es : nI (nx + 10) - 1 = nI (nx + 9) := by rw [li_1, nI_sub (by omega), e9]
  have emax : kmax 0 (nI (α 0 5 0 - 1)) = nI (α 0 5 0 - 1) := by
    unfold kmax
    by_cases h : (0 : Int32) < nI (α 0 5 0 - 1)
    · rw [if_pos h]
    · rw [if_neg h]
      rw [kI_0t (by omega)] at h
      rw [show α 0 5 0 - 1 = 0 by omega, nI_0]
  obtain ⟨nx', _, _, n3, _⟩ := hc.2.2.2.1
  have hsz := h_size hc.2.2.2.1
  generalize α 0 5 0 - 1 = d at *
  generalize hx' : (nx + 9) % 10 = y
  have er : nI (nx + 9) - nI (nx + 9) / nI 10 * nI 10 = nI y := by rw [nI_rem (by omega) (by omega), hx']
  obtain ⟨S', q1, q2, q3⟩ := c_restL (n := α 0 0 0) (x := y) h3 (by omega) 3 kfuel 0 (kpI (kpI S 4 2 (nI y)) 4 3 (nI d)) (by omega) (by unfold kfuel; omega) (by rw [pI_1, if_neg (by omega), pI_1, if_pos ⟨rfl, rfl⟩])
  have y4 : S' 4 = ((fun c => if c = 3 then nI d else if c = 2 then nI y else (S 4).1 c), (S 4).2) := by
    rw [q2 4 (by omega)]
    refine Prod.ext (funext fun c => ?_) ?_
    · rw [pI_1, pI_1]; simp
    · rw [pI_2, pI_2]
  have z4 : kpI (kpI S' 0 12 (-1)) 0 13 (-1) 4 = S' 4 := by rw [pI_ne (by omega), pI_ne (by omega)]
  have y43 : (S' 4).1 3 = nI d := by rw [y4]; rfl
  refine ⟨kpI (kpI S' 0 12 (-1)) 0 13 (-1), ?_, ?_, ?_, ?_, ?_⟩
  · unfold FX5_back FX1_restore FX1_restore_L32 FX5_forgetConfirm
    rw [hsz]
    rw [nI_0] at q1
    generalize kfix (fun rec (q : kS × Int32) => FX1_restore_B32 (α 0 0 0) rec q.1 q.2) kfuel = Rk at q1 ⊢
    simp (disch := omega) only [Option.bind_some, kI_0t, show 0 < α 0 5 0 by omega, if_true, kb, kI_eq, n2, li_10, nI_add, es, er, pI_1, and_false, Nat.reduceEqDiff, if_false, n3, e1, emax, q1]
    unfold FX1_size
    simp only [kb, kI_eq, z4, y43, Option.bind_some]
  · have s0 : S' 0 = S 0 := by rw [q2 0 (by omega), pI_ne (by omega), pI_ne (by omega)]
    refine Prod.ext (funext fun c => ?_) ?_
    · rw [pI_1, pI_1, s0]; simp
    · rw [pI_2, pI_2, s0]
  · rw [z4, y4]
  · intro o h1 h2 h4
    rw [pI_ne (by omega), pI_ne (by omega), q2 o (by omega), pI_ne h4, pI_ne h4]
  · intro f hf
    obtain ⟨u1, u2, u3, u4⟩ := q3 f (by omega) hf
    rw [pI_ne (show 6 + f ≠ 4 by omega), pI_ne (show 6 + f ≠ 4 by omega)] at u1 u2 u3
    simp only [pI_ne (show 6 + f ≠ 4 by omega)] at u4
    rw [pI_2, pI_2] at u2 u3
    rw [pI_ne (by omega), pI_ne (by omega)]
    exact ⟨u1, u2, u3, u4⟩
