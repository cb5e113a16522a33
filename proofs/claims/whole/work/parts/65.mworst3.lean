/-! the reference forgets, and answers worst -/
theorem l3125 : (3125 : Int32) = nI 3125 := by decide +kernel
theorem m_fgloop : ∀ (k m i : Nat) (S : kS), i + k = 3125 → k < m → ∃ S', kfix (fun rec (q : kS × Int32) => FX6_forget_B2 rec q.1 q.2) m (S, nI i) = some S' ∧ (∀ o, o ≠ 5 → S' o = S o) ∧ (S' 5).1 = (S 5).1 ∧ (∀ c, c ≠ 44 → (S' 5).2 c = (S 5).2 c) ∧ (∀ x, (S' 5).2 44 x = if i ≤ x ∧ x < 3125 then -1 else (S 5).2 44 x) := by
  intro k
  induction k with
  | zero =>
    intro m i S hk hm
    obtain ⟨m, rfl⟩ : ∃ m', m = m' + 1 := ⟨m - 1, by omega⟩
    refine ⟨S, ?_, fun _ _ => rfl, rfl, fun _ _ => rfl, fun x => by rw [if_neg (by omega)]⟩
    rw [kfix_s]
    generalize kfix (fun rec (q : kS × Int32) => FX6_forget_B2 rec q.1 q.2) m = Rk
    show FX6_forget_B2 Rk S (nI i) = _
    unfold FX6_forget_B2
    rw [if_pos (by rw [l3125, nI_l' (by omega) (by omega)]; omega)]
  | succ k ih =>
    intro m i S hk hm
    obtain ⟨m, rfl⟩ : ∃ m', m = m' + 1 := ⟨m - 1, by omega⟩
    obtain ⟨S', q1, q2, q3, q4, q5⟩ := ih m (i + 1) (kpR S 5 44 (upd ((S 5).2 44) i (-1))) (by omega) (by omega)
    clear ih
    refine ⟨S', ?_, fun o ho => by rw [q2 o ho, pR_ne ho], q3, fun c hc => by rw [q4 c hc, pR_2, if_neg (fun h => hc h.2)], fun x => ?_⟩
    · rw [kfix_s]
      generalize kfix (fun rec (q : kS × Int32) => FX6_forget_B2 rec q.1 q.2) m = Rk at q1 ⊢
      show FX6_forget_B2 Rk S (nI i) = _
      unfold FX6_forget_B2
      rw [if_neg (by rw [l3125, nI_l' (by omega) (by omega)]; omega), kin_t (by omega) (by omega), kgd_t, kpA_nI (by omega), li_1, nI_add]
      exact q1
    · rw [q5 x]
      show (if _ then -1 else upd ((S 5).2 44) i (-1) x) = _
      rw [upd_eq]
      by_cases h1 : i + 1 ≤ x ∧ x < 3125
      · rw [if_pos h1, if_pos (by omega)]
      · rw [if_neg h1]
        by_cases h2 : x = i
        · rw [if_pos h2, if_pos (by omega)]
        · rw [if_neg h2, if_neg (by omega)]
theorem m_forget {S : kS} {α : kα} {f : Nat} (hM : MS (S 5) α) : ∃ S', FX6_forget S = some S' ∧ PM S S' α α f := by
  obtain ⟨S', q1, q2, q3, q4, q5⟩ := m_fgloop 3125 kfuel 0 S (by omega) (by unfold kfuel; omega)
  refine ⟨S', ?_, q2, q3, fun c _ _ h => q4 c h, ?_, fun β _ hd => Or.inl ?_⟩
  · unfold FX6_forget FX6_forget_L2
    rw [nI_0] at q1
    exact q1
  · unfold MS
    rw [q4 2 (by omega), q4 9 (by omega), q4 7 (by omega), q4 8 (by omega)]
    exact hM
  · rw [q5, if_pos ⟨by omega, encM_lt hd⟩]
theorem PM_end {S0 S : kS} {α : kα} {f : Nat} (h : PM S0 S α α f) (hM : RM (S0 5) α) : RM (S 5) α := by
  obtain ⟨p1, p2, p3, p4, p5⟩ := h
  refine ⟨?_, ?_, ?_, p4, fun g hg => ?_⟩
  · unfold MT; rw [p2, p3 24 (by omega) (by omega) (by omega), p3 32 (by omega) (by omega) (by omega)]; exact hM.1
  · unfold MR; rw [p2, p3 17 (by omega) (by omega) (by omega), p3 18 (by omega) (by omega) (by omega), p3 19 (by omega) (by omega) (by omega), p3 20 (by omega) (by omega) (by omega), p3 21 (by omega) (by omega) (by omega), p3 22 (by omega) (by omega) (by omega)]; exact hM.2.1
  · unfold MH; rw [p2, p3 27 (by omega) (by omega) (by omega), p3 28 (by omega) (by omega) (by omega)]; exact hM.2.2.1
  · unfold MF; rw [p3 3 (by omega) (by omega) (by omega), p3 4 (by omega) (by omega) (by omega), p3 5 (by omega) (by omega) (by omega), p3 6 (by omega) (by omega) (by omega), p3 10 (by omega) (by omega) (by omega), p3 11 (by omega) (by omega) (by omega), p3 12 (by omega) (by omega) (by omega), p3 13 (by omega) (by omega) (by omega), p3 14 (by omega) (by omega) (by omega), p3 15 (by omega) (by omega) (by omega)]; exact hM.2.2.2.2 g hg
theorem uns_5 (α : kα) (f : Nat) : uns α f ≤ 5 := by
  have h : ∀ p, un1 α f p ≤ 1 := fun p => by unfold un1; split <;> omega
  have a0 := h 0; have a1 := h 1; have a2 := h 2; have a3 := h 3; have a4 := h 4
  unfold uns
  omega
theorem mw_shape (FG : kS → Option kS) (WR : kS × Int32 → Option (Int32 × kS)) (S : kS) (x : Int32) (hx : kI S 5 25 = x) : (kb (kI S 5 25) fun x1 => if x1 = 0 then (some ((-3 : Int32), S)) else ((FG S).bind fun S1 => kb (kI S1 5 25) fun x2 => kgd (kin (x2 - (1 : Int32)) 3) <| kb (kA S1 5 24 (x2 - (1 : Int32))) fun x3 => kb2 (WR (S1, x3)) fun x4 S2 => some (x4, S2))) = if x = 0 then some (-3, S) else ((FG S).bind fun S1 => kgd (kin (kI S1 5 25 - 1) 3) <| WR (S1, kA S1 5 24 (kI S1 5 25 - 1))) := by
  rw [hx]
  show (if x = 0 then _ else _) = _
  split
  · rfl
  · refine congrArg _ (funext fun S1 => ?_)
    show kgd _ _ = kgd _ _
    refine congrArg _ ?_
    simp only [kb, kb2]
    cases WR (S1, kA S1 5 24 (kI S1 5 25 - 1)) <;> rfl
theorem m_worst {α : kα} {S : kS} {k : Nat} (hw : WF α k) (hm : RM (S 5) α) (h0 : ¬ α 0 1 0 = 0) : ∃ S', FX6_worst S = some (nI (VV α (top α)), S') ∧ (∀ o, o ≠ 5 → S' o = S o) ∧ RM (S' 5) α := by
  have hT := hw.2.2.2.1
  have h3 := hw.1.1
  have hp3 := hT.1
  have hf : top α < α 0 0 0 := hT.2.1 _ (by omega)
  obtain ⟨w1, w2, w3, w4⟩ := hw.1.2.1 _ hf
  obtain ⟨S1, f1, f2⟩ := m_forget (f := top α) hm.2.2.2.1
  have hm1 := PM_end f2 hm
  obtain ⟨S2, g1, g2⟩ := m_worstOf (S0 := S) (hm.2.2.2.2 _ hf) w1 w3 (by omega) 6 α S1 (sameB_refl _ _) w2 (by have := uns_5 α (top α); omega) f2
  refine ⟨S2, ?_, g2.1, PM_end g2 hm⟩
  obtain ⟨t1, t2⟩ := m_top hm1.1 hT h0
  have k1 : kI S1 5 25 = nI (α 0 1 0) := hm1.1.2.1.1
  unfold FX6_worst
  rw [mw_shape FX6_forget (FX6_worstOfR 6) S (nI (α 0 1 0)) hm.1.2.1.1, if_neg (by rw [nI_z (by omega)]; exact h0), f1, Option.bind_some, k1, t1, t2, kgd_t]
  exact g1
