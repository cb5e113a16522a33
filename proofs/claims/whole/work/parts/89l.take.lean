/-! what a line changes, whole -/
def stk (s v : Nat) : Nat := if s / 2 ^ v % 2 = 1 then s - 2 ^ v else s
theorem stk_le (s v : Nat) : stk s v ≤ s := by
  unfold stk
  split
  · exact Nat.sub_le _ _
  · exact Nat.le_refl _
theorem stk_bit : ∀ s, s < 16 → ∀ v, v < 4 → nI s &&& (((1 : Int32) <<< (nI v &&& 31)) ^^^ -1) = nI (stk s v) := by decide +kernel
def Of (α : kα) (f p : Nat) : Nat := TT α f (4 + p) 0
def tk (α : kα) (f : Nat) : kα × Nat := if ans α f = 2 ∧ α 0 12 0 ≠ 0 then (stl α f (α 0 12 0 - 1) (2 ^ α 0 13 0) (α 0 13 0 + 1), broken (sp α f (α 0 12 0 - 1) (2 ^ α 0 13 0) (α 0 13 0 + 1)) f) else if ans α f = 3 ∧ α 0 12 0 ≠ 0 then (sp α f (α 0 12 0 - 1) (stk (α 6 f (α 0 12 0 - 1)) (α 0 13 0)) 0, 0) else fgos (Of α f) f (α 1 f 0) 0 α 0
/-- what is asked -/
def aq (α : kα) (f : Nat) : Prop := 0 < α 0 12 0 → α 0 12 0 - 1 < α 1 f 0 ∧ α 2 f (α 0 12 0 - 1) ≠ 1 ∧ α 7 f (α 0 12 0 - 1) = 0 ∧ α 0 13 0 < α 3 f (α 0 12 0 - 1)
theorem sX_rf {α : kα} {f : Nat} (hs : wfS α f) : sX α α f := ⟨fun _ _ _ _ _ => rfl, fun _ _ _ _ => rfl, hs⟩
theorem cok_yes {α : kα} {f p v : Nat} (hp : p < α 1 f 0) (hk : α 2 f p ≠ 1) (hv : v < α 3 f p) : cok α f p (2 ^ v) (v + 1) := ⟨fun _ => ⟨Nat.pow_lt_pow_right (by omega) hv, by omega, fun _ => rfl⟩, fun q => absurd ⟨hp, hk⟩ q⟩
theorem cok_no {α : kα} {f p v : Nat} (hs : wfS α f) (h5 : p < 5) (hp : p < α 1 f 0) (hk : α 2 f p ≠ 1) : cok α f p (stk (α 6 f p) v) 0 := by
  have := (hs p h5).1 ⟨hp, hk⟩
  have := stk_le (α 6 f p) v
  exact ⟨fun _ => ⟨by omega, by omega, fun h => by omega⟩, fun q => absurd ⟨hp, hk⟩ q⟩
section TK
variable {α : kα} {f : Nat}
theorem Of_bd (hG : wfG α f) : ∀ p, p < 5 → fbd α f p (Of α f p) := fun p hp => (TT_b hG.1 hG.2.1 hG.2.2.1 hG.2.2.2.1 (α 0 2 0) 0 (by omega) (by omega)).2.2.2.2.2 p hp
theorem tk_sX (hG : wfG α f) (hs : wfS α f) (hr : wfR α f) (hq : aq α f) : sX α (tk α f).1 f ∧ (tk α f).2 ≤ 6 := by
  have h5 := hG.2.2.1.1
  unfold tk
  by_cases c1 : ans α f = 2 ∧ α 0 12 0 ≠ 0
  · rw [if_pos c1]
    obtain ⟨a1, a2, a3, a4⟩ := hq (by omega)
    exact ⟨sX_stl (sX_rf hs) (cok_yes a1 a2 a4), broken_le (show wfR (sp α f _ _ _) f from hr)⟩
  · rw [if_neg c1]
    by_cases c2 : ans α f = 3 ∧ α 0 12 0 ≠ 0
    · rw [if_pos c2]
      obtain ⟨a1, a2, a3, a4⟩ := hq (by omega)
      exact ⟨sX_sp (sX_rf hs) (cok_no hs (by omega) a1 a2), by show 0 ≤ 6; omega⟩
    · rw [if_neg c2]
      exact fgos_sX hG.2.2.1 hr (Of_bd hG) (α 1 f 0) 0 0 α (by omega) (by omega) (sX_rf hs)
theorem c_take {S : kS} (hG : wfG α f) (hs : wfS α f) (hr : wfR α f) (hq : aq α f) (ha : (S 2).1 7 = nO (ans α f)) (hT : ∀ p, p < 5 → (S 2).2 6 p = nI (Of α f p)) (h12 : (S 0).1 12 = nO (α 0 12 0)) (h13 : 0 < α 0 12 0 → (S 0).1 13 = nI (α 0 13 0)) (hF : RF (S (6 + f)) α f) (bA : ans α f < 1000) : ∃ S', FX5_takeLine (6 + f) S = some (nO (tk α f).2, S') ∧ (∀ o, o ≠ 6 + f → S' o = S o) ∧ RF (S' (6 + f)) (tk α f).1 f := by
  have hw := hG.2.2.1
  have h5 := hw.1
  obtain ⟨Sf, q1, q2, q3⟩ := c_fills (O := Of α f) hw hs hr (Of_bd hG) hT hF
  have x1 : FX3_answer S = some (nO (ans α f)) := by
    unfold FX3_answer
    simp only [kb, kI_eq, ha]
  have cJ : FX5_takeLine_J26 (6 + f) S = some (nO (fgos (Of α f) f (α 1 f 0) 0 α 0).2, Sf) := by
    unfold FX5_takeLine_J26
    rw [q1]
    rfl
  by_cases h0 : α 0 12 0 = 0
  · have et : tk α f = fgos (Of α f) f (α 1 f 0) 0 α 0 := by unfold tk; rw [if_neg (fun h => h.2 h0), if_neg (fun h => h.2 h0)]
    rw [et]
    refine ⟨Sf, ?_, q2, q3⟩
    unfold FX5_takeLine
    rw [x1, Option.bind_some, kI_eq, h12, h0, nO_0, kb, if_pos rfl]
    exact cJ
  · obtain ⟨a1, a2, a3, a4⟩ := hq (by omega)
    have h4 := (hw.2 _ a1).2.2.1
    have e12 : (S 0).1 12 = nI (α 0 12 0 - 1) := by rw [h12, nO_31 (by omega) h0]
    have e13 := h13 (by omega)
    have op : FX5_takeLine (6 + f) S = if ans α f = 2 then FX5_takeLine_J32 (6 + f) S 1 else if ans α f = 3 then FX5_takeLine_J32 (6 + f) S 2 else FX5_takeLine_J26 (6 + f) S := by
      unfold FX5_takeLine
      rw [x1, Option.bind_some, kI_eq, e12, kb, if_neg (by rw [nI_m1 (by omega)]; exact fun h => h)]
      have e1 : (nO (ans α f) = 1) = (ans α f = 2) := by rw [li_1, nO_e (by omega) (by omega)]
      have e2 : (nO (ans α f) = 2) = (ans α f = 3) := by rw [li_2, nO_e (by omega) (by omega)]
      by_cases c1 : ans α f = 2
      · rw [if_pos (by rw [e1]; exact c1), if_pos c1, c1]
        rfl
      · rw [if_neg (by rw [e1]; exact c1), if_neg c1]
        by_cases c2 : ans α f = 3
        · rw [if_pos (by rw [e2]; exact c2), if_pos c2, c2]
          rfl
        · rw [if_neg (by rw [e2]; exact c2), if_neg c2]
    rw [op]
    by_cases c1 : ans α f = 2
    · have et : tk α f = (stl α f (α 0 12 0 - 1) (2 ^ α 0 13 0) (α 0 13 0 + 1), broken (sp α f (α 0 12 0 - 1) (2 ^ α 0 13 0) (α 0 13 0 + 1)) f) := by unfold tk; rw [if_pos ⟨c1, h0⟩]
      obtain ⟨S', s1, s2, s3⟩ := c_settle hF hw hs hr a1 a2 (cok_yes a1 a2 a4)
      rw [if_pos c1, et]
      refine ⟨S', ?_, s2, s3⟩
      unfold FX5_takeLine_J32
      rw [nO_s] at s1
      rw [if_pos rfl]
      simp only [kb, kI_eq, e12, e13]
      rw [sh_1 _ (by omega), s1]
      rfl
    · rw [if_neg c1]
      by_cases c2 : ans α f = 3
      · have et : tk α f = (sp α f (α 0 12 0 - 1) (stk (α 6 f (α 0 12 0 - 1)) (α 0 13 0)) 0, 0) := by unfold tk; rw [if_neg (fun h => c1 h.1), if_pos ⟨c2, h0⟩]
        have h16 := (wf_su hw hs (p := α 0 12 0 - 1) (by omega)).2.1
        have cp := c_put hF hw a1 (nI (stk (α 6 f (α 0 12 0 - 1)) (α 0 13 0))) (nO 0)
        have d5 := hF.2.1.1 (α 0 12 0 - 1) (by omega)
        rw [if_pos c2, et]
        refine ⟨_, ?_, fun o ho => by rw [pR_ne ho, pR_ne ho], RF_put (p := α 0 12 0 - 1) (s := stk (α 6 f (α 0 12 0 - 1)) (α 0 13 0)) (v := 0) hF⟩
        unfold FX5_takeLine_J32
        rw [if_neg (by decide)]
        simp only [kb, kI_eq, e12, e13]
        unfold FX0_strike FX0_strike_J27
        rw [c_hasValue hF hw a1 a4, Option.bind_some, if_neg (by decide)]
        simp (disch := omega) only [kin_t, kgd_t, kb, kA_nI, d5]
        rw [stk_bit _ h16 _ (by omega), m1_eq, cp]
        rfl
      · have et : tk α f = fgos (Of α f) f (α 1 f 0) 0 α 0 := by unfold tk; rw [if_neg (fun h => c1 h.1), if_neg (fun h => c2 h.1)]
        rw [if_neg c2, et]
        exact ⟨Sf, cJ, q2, q3⟩
theorem fgos_id {O : Nat → Nat} (h : ∀ p, p < 5 → O p % 16 = 0) : ∀ (k p b : Nat) (γ : kα), p + k ≤ 5 → fgos O f k p γ b = (γ, b) := by
  intro k
  induction k with
  | zero => intro p b γ _; rfl
  | succ k ih =>
    intro p b γ hk
    have e1 : fp O γ f p = γ := by unfold fp; rw [if_pos (Or.inr (h p (by omega)))]
    have e2 : fb O γ f p = 0 := by unfold fb; rw [if_pos (Or.inr (h p (by omega)))]
    rw [fgos_s, e1, e2, ih (p + 1) _ _ (by omega)]
    congr 1
    split <;> omega
theorem m_answers {S0 S : kS} (hG : wfG α f) (hN : α 0 0 0 ≤ 3) (hs : wfS α f) (hr : wfR α f) (hq : aq α f) (hL0 : α 0 2 0 ≠ 0) (h0 : α 0 12 0 ≠ 0) (hS : FM S0 S (fgos (Of α f) f (α 1 f 0) 0 α 0).1 (fgos (Of α f) f (α 1 f 0) 0 α 0).2) (hM : MF (S0 5) α f) (hD : MD (S0 5) α f) (h34 : ∀ i, i ≤ α 0 2 0 → (S0 5).2 34 i = nI (TT α f 0 i)) (h35 : (S0 5).2 35 0 = nI (TT α f 1 0)) (h29 : (S0 5).1 29 = nO (α 0 12 0)) (h30 : (S0 5).1 30 = nI (α 0 13 0)) : ∃ S', FX6_answers S (nI f) = some S' ∧ FM S0 S' (tk α f).1 (tk α f).2 := by
  have hw := hG.2.2.1
  have hf := hG.2.2.2.2
  have h5 := hw.1
  obtain ⟨a1, a2, a3, a4⟩ := hq (by omega)
  have h4 := (hw.2 _ a1).2.2.1
  have e29 : (S 5).1 29 = nI (α 0 12 0 - 1) := by rw [hS.2.1 29 (by omega), h29, nO_31 (by omega) h0]
  have e30 : (S 5).1 30 = nI (α 0 13 0) := by rw [hS.2.1 30 (by omega), h30]
  have g34 : ∀ i, i ≤ α 0 2 0 → (S 5).2 34 i = nI (TT α f 0 i) := fun i hi => by rw [hS.2.2.1 34 (by omega) (by omega) (by omega)]; exact h34 i hi
  have g35 : (S 5).2 35 0 = nI (TT α f 1 0) := by rw [hS.2.2.1 35 (by omega) (by omega) (by omega)]; exact h35
  have al1 := m_all (t := 1) (FM_MD hS hD) hG hN (by omega) g34 g35
  have al2 := m_all (t := 2) (FM_MD hS hD) hG hN (by omega) g34 g35
  rw [← li_1] at al1
  rw [← li_2] at al2
  have ex : (5 : Int32) * nI f + nI (α 0 12 0 - 1) = nI (5 * f + (α 0 12 0 - 1)) := by rw [li_5, nI_mul, nI_add]
  have idn : ∀ t, t ≠ 0 → al α f t = true → FM S0 S α 0 := fun t ht hl => by
    have := fgos_id (f := f) (O := Of α f) (fun p hp => by unfold Of; rw [all_16 hG hL0 ht hl hp]) (α 1 f 0) 0 0 α (by omega)
    rw [this] at hS
    exact hS
  unfold FX6_answers FX6_answers_J81
  simp (disch := omega) only [kb, kI_eq, e29, ex, kin_t, kgd_t, kA_nI, kpA_nI, al1, al2, e30, Option.bind_some]
  by_cases c1 : al α f 1 = true
  · have hans := (ans_iff hG hL0).mpr c1
    have et : tk α f = (stl α f (α 0 12 0 - 1) (2 ^ α 0 13 0) (α 0 13 0 + 1), broken (sp α f (α 0 12 0 - 1) (2 ^ α 0 13 0) (α 0 13 0 + 1)) f) := by unfold tk; rw [if_pos ⟨hans, h0⟩]
    have hS1 := idn 1 (by omega) c1
    have d7 : (S 5).2 7 (5 * f + (α 0 12 0 - 1)) = nI (α 6 f (α 0 12 0 - 1)) := hS1.2.2.2.2.2.2.1 f _ hf (by omega)
    obtain ⟨S', s1, s2⟩ := m_stl (S1 := kpR (kpR S 5 7 (upd ((S 5).2 7) (5 * f + (α 0 12 0 - 1)) (nI (2 ^ α 0 13 0)))) 5 8 (upd ((S 5).2 8) (5 * f + (α 0 12 0 - 1)) 1)) (s := 2 ^ α 0 13 0) (v := α 0 13 0 + 1) hS1 (by omega) (sX_rf hs) hw hr hf (show α 0 12 0 - 1 < 5 by omega) (cok_yes a1 a2 a4) hM (fun o ho => by rw [pR_ne ho, pR_ne ho]) rfl (fun c h7 h8 => by rw [pR_2, if_neg (fun h => h8 h.2), pR_2, if_neg (fun h => h7 h.2)]) (fun y => rfl) (fun y => by rw [if_neg (show ¬ α 0 13 0 + 1 = 0 by omega)]; rfl)
    rw [a3, if_pos rfl] at s1
    rw [if_pos rfl] at s2
    rw [et, c1, b2_1, if_neg (by decide), sh_1 _ (by omega), u_1, d7]
    refine ⟨S', ?_, s2⟩
    simp only [pR_2, and_false, Nat.reduceEqDiff, if_false]
    rw [s1]
    rfl
  · have n1 : ans α f ≠ 2 := fun h => c1 ((ans_iff hG hL0).mp h)
    have f1 : al α f 1 = false := by cases q : al α f 1 with
      | true => exact absurd q c1
      | false => rfl
    rw [f1, b2_0, if_pos rfl]
    by_cases c2 : al α f 2 = true
    · have hans := (ans_iff hG hL0).mpr c2
      have et : tk α f = (sp α f (α 0 12 0 - 1) (stk (α 6 f (α 0 12 0 - 1)) (α 0 13 0)) 0, 0) := by unfold tk; rw [if_neg (fun h => n1 h.1), if_pos ⟨hans, h0⟩]
      have hS1 := idn 2 (by omega) c2
      have d7 : (S 5).2 7 (5 * f + (α 0 12 0 - 1)) = nI (α 6 f (α 0 12 0 - 1)) := hS1.2.2.2.2.2.2.1 f _ hf (by omega)
      have d8 : (S 5).2 8 (5 * f + (α 0 12 0 - 1)) = 0 := by
        have := hS1.2.2.2.2.2.2.2 f (α 0 12 0 - 1) hf (by omega)
        rw [a3, if_pos rfl] at this
        exact this
      have h16 := (wf_su hw hs (p := α 0 12 0 - 1) (by omega)).2.1
      rw [et, c2, b2_1, if_neg (by decide), d7, stk_bit _ h16 _ (by omega)]
      obtain ⟨s1, s2, s3, s4, s5⟩ := hS1
      refine ⟨_, rfl, fun o ho => by rw [pR_ne ho, s1 o ho], fun c hc => by rw [pR_1, s2 c hc], fun c h7 h8 h38 => by rw [pR_2, if_neg (fun h => h7 h.2), s3 c h7 h8 h38], s4, ?_⟩
      refine MS_put s5 (show α 0 12 0 - 1 < 5 by omega) rfl rfl (fun y => rfl) (fun y => ?_)
      rw [pR_2, if_neg (by omega), if_pos rfl]
      by_cases e : y = 5 * f + (α 0 12 0 - 1)
      · rw [if_pos e, e, d8]
      · rw [if_neg e]
    · have n2 : ans α f ≠ 3 := fun h => c2 ((ans_iff hG hL0).mp h)
      have et : tk α f = fgos (Of α f) f (α 1 f 0) 0 α 0 := by unfold tk; rw [if_neg (fun h => n1 h.1), if_neg (fun h => n2 h.1)]
      have f2 : al α f 2 = false := by cases q : al α f 2 with
        | true => exact absurd q c2
        | false => rfl
      rw [f2, b2_0, if_pos rfl, et]
      exact ⟨S, rfl, hS⟩
end TK
