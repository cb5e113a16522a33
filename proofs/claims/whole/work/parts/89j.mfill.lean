/-! what a line fills: the reference -/
theorem MS_put {m m' : kO} {γ : kα} {f p s v : Nat} (h : MS m γ) (hp : p < 5) (e2 : m'.2 2 = m.2 2) (e9 : m'.2 9 = m.2 9) (e7 : ∀ y, m'.2 7 y = if y = 5 * f + p then nI s else m.2 7 y) (e8 : ∀ y, m'.2 8 y = if y = 5 * f + p then (if v = 0 then 0 else 1) else m.2 8 y) : MS m' (sp γ f p s v) := by
  obtain ⟨h1, h2, h3, h4⟩ := h
  refine ⟨by rw [e2]; exact h1, by rw [e9]; exact h2, fun g q hg hq => ?_, fun g q hg hq => ?_⟩
  · rw [e7, sp_6]
    by_cases e : g = f ∧ q = p
    · rw [if_pos e, if_pos (by omega)]
    · rw [if_neg e, if_neg (by omega)]
      exact h3 g q hg hq
  · rw [e8, sp_7]
    by_cases e : g = f ∧ q = p
    · rw [if_pos e, if_pos (by omega)]
    · rw [if_neg e, if_neg (by omega)]
      exact h4 g q hg hq
def FM (S0 S : kS) (γ : kα) (b : Nat) : Prop := (∀ o, o ≠ 5 → S o = S0 o) ∧ (∀ c, c ≠ 43 → (S 5).1 c = (S0 5).1 c) ∧ (∀ c, c ≠ 7 → c ≠ 8 → c ≠ 38 → (S 5).2 c = (S0 5).2 c) ∧ (S 5).1 43 = nO b ∧ MS (S 5) γ
theorem FM_MD {S0 S : kS} {α γ : kα} {f b : Nat} (h : FM S0 S γ b) (hd : MD (S0 5) α f) : MD (S 5) α f := by
  obtain ⟨h1, h2, h3, h4, h5⟩ := h
  unfold MD
  rw [h2 16 (by omega), h2 33 (by omega), h3 17 (by omega) (by omega) (by omega), h3 18 (by omega) (by omega) (by omega), h3 19 (by omega) (by omega) (by omega), h3 20 (by omega) (by omega) (by omega), h3 21 (by omega) (by omega) (by omega), h3 22 (by omega) (by omega) (by omega), h3 32 (by omega) (by omega) (by omega), h3 15 (by omega) (by omega) (by omega)]
  exact hd
theorem sX_MF {m : kO} {α γ : kα} {f : Nat} (h : sX α γ f) (hd : MF m α f) : MF m γ f := by
  have e := fun c g j h6 h7 => h.1 c g j h6 h7
  unfold MF
  simp only [e 1 _ _ (by omega) (by omega), e 2 _ _ (by omega) (by omega), e 3 _ _ (by omega) (by omega), e 4 _ _ (by omega) (by omega), e 5 _ _ (by omega) (by omega), e 8 _ _ (by omega) (by omega), e 9 _ _ (by omega) (by omega), e 10 _ _ (by omega) (by omega), e 11 _ _ (by omega) (by omega), e 12 _ _ (by omega) (by omega), e 13 _ _ (by omega) (by omega), e 14 _ _ (by omega) (by omega), e 15 _ _ (by omega) (by omega)]
  exact hd
theorem MF_fr {m m' : kO} {α : kα} {f : Nat} (h : ∀ c, c ≠ 7 → c ≠ 8 → c ≠ 38 → m'.2 c = m.2 c) (hd : MF m α f) : MF m' α f := by
  unfold MF
  rw [h 3 (by omega) (by omega) (by omega), h 4 (by omega) (by omega) (by omega), h 5 (by omega) (by omega) (by omega), h 6 (by omega) (by omega) (by omega), h 10 (by omega) (by omega) (by omega), h 11 (by omega) (by omega) (by omega), h 12 (by omega) (by omega) (by omega), h 13 (by omega) (by omega) (by omega), h 14 (by omega) (by omega) (by omega), h 15 (by omega) (by omega) (by omega)]
  exact hd
theorem m_stl {S0 S S1 : kS} {α γ : kα} {f p s v b : Nat} (hS : FM S0 S γ b) (hb : b ≤ 6) (hX : sX α γ f) (hw : wfP α f) (hr : wfR α f) (hf : f < 3) (hp : p < 5) (hk : cok γ f p s v) (hM : MF (S0 5) α f) (x1 : ∀ o, o ≠ 5 → S1 o = S o) (x2 : (S1 5).1 = (S 5).1) (x3 : ∀ c, c ≠ 7 → c ≠ 8 → (S1 5).2 c = (S 5).2 c) (x7 : ∀ y, (S1 5).2 7 y = if y = 5 * f + p then nI s else (S 5).2 7 y) (x8 : ∀ y, (S1 5).2 8 y = if y = 5 * f + p then (if v = 0 then 0 else 1) else (S 5).2 8 y) : ∃ S', FX6_reverts S1 (nI f) (nI (5 * f + p)) (nI (γ 6 f p)) (if γ 7 f p = 0 then 0 else 1) = some S' ∧ FM S0 S' (stl γ f p s v) (if b = 0 then broken (sp γ f p s v) f else b) := by
  obtain ⟨s1, s2, s3, s4, s5⟩ := hS
  have hX1 := sX_sp hX hk
  have hw1 := sX_P hX1 hw
  have hr1 := sX_R hX1 hr
  have hM1 : MS (S1 5) (sp γ f p s v) := MS_put s5 hp (x3 2 (by omega) (by omega)) (x3 9 (by omega) (by omega)) x7 x8
  have hF1 : MF (S1 5) (sp γ f p s v) f := sX_MF hX1 (MF_fr (fun c h7 h8 h38 => by rw [x3 c h7 h8, s3 c h7 h8 h38]) hM)
  have hbr := m_broken hM1 hF1 hw1 hX1.2.2 hr1 hf
  have hbl := broken_le hr1
  unfold FX6_reverts FX6_reverts_J32
  rw [hbr, Option.bind_some]
  unfold stl
  by_cases e : broken (sp γ f p s v) f = 0
  · rw [if_pos (by rw [nO_m1 (by omega)]; exact e), if_pos e, e]
    refine ⟨S1, rfl, fun o ho => by rw [x1 o ho, s1 o ho], fun c hc => by rw [x2, s2 c hc], fun c h7 h8 h38 => by rw [x3 c h7 h8, s3 c h7 h8 h38], ?_, hM1⟩
    rw [x2, s4]
    congr 1
    split <;> omega
  · rw [if_neg (by rw [nO_m1 (by omega)]; exact e), if_neg e]
    have e43 : kI S1 5 43 = nO b := by rw [kI_eq, x2, s4]
    have eu : (if γ 7 f p = 0 then (0 : Int32) else 1) &&& 1 = (if γ 7 f p = 0 then 0 else 1) := by split <;> decide
    have fin : ∀ y : Int32, y = nO (if b = 0 then broken (sp γ f p s v) f else b) → FM S0 (kpR (kpR (kpI S1 5 43 y) 5 7 (upd ((S1 5).2 7) (5 * f + p) (nI (γ 6 f p)))) 5 8 (upd ((S1 5).2 8) (5 * f + p) (if γ 7 f p = 0 then 0 else 1))) γ (if b = 0 then broken (sp γ f p s v) f else b) := fun y hy => by
      refine ⟨fun o ho => by rw [pR_ne ho, pR_ne ho, pI_ne ho, x1 o ho, s1 o ho], fun c hc => by rw [pR_1, pR_1, pI_1, if_neg (fun h => hc h.2), x2, s2 c hc], fun c h7 h8 h38 => by rw [pR_2, if_neg (fun h => h8 h.2), pR_2, if_neg (fun h => h7 h.2), pI_2, x3 c h7 h8, s3 c h7 h8 h38], by rw [pR_1, pR_1, pI_1, if_pos ⟨rfl, rfl⟩, hy], ?_⟩
      have := MS_put (m' := kpR (kpR (kpI S1 5 43 y) 5 7 (upd ((S1 5).2 7) (5 * f + p) (nI (γ 6 f p)))) 5 8 (upd ((S1 5).2 8) (5 * f + p) (if γ 7 f p = 0 then 0 else 1)) 5) (s := γ 6 f p) (v := γ 7 f p) (p := p) (f := f) hM1 hp rfl rfl (fun y => rfl) (fun y => rfl)
      rw [sp_sp] at this
      exact this
    simp (disch := omega) only [kb, e43, kin_t, kgd_t, kpA_nI, pI_2, pR_2, and_false, Nat.reduceEqDiff, if_false, eu, nO_m1]
    by_cases z : b = 0
    · rw [if_pos z]
      exact ⟨_, rfl, by rw [if_pos z] at fin; rw [if_pos z]; exact fin _ rfl⟩
    · rw [if_neg z]
      exact ⟨_, rfl, by rw [if_neg z] at fin; rw [if_neg z]; exact fin _ rfl⟩
