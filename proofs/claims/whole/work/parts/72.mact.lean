/-! what to do next: the reference -/
theorem ask_f {α : kα} {f p : Nat} (hp : p < α 1 f 0) (h : ask α f p = false) (hw : wanted α f p = true) : ¬ α 7 f p = 0 := fun h7 => by
  unfold ask at h
  rw [hw, show decide (p < α 1 f 0) = true from decide_eq_true hp, show decide (α 7 f p = 0) = true from decide_eq_true h7] at h
  cases h
theorem m_askloop {S0 : kS} {α : kα} {f : Nat} (hM0 : MF (S0 5) α f) (hw : wfP α f) (hr : wfR α f) (hs : wfS α f) (hf : f < 3) : ∀ (k m p b l l' : Nat) (S : kS), p + k = α 1 f 0 → k < m → b ≤ 5 → l ≤ 100 → l' = (if b = 0 then 10000 else l) → PM S0 S α α f → ∃ S', kfix (fun rec (q : kS × Int32 × Int32 × Int32 × Int32) => FX6_act_B159 rec q.1 q.2.1 q.2.2.1 q.2.2.2.1 q.2.2.2.2) m (S, nI f, nO b, nI l', nI p) = some (200 + 10 * nO (bst α f k p b l), S') ∧ PM S0 S' α α f := by
  have h5 := hw.1
  have hu5 := uns_5 α f
  generalize hL : FX6_worstOfR 6 = L6
  have hrc : ∀ (p v : Nat) (S : kS), ask α f p = true → v < α 3 f p → PM S0 S α (ap α f p v) f → ∃ S', L6 (S, nI f) = some (nI (VV (ap α f p v) f), S') ∧ PM S0 S' α (ap α f p v) f := fun p v S ha hv hP => by
    have h1 := (ask_p ha).1
    have hua := uns_ap (v := v) ha (by omega)
    rw [← hL]
    exact m_worstOf hM0 hw hr hf 6 (ap α f p v) S (sameB_ap (sameB_refl _ _) (by omega)) (wfS_ap hs h1 (ask_w ha) hv) (by omega) hP
  intro k
  induction k with
  | zero =>
    intro m p b l l' S hpk hm hb hl hl' hP
    obtain ⟨m, rfl⟩ : ∃ m', m = m' + 1 := ⟨m - 1, by omega⟩
    refine ⟨S, ?_, hP⟩
    rw [kfix_s]
    generalize kfix (fun rec (q : kS × Int32 × Int32 × Int32 × Int32) => FX6_act_B159 rec q.1 q.2.1 q.2.2.1 q.2.2.2.1 q.2.2.2.2) m = Rk
    show FX6_act_B159 Rk S (nI f) (nO b) (nI l') (nI p) = _
    unfold FX6_act_B159
    simp (disch := omega) only [kin_t, kgd_t, kb, kA_nI, hP.2.2.2.1.1 f hf, nI_l']
    rw [if_pos (by omega), bst_0]
  | succ k ih =>
    intro m p b l l' S hpk hm hb hl hl' hP
    obtain ⟨m, rfl⟩ : ∃ m', m = m' + 1 := ⟨m - 1, by omega⟩
    rw [kfix_s]
    have ihm := fun b l l' S => ih m (p + 1) b l l' S (by omega) (by omega)
    clear ih
    generalize kfix (fun rec (q : kS × Int32 × Int32 × Int32 × Int32) => FX6_act_B159 rec q.1 q.2.1 q.2.2.1 q.2.2.2.1 q.2.2.2.2) m = Rk at ihm ⊢
    show ∃ S', FX6_act_B159 Rk S (nI f) (nO b) (nI l') (nI p) = _ ∧ _
    unfold FX6_act_B159 FX6_act_J223
    rw [hL]
    have hp : p < α 1 f 0 := by omega
    have hMF := PM_MF hP (sameB_refl _ _) hM0
    have hwa := m_isWanted hP.2.2.2.1 hMF hw hs hr hf hp
    have e1 : (5 : Int32) * nI f + nI p = nI (5 * f + p) := by rw [li_5, nI_mul, nI_add]
    have ep : nI p + 1 = nI (p + 1) := by rw [li_1, nI_add]
    have m8 := hP.2.2.2.1.2.2.2 f p hf (by omega)
    simp (disch := omega) only [kin_t, kgd_t, kb, kA_nI, hP.2.2.2.1.1 f hf, nI_l', show ¬ α 1 f 0 ≤ p by omega, if_false, hwa, Option.bind_some, e1, m8, ep]
    rw [bst_s]
    cases ha : ask α f p
    · rw [if_neg (show ¬ (false = true ∧ _) from fun q => by cases q.1)]
      cases hwn : wanted α f p
      · rw [if_pos (show b2 false = 0 from rfl)]
        exact ihm b l l' S hb hl hl' hP
      · rw [if_neg (show ¬ b2 true = 0 by decide), if_neg (ask_f hp ha hwn), if_neg (show ¬ (1 : Int32) = 0 by decide)]
        exact ihm b l l' S hb hl hl' hP
    · obtain ⟨a1, a2, a3⟩ := ask_p ha
      rw [a3, if_neg (show ¬ b2 true = 0 by decide), if_pos a2, if_pos (show (0 : Int32) = 0 from rfl)]
      obtain ⟨S', c1, c2⟩ := m_worstBy (sameB_refl _ _) hM0 hw hr hs hf hp (ask_w ha) a2 (fun v S hv hP => hrc p v S ha hv hP) hP
      have hWB : WB (fun β => VV β f) α f p ≤ 100 := wby_100 _ _ _
      have hl2 : l' ≤ 10000 := by rw [hl']; split <;> omega
      rw [c1, kb2_some]
      simp (disch := omega) only [nI_t']
      by_cases h : b = 0 ∨ WB (fun β => VV β f) α f p < l
      · rw [if_pos (show WB (fun β => VV β f) α f p < l' by rw [hl']; split; omega; exact h.resolve_left (by assumption)), if_pos (by simp only [true_and]; exact h), ← nO_s p]
        exact ihm _ _ _ S' (by omega) hWB (by rw [if_neg (by omega)]) c2
      · have h0 : ¬ b = 0 := fun e => h (Or.inl e)
        rw [if_neg (show ¬ WB (fun β => VV β f) α f p < l' by rw [hl', if_neg h0]; exact fun e => h (Or.inr e)), if_neg (fun q => h q.2)]
        exact ihm b l l' S' hb hl hl' c2
theorem m_actloop {S : kS} {α : kα} {f : Nat} (hS : MS (S 5) α) (hM : MF (S 5) α f) (hw : wfP α f) (hr : wfR α f) (hs : wfS α f) (hf : f < 3) : ∀ (k m p : Nat) (b : Bool), p + k = α 1 f 0 → k < m → kfix (fun rec (q : kS × Int32 × Int32 × Int32) => FX6_act_B31 rec q.1 q.2.1 q.2.2.1 q.2.2.2) m (S, nI f, b2 b, nI p) = if cf α f k p = 0 then (if (b && !anyA α f k p) = true then some (0, S) else (FX6_forget S).bind fun S1 => FX6_act_L159 S1 (nI f) (-1) 10000 0) else some (100 + 10 * nI (cf α f k p - 1) + nI (low (α 6 f (cf α f k p - 1))), kpI (kpI S 5 29 (nI (cf α f k p - 1))) 5 30 (nI (low (α 6 f (cf α f k p - 1))))) := by
  have h5 := hw.1
  generalize hL : FX6_act_L159 = L
  generalize hG : FX6_forget = FG
  intro k
  induction k with
  | zero =>
    intro m p b hpk hm
    obtain ⟨m, rfl⟩ : ∃ m', m = m' + 1 := ⟨m - 1, by omega⟩
    rw [kfix_s]
    generalize kfix (fun rec (q : kS × Int32 × Int32 × Int32) => FX6_act_B31 rec q.1 q.2.1 q.2.2.1 q.2.2.2) m = Rk
    show FX6_act_B31 Rk S (nI f) (b2 b) (nI p) = _
    unfold FX6_act_B31
    rw [hL, hG]
    simp (disch := omega) only [kin_t, kgd_t, kb, kA_nI, hS.1 f hf, nI_l']
    rw [if_pos (by omega), cf_0, if_pos rfl]
    have hA : anyA α f 0 p = false := rfl
    rw [hA]
    cases b <;> rfl
  | succ k ih =>
    intro m p b hpk hm
    obtain ⟨m, rfl⟩ : ∃ m', m = m' + 1 := ⟨m - 1, by omega⟩
    rw [kfix_s]
    have ihm := fun b => ih m (p + 1) b (by omega) (by omega)
    clear ih
    generalize kfix (fun rec (q : kS × Int32 × Int32 × Int32) => FX6_act_B31 rec q.1 q.2.1 q.2.2.1 q.2.2.2) m = Rk at ihm ⊢
    show FX6_act_B31 Rk S (nI f) (b2 b) (nI p) = _
    unfold FX6_act_B31 FX6_act_J133
    rw [hL, hG]
    generalize ((FG S).bind fun S1 => L S1 (nI f) (-1) 10000 0) = TT at ihm ⊢
    have hp : p < α 1 f 0 := by omega
    have hkd := (hw.2 p hp).1
    have h6 := (wf_su hw hs (show p < 5 by omega)).2.1
    have hwa := m_isWanted hS hM hw hs hr hf hp
    have e1 : (5 : Int32) * nI f + nI p = nI (5 * f + p) := by rw [li_5, nI_mul, nI_add]
    have ep : nI p + 1 = nI (p + 1) := by rw [li_1, nI_add]
    have m8 := hS.2.2.2 f p hf (by omega)
    have m7 := hS.2.2.1 f p hf (by omega)
    have fe : (nI (α 2 f p) = 2) = (α 2 f p = 2) := by rw [li_2, nI_e (by omega) (by omega)]
    have iF := ihm false
    rw [b2_0] at iF
    simp (disch := omega) only [kin_t, kgd_t, kb, kA_nI, hS.1 f hf, nI_l', show ¬ α 1 f 0 ≤ p by omega, if_false, hwa, Option.bind_some, e1, m8, m7, ep, hM.1.1 p hp, fe, nI_z, pI_2, kI_eq]
    rw [cf_s, anyA_s]
    unfold cfd
    cases ha : ask α f p
    · rw [Bool.false_and, if_neg (show ¬ false = true by decide), Bool.false_or]
      cases hwn : wanted α f p
      · rw [if_pos (show b2 false = 0 from rfl)]
        exact ihm b
      · rw [if_neg (show ¬ b2 true = 0 by decide), if_neg (ask_f hp ha hwn), if_neg (show ¬ (1 : Int32) = 0 by decide)]
        exact ihm b
    · obtain ⟨a1, a2, a3⟩ := ask_p ha
      rw [a3, if_neg (show ¬ b2 true = 0 by decide), if_pos a2, if_pos (show (0 : Int32) = 0 from rfl), Bool.true_and, Bool.true_or, Bool.not_true, Bool.and_false]
      rw [Bool.false_and] at iF
      by_cases h1 : α 6 f p = 0
      · rw [if_pos h1, if_neg (show ¬ (decide (α 6 f p ≠ 0) && decide (α 2 f p ≠ 2)) = true by simp [h1])]
        exact iF
      · rw [if_neg h1]
        by_cases h2 : α 2 f p = 2
        · rw [if_pos h2, if_neg (show ¬ (decide (α 6 f p ≠ 0) && decide (α 2 f p ≠ 2)) = true by simp [h2])]
          exact iF
        · rw [if_neg h2, if_pos (show (decide (α 6 f p ≠ 0) && decide (α 2 f p ≠ 2)) = true by simp [h1, h2]), if_neg (by omega), Nat.add_sub_cancel, m_lowest _ h6 h1, Option.bind_some]
          rfl
