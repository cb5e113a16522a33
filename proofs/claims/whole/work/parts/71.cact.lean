/-! what to do next -/
def cfd (α : kα) (f p : Nat) : Bool := ask α f p && (decide (α 6 f p ≠ 0) && decide (α 2 f p ≠ 2))
def cf (α : kα) (f : Nat) : Nat → Nat → Nat
  | 0, _ => 0
  | k + 1, p => if cfd α f p = true then p + 1 else cf α f k (p + 1)
theorem cf_0 (α : kα) (f p : Nat) : cf α f 0 p = 0 := rfl
theorem cf_s (α : kα) (f k p : Nat) : cf α f (k + 1) p = if cfd α f p = true then p + 1 else cf α f k (p + 1) := rfl
theorem cf_yes {α : kα} {f : Nat} : ∀ (k p : Nat), cf α f k p ≠ 0 → cf α f k p ≤ p + k ∧ cfd α f (cf α f k p - 1) = true
  | 0, p, h => absurd rfl h
  | k + 1, p, h => by
    rw [cf_s] at h ⊢
    by_cases e : cfd α f p = true
    · rw [if_pos e, Nat.add_sub_cancel]; exact ⟨by omega, e⟩
    · rw [if_neg e] at h ⊢
      have := cf_yes k (p + 1) h
      exact ⟨by omega, this.2⟩
theorem low_sz : ∀ z, z < 5 → ∀ s, s < 2 ^ z → s ≠ 0 → low s < z := by decide +kernel
theorem c_cfloop {S : kS} {α : kα} {o f : Nat} (hF : RF (S o) α f) (hw : wfP α f) : ∀ (k m p : Nat), p + k = α 1 f 0 → k < m → (∀ q, q < 5 → α 6 f q < 16) → kfix (fun rec (q : Int32 × Int32) => FX0_placeToConfirm_B7 o rec S q.1 q.2) m (nI (qm α f), nI p) = some (nO (cf α f k p)) := by
  have h5 := hw.1
  intro k
  induction k with
  | zero =>
    intro m p hpk hm h6
    obtain ⟨m, rfl⟩ : ∃ m', m = m' + 1 := ⟨m - 1, by omega⟩
    rw [kfix_s]
    generalize kfix (fun rec (q : Int32 × Int32) => FX0_placeToConfirm_B7 o rec S q.1 q.2) m = Rk
    show FX0_placeToConfirm_B7 o Rk S (nI (qm α f)) (nI p) = _
    unfold FX0_placeToConfirm_B7
    simp (disch := omega) only [kb, kI_eq, hF.1.1, nI_l']
    rw [if_pos (by omega), cf_0, nO_0]
  | succ k ih =>
    intro m p hpk hm h6
    obtain ⟨m, rfl⟩ : ∃ m', m = m' + 1 := ⟨m - 1, by omega⟩
    rw [kfix_s]
    have ihm := ih m (p + 1) (by omega) (by omega) h6
    clear ih
    generalize kfix (fun rec (q : Int32 × Int32) => FX0_placeToConfirm_B7 o rec S q.1 q.2) m = Rk at ihm ⊢
    show FX0_placeToConfirm_B7 o Rk S (nI (qm α f)) (nI p) = _
    unfold FX0_placeToConfirm_B7 FX0_placeToConfirm_J44
    have hp : p < α 1 f 0 := by omega
    have hkd := (hw.2 p hp).1
    have h6p := h6 p (by omega)
    have ep : nI p + 1 = nI (p + 1) := by rw [li_1, nI_add]
    have fe : (nI (α 2 f p) = 2) = (α 2 f p = 2) := by rw [li_2, nI_e (by omega) (by omega)]
    have hb := q_bit _ (qm_lt α f) p (by omega)
    rw [qm_bit α f p (by omega)] at hb
    simp (disch := omega) only [kb, kI_eq, hF.1.1, nI_l', show ¬ α 1 f 0 ≤ p by omega, if_false, kin_t, kgd_t, kA_nI, hF.2.1.1 p, hF.1.2.1 p hp, ep, nI_z, fe, hb, ihm]
    rw [cf_s]
    unfold cfd
    cases ha : ask α f p
    · rw [if_pos (as1_0 ha)]
      rfl
    · rw [if_neg (by rw [as1_1 ha]; omega), Bool.true_and]
      by_cases h1 : α 6 f p = 0
      · rw [if_pos h1, if_neg (by simp [h1])]
      · rw [if_neg h1]
        by_cases h2 : α 2 f p = 2
        · rw [if_pos h2, if_neg (by simp [h2])]
        · rw [if_neg h2, if_pos (by simp [h1, h2]), nO_s]
theorem c_toConfirm {S : kS} {α : kα} {o f : Nat} (hF : RF (S o) α f) (hw : wfP α f) (hs : wfS α f) (hr : wfR α f) : FX0_placeToConfirm o S = some (nO (cf α f (α 1 f 0) 0)) := by
  have h5 := hw.1
  have := c_cfloop hF hw (α 1 f 0) kfuel 0 (by omega) (by unfold kfuel; omega) (fun q hq => (wf_su hw hs hq).2.1)
  rw [nI_0] at this
  unfold FX0_placeToConfirm
  rw [c_questions hF hw hs hr, Option.bind_some]
  unfold FX0_placeToConfirm_L7
  exact this
/-- the first place whose worst is least; and one more -/
def bst (α : kα) (f : Nat) : Nat → Nat → Nat → Nat → Nat
  | 0, _, b, _ => b
  | k + 1, p, b, l => if ask α f p = true ∧ (b = 0 ∨ WB (fun β => VV β f) α f p < l) then bst α f k (p + 1) (p + 1) (WB (fun β => VV β f) α f p) else bst α f k (p + 1) b l
theorem bst_0 (α : kα) (f p b l : Nat) : bst α f 0 p b l = b := rfl
theorem bst_s (α : kα) (f k p b l : Nat) : bst α f (k + 1) p b l = if ask α f p = true ∧ (b = 0 ∨ WB (fun β => VV β f) α f p < l) then bst α f k (p + 1) (p + 1) (WB (fun β => VV β f) α f p) else bst α f k (p + 1) b l := rfl
theorem bst_pad {α : kα} {f : Nat} : ∀ (k p b l : Nat), α 1 f 0 ≤ p → bst α f k p b l = b
  | 0, p, b, l, h => rfl
  | k + 1, p, b, l, h => by
    rw [bst_s, if_neg (fun q => by have := (ask_p q.1).1; omega)]
    exact bst_pad k (p + 1) b l (by omega)
theorem bst_ext {α : kα} {f : Nat} : ∀ (k j p b l : Nat), p + k = α 1 f 0 → bst α f (k + j) p b l = bst α f k p b l
  | 0, j, p, b, l, h => by rw [Nat.zero_add, bst_0, bst_pad j p b l (by omega)]
  | k + 1, j, p, b, l, h => by
    rw [show k + 1 + j = (k + j) + 1 by omega, bst_s, bst_s, bst_ext k j (p + 1) _ _ (by omega), bst_ext k j (p + 1) _ _ (by omega)]
theorem c_askloop {S0 : kS} {α : kα} {f : Nat} (hF0 : RF (S0 (6 + f)) α f) (hw : wfP α f) (hr : wfR α f) (hs : wfS α f) : ∀ (k m p b l : Nat) (S : kS), p + k = 5 → k < m → b ≤ 5 → l ≤ 100 → PC S0 S α α f → ∃ S', kfix (fun rec (q : kS × Int32 × Int32 × Int32 × Int32) => FX2_placeToAsk_B18 (6 + f) rec q.1 q.2.1 q.2.2.1 q.2.2.2.1 q.2.2.2.2) m (S, nI (qm α f), nO b, nI l, nI p) = some (nO (bst α f k p b l), S') ∧ PC S0 S' α α f := by
  have h5 := hw.1
  have hu5 := uns_5 α f
  generalize hL : FX2_fewestR 6 = L6
  have hrc : ∀ (p v : Nat) (S : kS), ask α f p = true → v < α 3 f p → PC S0 S α (ap α f p v) f → ∃ S', L6 (S, 6 + f, nI (encC α (ap α f p v) f), nI (0 + 1)) = some (nI (VV (ap α f p v) f), S') ∧ PC S0 S' α (ap α f p v) f := fun p v S ha hv hP => by
    have h1 := (ask_p ha).1
    have hua := uns_ap (v := v) ha (by omega)
    rw [← hL]
    exact c_fewest hF0 hw hr 6 (0 + 1) (ap α f p v) S (sameC_ap (sameC_refl _ _) (by omega) (un1_i ⟨h1, ask_w ha, (ask_p ha).2.1⟩) hv) (wfS_ap hs h1 (ask_w ha) hv) (by omega) (by omega) hP
  intro k
  induction k with
  | zero =>
    intro m p b l S hpk hm hb hl hP
    obtain ⟨m, rfl⟩ : ∃ m', m = m' + 1 := ⟨m - 1, by omega⟩
    refine ⟨S, ?_, hP⟩
    rw [kfix_s]
    generalize kfix (fun rec (q : kS × Int32 × Int32 × Int32 × Int32) => FX2_placeToAsk_B18 (6 + f) rec q.1 q.2.1 q.2.2.1 q.2.2.2.1 q.2.2.2.2) m = Rk
    show FX2_placeToAsk_B18 (6 + f) Rk S (nI (qm α f)) (nO b) (nI l) (nI p) = _
    unfold FX2_placeToAsk_B18
    rw [if_pos (show (5 : Int32) ≤ nI p by rw [li_5, nI_l' (by omega) (by omega)]; omega), bst_0]
  | succ k ih =>
    intro m p b l S hpk hm hb hl hP
    obtain ⟨m, rfl⟩ : ∃ m', m = m' + 1 := ⟨m - 1, by omega⟩
    rw [kfix_s]
    have ihm := fun b l S => ih m (p + 1) b l S (by omega) (by omega)
    clear ih
    generalize kfix (fun rec (q : kS × Int32 × Int32 × Int32 × Int32) => FX2_placeToAsk_B18 (6 + f) rec q.1 q.2.1 q.2.2.1 q.2.2.2.1 q.2.2.2.2) m = Rk at ihm ⊢
    show ∃ S', FX2_placeToAsk_B18 (6 + f) Rk S (nI (qm α f)) (nO b) (nI l) (nI p) = _ ∧ _
    unfold FX2_placeToAsk_B18 FX2_placeToAsk_J56 FX2_placeToAsk_J63
    have ep : nI p + 1 = nI (p + 1) := by rw [li_1, nI_add]
    rw [hL, if_neg (show ¬ (5 : Int32) ≤ nI p by rw [li_5, nI_l' (by omega) (by omega)]; omega), ep, bst_s]
    have hqb := qm_bit α f p (by omega)
    cases ha : ask α f p
    · rw [if_pos (show (nI (qm α f) >>> (nI p &&& 31)) &&& 1 = 0 by rw [q_bit _ (qm_lt α f) p (by omega), hqb, as1_0 ha]), if_neg (fun q => by cases q.1)]
      exact ihm b l S hb hl hP
    · rw [if_neg (show ¬ (nI (qm α f) >>> (nI p &&& 31)) &&& 1 = 0 by rw [q_bit _ (qm_lt α f) p (by omega), hqb, as1_1 ha]; omega)]
      obtain ⟨S', c1, c2⟩ := c_fewestBy (dep := 0) (sameC_refl _ _) hF0 hw hr hs ha (by omega) (fun v S hv hP => hrc p v S ha hv hP) hP
      have hWB : WB (fun β => VV β f) α f p ≤ 100 := wby_100 _ _ _
      rw [encC_start, nI_0] at c1
      rw [c1, kb2_some]
      by_cases h0 : b = 0
      · rw [if_pos (show nO b = -1 by rw [nO_m1 (by omega)]; exact h0), if_pos ⟨rfl, Or.inl h0⟩, ← nO_s p]
        exact ihm _ _ S' (by omega) hWB c2
      · rw [if_neg (show ¬ nO b = -1 by rw [nO_m1 (by omega)]; exact h0)]
        by_cases h1 : l ≤ WB (fun β => VV β f) α f p
        · rw [if_pos (show nI l ≤ nI (WB (fun β => VV β f) α f p) by rw [nI_l' (by omega) (by omega)]; exact h1), if_neg (fun q => q.2.elim h0 (fun h => by omega))]
          exact ihm b l S' hb hl c2
        · rw [if_neg (show ¬ nI l ≤ nI (WB (fun β => VV β f) α f p) by rw [nI_l' (by omega) (by omega)]; exact h1), if_pos ⟨rfl, Or.inr (by omega)⟩, ← nO_s p]
          exact ihm _ _ S' (by omega) hWB c2
