/-! the reference's planning: a place's worst -/
theorem m_wloop {S0 : kS} {α0 α : kα} {f p : Nat} (hB : sameB α0 α f) (hM0 : MF (S0 5) α0 f) (hw0 : wfP α0 f) (hr0 : wfR α0 f) (hs : wfS α f) (hf : f < 3) (hp : p < α 1 f 0) (hk : α 2 f p ≠ 1) (h7 : α 7 f p = 0) {rc : kS × Int32 → Option (Int32 × kS)} (hrc : ∀ (v : Nat) (S : kS), v < α 3 f p → PM S0 S α0 (ap α f p v) f → ∃ S', rc (S, nI f) = some (nI (VV (ap α f p v) f), S') ∧ PM S0 S' α0 (ap α f p v) f) : ∀ (k m v r : Nat) (S : kS) (γ : kα), v + k = α 3 f p → k < m → r ≤ 101 → (γ = α ∨ ∃ j, γ = ap α f p j) → PM S0 S α0 γ f → ∃ S', kfix (fun rec (q : kS × Int32 × Int32 × Int32 × Int32 × Int32) => FX6_worstBy_B20 rc rec q.1 q.2.1 q.2.2.1 q.2.2.2.1 q.2.2.2.2.1 q.2.2.2.2.2) m (S, nI f, nI (5 * f + p), nI (α 6 f p), nV r, nI v) = some (nI (wby (fun β => VV β f) α f p k v r), S') ∧ PM S0 S' α0 α f := by
  have hw := wfP_same hB hw0
  have hr := wfR_same hB hr0
  have h5 := hw.1
  have hsz := (hw.2 p hp).2.2.1
  have hd := wf_su hw hs (show p < 5 by omega)
  have e01 : (0 : Int32) &&& 1 = 0 := by decide
  have e11 : (1 : Int32) &&& 1 = 1 := by decide
  have hsame : ∀ γ : kα, (γ = α ∨ ∃ j, γ = ap α f p j) → sameB α0 γ f ∧ (∀ g q, ¬ (g = f ∧ q = p) → α 6 g q = γ 6 g q ∧ α 7 g q = γ 7 g q) ∧ (∀ c g j, c ≠ 6 → c ≠ 7 → α c g j = γ c g j) := fun γ h => by
    rcases h with rfl | ⟨j, rfl⟩
    · exact ⟨hB, fun _ _ _ => ⟨rfl, rfl⟩, fun _ _ _ _ _ => rfl⟩
    · refine ⟨sameB_ap hB (by omega), fun g q hgq => ?_, fun c g i h6 h7 => (ap_o _ _ _ _ _ _ _ h6 h7).symm⟩
      unfold ap
      rw [au_eq, if_neg (by omega), au_eq, if_neg (by omega), au_eq, if_neg (by omega), au_eq, if_neg (by omega)]
      exact ⟨rfl, rfl⟩
  intro k
  induction k with
  | zero =>
    intro m v r S γ hvk hm hr101 hγ hP
    obtain ⟨g1, g2, g3⟩ := hsame γ hγ
    obtain ⟨m, rfl⟩ : ∃ m', m = m' + 1 := ⟨m - 1, by omega⟩
    rw [kfix_s]
    generalize kfix (fun rec (q : kS × Int32 × Int32 × Int32 × Int32 × Int32) => FX6_worstBy_B20 rc rec q.1 q.2.1 q.2.2.1 q.2.2.2.1 q.2.2.2.2.1 q.2.2.2.2.2) m = Rk
    refine ⟨kpR (kpR S 5 7 (upd ((S 5).2 7) (5 * f + p) (nI (α 6 f p)))) 5 8 (upd ((S 5).2 8) (5 * f + p) 0), ?_, PM_put hP hf (by omega) g2 (fun g => g3 1 g 0 (by omega) (by omega)) (fun g => g3 8 g 0 (by omega) (by omega)) rfl (by rw [if_pos h7])⟩
    show FX6_worstBy_B20 rc Rk S (nI f) (nI (5 * f + p)) (nI (α 6 f p)) (nV r) (nI v) = _
    unfold FX6_worstBy_B20 FX6_worstBy_J116 FX6_worstBy_J123
    have hMF := PM_MF hP g1 hM0
    have hp' : p < γ 1 f 0 := by rw [← g3 1 f 0 (by omega) (by omega)]; exact hp
    have hz' := hMF.1.2.1 p hp'
    rw [← g3 3 f p (by omega) (by omega)] at hz'
    simp (disch := omega) only [kin_t, kgd_t, kb, kA_nI, hz', nI_l', show α 3 f p ≤ v by omega, if_true, kpA_nI, e01, nV_1, pR_2, and_false, Nat.reduceEqDiff, if_false]
    rw [wby_0]
    by_cases e : r = 0
    · rw [if_pos e, if_pos e, li_100]
    · rw [if_neg e, if_neg e]
      unfold nV
      rw [if_neg e]
      simp (disch := omega) only [li_100, nI_l']
      by_cases h100 : r ≤ 100
      · rw [if_pos h100, Nat.min_eq_right h100]
      · rw [if_neg h100, Nat.min_eq_left (by omega)]
  | succ k ih =>
    intro m v r S γ hvk hm hr101 hγ hP
    obtain ⟨g1, g2, g3⟩ := hsame γ hγ
    obtain ⟨m, rfl⟩ : ∃ m', m = m' + 1 := ⟨m - 1, by omega⟩
    rw [kfix_s, wby_s]
    have ihm := fun r S hr => ih m (v + 1) r S (ap α f p v) (by omega) (by omega) hr (Or.inr ⟨v, rfl⟩)
    clear ih
    generalize kfix (fun rec (q : kS × Int32 × Int32 × Int32 × Int32 × Int32) => FX6_worstBy_B20 rc rec q.1 q.2.1 q.2.2.1 q.2.2.2.1 q.2.2.2.2.1 q.2.2.2.2.2) m = Rk at ihm ⊢
    have hv : v < α 3 f p := by omega
    have hP1 : PM S0 (kpR (kpR S 5 7 (upd ((S 5).2 7) (5 * f + p) (nI (2 ^ v)))) 5 8 (upd ((S 5).2 8) (5 * f + p) 1)) α0 (ap α f p v) f := by
      refine PM_put hP hf (by omega) (fun g q hgq => ?_) (fun g => ?_) (fun g => ?_) (by rw [ap_6, if_pos rfl]) (by rw [ap_7, if_pos rfl, if_neg (by omega)])
      · rw [← (g2 g q hgq).1, ← (g2 g q hgq).2]
        unfold ap
        rw [au_eq, if_neg (by omega), au_eq, if_neg (by omega), au_eq, if_neg (by omega), au_eq, if_neg (by omega)]
        exact ⟨rfl, rfl⟩
      · rw [ap_o _ _ _ _ _ _ _ (by omega) (by omega), g3 1 g 0 (by omega) (by omega)]
      · rw [ap_o _ _ _ _ _ _ _ (by omega) (by omega), g3 8 g 0 (by omega) (by omega)]
    have hB1 := sameB_ap (v := v) hB (show p < 5 by omega)
    have hs1 := wfS_ap hs hp hk hv
    have hbr := m_broken hP1.2.2.2.1 (PM_MF hP1 hB1 hM0) (wfP_same hB1 hw0) hs1 (wfR_same hB1 hr0) hf
    have hbr6 : broken (ap α f p v) f ≤ 6 + 1 := by
      have := (wfR_same hB1 hr0).1
      have hgo : ∀ k r, r + k ≤ 6 → bgo (ap α f p v) f k r ≤ 6 + 1 := by
        intro k
        induction k with
        | zero => intro r _; exact Nat.zero_le _
        | succ k ih =>
          intro r hr
          unfold bgo
          split
          · omega
          · exact ih (r + 1) (by omega)
      exact hgo _ 0 (by omega)
    show ∃ S', FX6_worstBy_B20 rc Rk S (nI f) (nI (5 * f + p)) (nI (α 6 f p)) (nV r) (nI v) = _ ∧ _
    unfold FX6_worstBy_B20 FX6_worstBy_J82 FX6_worstBy_J80 FX6_worstBy_J82
    have hMF := PM_MF hP g1 hM0
    have hp' : p < γ 1 f 0 := by rw [← g3 1 f 0 (by omega) (by omega)]; exact hp
    have hz' := hMF.1.2.1 p hp'
    rw [← g3 3 f p (by omega) (by omega)] at hz'
    have hsh := sh_1 v (by omega)
    simp (disch := omega) only [kin_t, kgd_t, kb, kA_nI, hz', nI_l', show ¬ α 3 f p ≤ v by omega, if_false, kpA_nI, e11, hsh, pR_2, and_false, Nat.reduceEqDiff, hbr, Option.bind_some, nO_m1]
    rw [li_1, nI_add]
    rw [← li_1]
    by_cases e : broken (ap α f p v) f = 0
    · rw [if_pos e, if_pos e]
      obtain ⟨S', c1, c2⟩ := hrc v _ hv hP1
      have hV := VV_100 (ap α f p v) f
      have e1 : (1 : Int32) + nI (VV (ap α f p v) f) = nI (1 + VV (ap α f p v) f) := by rw [li_1, nI_add]
      rw [c1, kb2_some, e1]
      by_cases h : 1 + VV (ap α f p v) f ≤ r
      · rw [if_pos (by rw [nV_le hr101 hV]; exact h)]
        have := ihm r S' hr101 c2
        rw [Nat.max_eq_left (by omega)]
        exact this
      · rw [if_neg (by rw [nV_le hr101 hV]; exact h)]
        have := ihm (VV (ap α f p v) f + 1) S' (by omega) c2
        rw [Nat.max_eq_right (by omega)]
        rw [show nV (VV (ap α f p v) f + 1) = nI (1 + VV (ap α f p v) f) by unfold nV; rw [if_neg (by omega), Nat.add_comm]] at this
        exact this
    · rw [if_neg e, if_neg e]
      exact ihm r _ hr101 hP1
theorem m_worstBy {S0 : kS} {α0 α : kα} {f p : Nat} (hB : sameB α0 α f) (hM0 : MF (S0 5) α0 f) (hw0 : wfP α0 f) (hr0 : wfR α0 f) (hs : wfS α f) (hf : f < 3) (hp : p < α 1 f 0) (hk : α 2 f p ≠ 1) (h7 : α 7 f p = 0) {rc : kS × Int32 → Option (Int32 × kS)} (hrc : ∀ (v : Nat) (S : kS), v < α 3 f p → PM S0 S α0 (ap α f p v) f → ∃ S', rc (S, nI f) = some (nI (VV (ap α f p v) f), S') ∧ PM S0 S' α0 (ap α f p v) f) {S : kS} (hP : PM S0 S α0 α f) : ∃ S', FX6_worstBy rc S (nI f) (nI p) = some (nI (WB (fun β => VV β f) α f p), S') ∧ PM S0 S' α0 α f := by
  have hw := wfP_same hB hw0
  have h5 := hw.1
  have hsz := (hw.2 p hp).2.2.1
  obtain ⟨S', q1, q2⟩ := m_wloop hB hM0 hw0 hr0 hs hf hp hk h7 hrc (α 3 f p) kfuel 0 0 S α (by omega) (by unfold kfuel; omega) (by omega) (Or.inl rfl) hP
  refine ⟨S', ?_, q2⟩
  have e1 : (5 : Int32) * nI f + nI p = nI (5 * f + p) := by rw [li_5, nI_mul, nI_add]
  have k1 : kA S 5 7 (nI (5 * f + p)) = nI (α 6 f p) := by rw [kA_nI (by omega)]; exact hP.2.2.2.1.2.2.1 f p hf (by omega)
  have hL : FX6_worstBy_L20 rc S (nI f) (nI (5 * f + p)) (nI (α 6 f p)) (-1) 0 = some (nI (WB (fun β => VV β f) α f p), S') := by
    unfold FX6_worstBy_L20
    rw [nI_0] at q1
    exact q1
  unfold FX6_worstBy
  rw [e1, kin_t (by omega) (by omega), kgd_t, k1]
  exact hL
