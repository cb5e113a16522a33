/-! the class starts to plan -/
theorem c_cloop (o1 : Nat) {w : Nat} (hw : w ≤ 3125) : ∀ (k m i : Nat) (S : kS), i + k = w → k < m → ∃ S', kfix (fun rec (q : kS × Int32 × Int32) => FX2_startFrom_B59 o1 rec q.1 q.2.1 q.2.2) m (S, nI w, nI i) = some S' ∧ (∀ o, o ≠ 3 → S' o = S o) ∧ (∀ c, c ≠ 0 → (S' 3).2 c = (S 3).2 c) ∧ (∀ x, (S' 3).2 0 x = if i ≤ x ∧ x < w then -1 else (S 3).2 0 x) := by
  intro k
  induction k with
  | zero =>
    intro m i S hk hm
    obtain ⟨m, rfl⟩ : ∃ m', m = m' + 1 := ⟨m - 1, by omega⟩
    refine ⟨S, ?_, fun _ _ => rfl, fun _ _ => rfl, fun x => by rw [if_neg (by omega)]⟩
    rw [kfix_s]
    generalize kfix (fun rec (q : kS × Int32 × Int32) => FX2_startFrom_B59 o1 rec q.1 q.2.1 q.2.2) m = Rk
    show FX2_startFrom_B59 o1 Rk S (nI w) (nI i) = _
    unfold FX2_startFrom_B59 FX2_startFrom_J84
    rw [if_pos (by rw [nI_l' (by omega) (by omega)]; omega)]
  | succ k ih =>
    intro m i S hk hm
    obtain ⟨m, rfl⟩ : ∃ m', m = m' + 1 := ⟨m - 1, by omega⟩
    obtain ⟨S', q1, q2, q4, q5⟩ := ih m (i + 1) (kpR S 3 0 (upd ((S 3).2 0) i (-1))) (by omega) (by omega)
    clear ih
    refine ⟨S', ?_, fun o ho => by rw [q2 o ho, pR_ne ho], fun c hc => by rw [q4 c hc, pR_2, if_neg (fun h => hc h.2)], fun x => ?_⟩
    · rw [kfix_s]
      generalize kfix (fun rec (q : kS × Int32 × Int32) => FX2_startFrom_B59 o1 rec q.1 q.2.1 q.2.2) m = Rk at q1 ⊢
      show FX2_startFrom_B59 o1 Rk S (nI w) (nI i) = _
      unfold FX2_startFrom_B59
      rw [if_neg (show ¬ nI w ≤ nI i by rw [nI_l' (by omega) (by omega)]; omega), if_neg (show ¬ 3125 ≤ nI i by rw [l3125, nI_l' (by omega) (by omega)]; omega), kin_t (by omega) (by omega), kgd_t, kpA_nI (by omega), li_1, nI_add]
      exact q1
    · rw [q5 x]
      show (if _ then -1 else upd ((S 3).2 0) i (-1) x) = _
      rw [upd_eq]
      by_cases h1 : i + 1 ≤ x ∧ x < w
      · rw [if_pos h1, if_pos (by omega)]
      · rw [if_neg h1]
        by_cases h2 : x = i
        · rw [if_pos h2, if_pos (by omega)]
        · rw [if_neg h2, if_neg (by omega)]
theorem c_sfloop {S0 : kS} {α : kα} {f : Nat} (hF : RF (S0 (6 + f)) α f) (hw : wfP α f) (hs : wfS α f) : ∀ (k m p : Nat) (S : kS), p + k = 5 → k < m → (∀ o, o ≠ 3 → S o = S0 o) → (∀ q, q < p → (S 3).2 1 q = nI (ww α f q)) → ∃ S', kfix (fun rec (q : kS × Int32 × Int32) => FX2_startFrom_B4 (6 + f) rec q.1 q.2.1 q.2.2) m (S, nI (ww α f p), nI p) = FX2_startFrom_L59 (6 + f) S' (nI (ww α f 5)) 0 ∧ (∀ o, o ≠ 3 → S' o = S0 o) ∧ (∀ q, q < 5 → (S' 3).2 1 q = nI (ww α f q)) := by
  have h5 := hw.1
  generalize hL : FX2_startFrom_L59 (6 + f) = L
  intro k
  induction k with
  | zero =>
    intro m p S hk hm ho hq
    obtain ⟨m, rfl⟩ : ∃ m', m = m' + 1 := ⟨m - 1, by omega⟩
    refine ⟨S, ?_, ho, fun q h => hq q (by omega)⟩
    rw [kfix_s]
    generalize kfix (fun rec (q : kS × Int32 × Int32) => FX2_startFrom_B4 (6 + f) rec q.1 q.2.1 q.2.2) m = Rk
    show FX2_startFrom_B4 (6 + f) Rk S (nI (ww α f p)) (nI p) = _
    unfold FX2_startFrom_B4
    rw [hL, if_pos (show (5 : Int32) ≤ nI p by rw [li_5, nI_l' (by omega) (by omega)]; omega), show p = 5 by omega]
  | succ k ih =>
    intro m p S hk hm ho hq
    obtain ⟨m, rfl⟩ : ∃ m', m = m' + 1 := ⟨m - 1, by omega⟩
    obtain ⟨S', q1, q2, q3⟩ := ih m (p + 1) (kpR S 3 1 (upd ((S 3).2 1) p (nI (ww α f p)))) (by omega) (by omega) (fun o h => by rw [pR_ne h]; exact ho o h) (fun q h => by
      rw [pR_2, if_pos ⟨rfl, rfl⟩, upd_eq]
      by_cases e : q = p
      · rw [if_pos e, e]
      · rw [if_neg e]; exact hq q (by omega))
    clear ih
    refine ⟨S', ?_, q2, q3⟩
    rw [kfix_s]
    generalize kfix (fun rec (q : kS × Int32 × Int32) => FX2_startFrom_B4 (6 + f) rec q.1 q.2.1 q.2.2) m = Rk at q1 ⊢
    show FX2_startFrom_B4 (6 + f) Rk S (nI (ww α f p)) (nI p) = _
    unfold FX2_startFrom_B4 FX2_startFrom_J51
    have hF1 : RF (kpR S 3 1 (upd ((S 3).2 1) p (nI (ww α f p))) (6 + f)) α f := by rw [pR_ne (by omega), ho _ (by omega)]; exact hF
    have ep : nI p + 1 = nI (p + 1) := by rw [li_1, nI_add]
    rw [hL, if_neg (show ¬ (5 : Int32) ≤ nI p by rw [li_5, nI_l' (by omega) (by omega)]; omega), kin_t (by omega) (by omega), kgd_t, kpA_nI (by omega), ep]
    generalize kpR S 3 1 (upd ((S 3).2 1) p (nI (ww α f p))) = S1 at hF1 q1 ⊢
    rw [ww_s] at q1
    show ((FX0_hasPlace (6 + f) S1 (nI p)).bind _) = _
    by_cases h1 : p < α 1 f 0
    · have hkd := (hw.2 p h1).1
      have hsv := sv_le hw hs h1
      rw [c_hasPlace hF1 hw h1, Option.bind_some, if_neg (show ¬ (1 : Int32) = 0 by decide), c_isWorked hF1 hw h1, Option.bind_some]
      by_cases h2 : α 2 f p = 1
      · rw [if_neg (show ¬ b2 (decide (α 2 f p = 1)) = 0 by rw [b2_d0]; simpa using h2)]
        rw [show kk α f p = 1 by unfold kk; rw [if_neg (fun h => (un1_7 h).2.1 h2)], Nat.mul_one] at q1
        exact q1
      · rw [if_pos (show b2 (decide (α 2 f p = 1)) = 0 by rw [b2_d0]; exact h2), c_sureValue hF1 hw hs h1, Option.bind_some]
        have esv : sv α f p = α 7 f p := by unfold sv; rw [if_neg h2]
        by_cases h3 : α 7 f p = 0
        · rw [if_pos (show nO (sv α f p) = -1 by rw [nO_m1 (by omega), esv]; exact h3), c_sizeOf hF1 hw h1, Option.bind_some, show nI (α 3 f p) + 1 = nI (α 3 f p + 1) by rw [li_1, nI_add], nI_mul]
          rw [show kk α f p = α 3 f p + 1 by unfold kk; rw [if_pos (un1_i ⟨h1, h2, h3⟩)]] at q1
          exact q1
        · rw [if_neg (show ¬ nO (sv α f p) = -1 by rw [nO_m1 (by omega), esv]; exact h3)]
          rw [show kk α f p = 1 by unfold kk; rw [if_neg (fun h => h3 (un1_7 h).2.2)], Nat.mul_one] at q1
          exact q1
    · rw [c_hasPlaceN hF1 hw (Or.inr (by rw [nI_l' (by omega) (by omega)]; omega)), Option.bind_some, if_pos (show (0 : Int32) = 0 from rfl)]
      rw [show kk α f p = 1 by unfold kk; rw [if_neg (fun h => h1 (un1_7 h).1)], Nat.mul_one] at q1
      exact q1
theorem encC_w5 {α0 α : kα} {f : Nat} (h : sameC α0 α f) : encC α0 α f < ww α0 f 5 := by
  rw [encC_h]
  have b4 := dd_lt h (show 4 < 5 by omega)
  have b3 := dl (dd_lt h (show 3 < 5 by omega)) b4
  have b2 := dl (dd_lt h (show 2 < 5 by omega)) b3
  have b1 := dl (dd_lt h (show 1 < 5 by omega)) b2
  have b0 := dl (dd_lt h (show 0 < 5 by omega)) b1
  simp only [ww, Nat.one_mul, Nat.mul_assoc]
  exact b0
theorem c_startFrom {S : kS} {α : kα} {f : Nat} (hF : RF (S (6 + f)) α f) (hw : wfP α f) (hs : wfS α f) : ∃ S', FX2_startFrom (6 + f) S = some S' ∧ PC S S' α α f := by
  obtain ⟨S1, q1, q2, q3⟩ := c_sfloop hF hw hs 5 kfuel 0 S (by omega) (by unfold kfuel; omega) (fun _ _ => rfl) (fun q h => by omega)
  have hw5 : ww α f 5 ≤ 3125 := ww_le hw 5
  obtain ⟨S2, r1, r2, r3, r4⟩ := c_cloop (6 + f) hw5 (ww α f 5) kfuel 0 S1 (by omega) (by unfold kfuel; omega)
  refine ⟨S2, ?_, fun o _ h => by rw [r2 o h, q2 o h], by rw [r2 _ (by omega), q2 _ (by omega)], fun c _ _ => by rw [r2 _ (by omega), q2 _ (by omega)], ?_, fun p hp => by rw [r3 1 (by omega)]; exact q3 p hp, fun β hβ => Or.inl ?_⟩
  · unfold FX2_startFrom FX2_startFrom_L4
    rw [nI_0, ww_0, ← li_1] at q1
    rw [q1]
    unfold FX2_startFrom_L59
    rw [nI_0] at r1
    exact r1
  · rw [r2 _ (by omega), q2 _ (by omega)]
    exact hF.2.1
  · rw [r4, if_pos ⟨by omega, encC_w5 hβ⟩]
theorem encC_start (α : kα) (f : Nat) : encC α α f = 0 := by
  have h : ∀ p, dd α α f p = 0 := fun p => by
    unfold dd
    by_cases e : un1 α f p = 1
    · rw [if_pos e]; exact (un1_7 e).2.2
    · rw [if_neg e]
  unfold encC
  rw [h 0, h 1, h 2, h 3, h 4]
  simp
theorem PC_end {S0 S : kS} {α : kα} {f : Nat} (h : PC S0 S α α f) (hc : RC S0 α) (hf : f < α 0 0 0) : RC S α := by
  refine ⟨?_, ?_, ?_, ?_, fun g hg => ?_⟩
  · rw [h.1 0 (by omega) (by omega)]; exact hc.1
  · rw [h.1 1 (by omega) (by omega)]; exact hc.2.1
  · rw [h.1 2 (by omega) (by omega)]; exact hc.2.2.1
  · rw [h.1 4 (by omega) (by omega)]; exact hc.2.2.2.1
  · by_cases e : g = f
    · subst e; exact PC_RF h (sameB_refl _ _) (hc.2.2.2.2 g hg)
    · rw [h.1 (6 + g) (by omega) (by omega)]; exact hc.2.2.2.2 g hg
theorem st_worst : kst_worst Inv := fun n S k hk hI => by
  obtain ⟨α, rfl, hw, hc, hm⟩ := hI
  have h3 := hw.1.1
  have hT := hw.2.2.2.1
  have hp3 := hT.1
  by_cases h0 : α 0 1 0 = 0
  · refine ⟨-3, S, S, ?_, ?_, inv_same rfl hw hc hm⟩
    · unfold FX5_worst
      rw [c_uppermost hc.1 hT, if_pos h0, Option.bind_some, c_formAtN hc (Or.inl (by decide))]
      rfl
    · unfold FX6_worst
      rw [mw_shape FX6_forget (FX6_worstOfR 6) S (nI (α 0 1 0)) hm.1.2.1.1, if_pos (by rw [h0, nI_0])]
  · have hf : top α < α 0 0 0 := hT.2.1 _ (by omega)
    obtain ⟨w1, w2, w3, w4⟩ := hw.1.2.1 _ hf
    have hF := hc.2.2.2.2 _ hf
    obtain ⟨S1, a1, a2⟩ := c_startFrom hF w1 w2
    have hu := uns_5 α (top α)
    obtain ⟨S2, b1, b2⟩ := c_fewest hF w1 w3 6 0 α S1 (sameC_refl _ _) w2 (by omega) (by omega) a2
    have hc2 := PC_end b2 hc hf
    have hm2 : RM (S2 5) α := by rw [b2.1 5 (by omega) (by omega)]; exact hm
    obtain ⟨S3, c1, c2, c3⟩ := m_worst hw hm2 h0
    refine ⟨_, S2, S3, ?_, c1, α, rfl, hw.mono, hc2.same c2, c3⟩
    unfold FX5_worst FX2_fewestQuestions
    rw [c_uppermost hc.1 hT, if_neg h0, Option.bind_some, c_formAt hc h3 hf]
    rw [encC_start, nI_0] at b1
    simp only [Option.bind_some, kopt_some, kfm_t hf, kgd_t, a1, b1, kb2_some]
