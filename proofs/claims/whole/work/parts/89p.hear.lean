/-! hear: the step -/
def αh (α γ : kα) (h26 h27 : Nat → Nat → Nat) (h5 u c w p q b a : Nat) : kα := fun k i j => if k = 0 then (if i = 2 then 0 else if i = 5 then h5 else if i = 6 then u else if i = 7 then c else if i = 8 then w else if i = 9 then p else if i = 10 then q else if i = 11 then b else if i = 12 then a else α 0 i j) else if k = 6 then γ 6 i j else if k = 7 then γ 7 i j else if k = 26 then h26 i j else if k = 27 then h27 i j else α k i j
section HR
variable {α γ : kα} {f : Nat} {h26 h27 : Nat → Nat → Nat} {h5 u c w p q b a : Nat}
theorem αh_RF {v : kO} (hX : sX α γ f) (h : RF v γ f) : RF v (αh α γ h26 h27 h5 u c w p q b a) f := by
  have e := fun c g j h6 h7 => hX.1 c g j h6 h7
  obtain ⟨p1, p2, p3, p4⟩ := h
  simp only [e 1 _ _ (by omega) (by omega), e 2 _ _ (by omega) (by omega), e 3 _ _ (by omega) (by omega), e 4 _ _ (by omega) (by omega), e 5 _ _ (by omega) (by omega)] at p1
  simp only [e 8 _ _ (by omega) (by omega), e 9 _ _ (by omega) (by omega), e 10 _ _ (by omega) (by omega), e 11 _ _ (by omega) (by omega), e 12 _ _ (by omega) (by omega), e 13 _ _ (by omega) (by omega)] at p3
  simp only [e 14 _ _ (by omega) (by omega), e 15 _ _ (by omega) (by omega)] at p4
  exact ⟨p1, p2, p3, p4⟩
theorem αh_RFn {v : kO} {g : Nat} (hX : sX α γ f) (hg : g ≠ f) (h : RF v α g) : RF v (αh α γ h26 h27 h5 u c w p q b a) g := by
  obtain ⟨p1, p2, p3, p4⟩ := h
  refine ⟨p1, ⟨fun p hp => ?_, fun p hp => ?_⟩, p3, p4⟩
  · show _ = nI (γ 6 g p)
    rw [hX.2.1 6 g p hg]
    exact p2.1 p hp
  · show _ = nO (γ 7 g p)
    rw [hX.2.1 7 g p hg]
    exact p2.2 p hp
theorem αh_MS {m : kO} (hX : sX α γ f) (h : MS m γ) : MS m (αh α γ h26 h27 h5 u c w p q b a) := by
  obtain ⟨s1, s2, s3, s4⟩ := h
  refine ⟨fun g hg => ?_, fun g hg => ?_, s3, s4⟩
  · show _ = nI (α 1 g 0)
    rw [← hX.1 1 g 0 (by omega) (by omega)]
    exact s1 g hg
  · show _ = nI (α 8 g 0)
    rw [← hX.1 8 g 0 (by omega) (by omega)]
    exact s2 g hg
theorem αh_WF {k : Nat} (hw : WF α k) (hf : f < α 0 0 0) (hX : sX α γ f) (hH : h5 ≤ 10 ∧ ∀ j f p, j < h5 → f < 3 → p < 5 → cok α f p (h26 j (5 * f + p)) (h27 j (5 * f + p))) (hu : u ≤ k + 1) (hw1 : w ≤ 1) (hA : 0 < a → 0 < α 0 1 0 ∧ a - 1 < α 1 (top α) 0 ∧ α 2 (top α) (a - 1) ≠ 1 ∧ γ 7 (top α) (a - 1) = 0 ∧ α 0 13 0 < α 3 (top α) (a - 1)) : WF (αh α γ h26 h27 h5 u c w p q b a) (k + 1) := by
  obtain ⟨w1, w2, w3, w4, w5, w6, w7, w8, w9⟩ := hw
  refine ⟨⟨w1.1, fun g hg => ?_, fun g hg1 hg2 => ?_⟩, w2, w3, w4, ⟨Nat.zero_le _, fun i hi => absurd hi (Nat.not_lt_zero _)⟩, hH, hA, hu, hw1⟩
  · obtain ⟨p1, p2, p3, p4⟩ := w1.2.1 g hg
    refine ⟨p1, fun p hp => ?_, p3, p4⟩
    show cok α g p (γ 6 g p) (γ 7 g p)
    by_cases e : g = f
    · subst e
      have := hX.2.2 p hp
      unfold cok at this ⊢
      rw [hX.1 1 g 0 (by omega) (by omega), hX.1 2 g p (by omega) (by omega), hX.1 3 g p (by omega) (by omega)] at this
      exact this
    · rw [hX.2.1 6 g p e, hX.2.1 7 g p e]
      exact p2 p hp
  · obtain ⟨z1, z2, z3⟩ := w1.2.2 g hg1 hg2
    have hg1 : α 0 0 0 ≤ g := hg1
    have e : g ≠ f := by omega
    refine ⟨z1, z2, fun p hp => ?_⟩
    show γ 6 g p = 0 ∧ γ 7 g p = 0
    rw [hX.2.1 6 g p e, hX.2.1 7 g p e]
    exact z3 p hp
end HR
theorem st_hear : kst_hear Inv := fun n S k hk hI => by
  obtain ⟨α, rfl, hw, hc, hm⟩ := hI
  have h3 := hw.1.1
  have hT := hw.2.2.2.1
  have hp3 := hT.1
  have h8 := hw.2.2.2.2.1.1
  by_cases hz : α 0 2 0 = 0 ∨ α 0 1 0 = 0
  · refine ⟨-3, S, S, ?_, ?_, inv_same rfl hw hc hm⟩
    · rw [hcl_eq]
      by_cases hP : α 0 1 0 = 0
      · exact hcl_0 _ _ _ _ _ (by rw [c_uppermost hc.1 hT, if_pos hP]) (c_formAtN hc (Or.inl (by decide))) (Or.inr rfl)
      · have hf : top α < α 0 0 0 := hT.2.1 _ (by omega)
        exact hcl_0 _ _ _ _ _ (by rw [c_uppermost hc.1 hT, if_neg hP]) (c_formAt hc h3 hf) (Or.inl (by rw [hc.1.2.2.1.1, hz.resolve_right hP]; decide))
    · rw [jh_eq]
      exact jh_0 _ _ _ _ _ hm.1.2.2.1.1 hm.1.2.1.1 h8 hp3 hz
  · have hL : α 0 2 0 ≠ 0 := fun h => hz (Or.inl h)
    have hP : α 0 1 0 ≠ 0 := fun h => hz (Or.inr h)
    have hf : top α < α 0 0 0 := hT.2.1 _ (by omega)
    obtain ⟨w1, w2, w3, w4⟩ := hw.1.2.1 _ hf
    have hq : aq α (top α) := fun h => (hw.2.2.2.2.2.2.1 h).2
    have hA := hw.2.2.2.2.2.2.1
    have h6 := hw.2.2.2.2.2.2.2.1
    have h10 := hw.2.2.2.2.2.1.1
    have h12 : α 0 12 0 < 1000 := by
      have := w1.1
      by_cases z : 0 < α 0 12 0
      · have := (hA z).2.1; omega
      · omega
    generalize hfe : top α = f at hf w1 w2 w3 w4 hq
    have hG : wfG α f := ⟨hw.2.1, hw.2.2.2.2.1, w1, w4, by omega⟩
    have hb3 := (TT_b hG.1 hG.2.1 hG.2.2.1 hG.2.2.2.1 (α 0 2 0) 0 (by omega) (by omega)).2.2.2.2.1
    by_cases hu : TT α f 3 0 = 0
    · obtain ⟨S1, c1, c2, c3, c4, c5⟩ := c_hearN hc hT hG h3 hfe hf hL hP hu
      have y5 : S1 5 = S 5 := c2 5 (by omega) (by omega)
      obtain ⟨S2, m1, m2, m3, m4⟩ := m_hearN (S := S1) (by rw [y5]; exact hm) hT hG h3 hfe hf hL hP hu
      rw [y5] at m3 m4
      refine ⟨_, S1, S2, c1, m1, ?_⟩
      refine inv_fin (α := αh α α (α 26) (α 27) (α 0 5 0) (α 0 6 0 + 1) (TT α f 0 0) 0 (TT α f 2 0) (TT α f 1 0) 0 (α 0 12 0)) rfl (αh_WF hw hf (sX_rf w2) ⟨h10, hw.2.2.2.2.2.1.2⟩ (by omega) (by omega) hA) (S1 := S1) ⟨?_, ?_, ?_, ?_, fun g hg => ?_⟩ (fun o ho => m2 o ho) ⟨?_, ?_, ?_, ?_, fun g hg => ?_⟩
      · obtain ⟨t1, t2, t3, t4, t5, t6, t7⟩ := hc.1
        unfold RT
        simp only [c3]
        rw [c4]
        exact ⟨t1, t2, ⟨nI_0.symm, fun i hi => absurd hi (Nat.not_lt_zero _)⟩, rfl, nO_0.symm, t6, t7⟩
      · rw [c2 1 (by omega) (by omega)]; exact hc.2.1
      · obtain ⟨a0, a1, a2, a3, _⟩ := c5
        have a3 : (S1 2).2 5 0 = nI (TT α f 3 0) := a3
        rw [hu] at a3
        exact ⟨a0, a3, a2, a1⟩
      · rw [c2 4 (by omega) (by omega)]; exact hc.2.2.2.1
      · rw [c2 (6 + g) (by omega) (by omega)]; exact hc.2.2.2.2 g hg
      · obtain ⟨t1, t2, t3, t4, t5, t6, t7, t8⟩ := hm.1
        unfold MT
        simp only [m3]
        rw [m4 24 (by omega), m4 32 (by omega)]
        exact ⟨t1, t2, ⟨rfl, fun i hi => absurd hi (Nat.not_lt_zero _)⟩, rfl, nO_0.symm, t6, t7, rfl, rfl, rfl, rfl⟩
      · unfold MR
        simp only [m3]
        rw [m4 17 (by omega), m4 18 (by omega), m4 19 (by omega), m4 20 (by omega), m4 21 (by omega), m4 22 (by omega)]
        exact hm.2.1
      · unfold MH
        simp only [m3]
        rw [m4 27 (by omega), m4 28 (by omega)]
        exact hm.2.2.1
      · unfold MS
        rw [m4 2 (by omega), m4 9 (by omega), m4 7 (by omega), m4 8 (by omega)]
        exact hm.2.2.2.1
      · unfold MF
        rw [m4 3 (by omega), m4 4 (by omega), m4 5 (by omega), m4 6 (by omega), m4 10 (by omega), m4 11 (by omega), m4 12 (by omega), m4 13 (by omega), m4 14 (by omega), m4 15 (by omega)]
        exact hm.2.2.2.2 g hg
    · have hu : TT α f 3 0 = 1 := by omega
      obtain ⟨S1, c1, c2, c3, c4, c5, c6, c7⟩ := c_hearY hc hw.1 hT hG w2 w3 hq h10 hfe hf hL hP hu
      have y5 : S1 5 = S 5 := c2 5 (by omega)
      obtain ⟨S2, m1, m2, m3, m4, m5, m6⟩ := m_hearY (S := S1) (by rw [y5]; exact hm) hT hG h3 w2 w3 hq h10 h12 hfe hf hL hP hu
      rw [y5] at m3 m4
      obtain ⟨hX, hb6⟩ := tk_sX hG w2 w3 hq
      refine ⟨_, S1, S2, c1, m1, ?_⟩
      refine inv_fin (α := αh α (tk α f).1 (αkeep α 26) (αkeep α 27) (αkeep α 0 5 0) 0 (TT α f 0 0) 1 (TT α f 2 0) (TT α f 1 0) (tk α f).2 0) rfl (αh_WF hw hf hX (wfH_keep hw.1 hw.2.2.2.2.2.1) (by omega) (by omega) (fun h => absurd h (Nat.not_lt_zero _))) (S1 := S1) ⟨?_, ?_, ?_, ?_, fun g hg => ?_⟩ (fun o ho => m2 o ho) ⟨?_, ?_, ?_, ?_, fun g hg => ?_⟩
      · obtain ⟨t1, t2, t3, t4, t5, t6, t7⟩ := hc.1
        obtain ⟨k1, k2, k3, k4, k5⟩ := c3
        unfold RT
        rw [k1 1 (by omega), k1 4 (by omega), k2, k3, k4, k5, c4]
        exact ⟨t1, t2, ⟨nI_0.symm, fun i hi => absurd hi (Nat.not_lt_zero _)⟩, nI_0.symm, rfl, nO_0.symm, fun h => absurd h (Nat.not_lt_zero _)⟩
      · rw [c2 1 (by omega)]; exact hc.2.1
      · obtain ⟨a0, a1, a2, a3, _⟩ := c5
        have a3 : (S1 2).2 5 0 = nI (TT α f 3 0) := a3
        rw [hu] at a3
        exact ⟨a0, a3, a2, a1⟩
      · exact c6
      · have hg : g < α 0 0 0 := hg
        by_cases e : g = f
        · subst e
          exact αh_RF hX c7
        · rw [c2 (6 + g) (by omega)]
          exact αh_RFn hX e (hc.2.2.2.2 g hg)
      · obtain ⟨t1, t2, t3, t4, t5, t6, t7, t8⟩ := hm.1
        obtain ⟨k1, k29, k31, k33, k39, k40, k41, k42, k43⟩ := m3
        unfold MT
        rw [k1 1 (by omega), k1 25 (by omega), k29, k31, k33, k39, k40, k41, k42, k43, m4 24 (by omega) (by omega) (by omega) (by omega) (by omega)]
        exact ⟨t1, t2, ⟨rfl, fun i hi => absurd hi (Nat.not_lt_zero _)⟩, rfl, rfl, nO_0.symm, fun h => absurd h (Nat.not_lt_zero _), rfl, rfl, rfl, rfl⟩
      · have k1 := m3.1
        have e := fun c h1 h2 h3 h4 h5 => m4 c h1 h2 h3 h4 h5
        unfold MR
        rw [k1 16 (by omega), k1 23 (by omega), e 17 (by omega) (by omega) (by omega) (by omega) (by omega), e 18 (by omega) (by omega) (by omega) (by omega) (by omega), e 19 (by omega) (by omega) (by omega) (by omega) (by omega), e 20 (by omega) (by omega) (by omega) (by omega) (by omega), e 21 (by omega) (by omega) (by omega) (by omega) (by omega), e 22 (by omega) (by omega) (by omega) (by omega) (by omega)]
        exact hm.2.1
      · exact m5
      · exact αh_MS hX m6
      · have e := fun c h1 h2 h3 h4 h5 => m4 c h1 h2 h3 h4 h5
        unfold MF
        rw [e 3 (by omega) (by omega) (by omega) (by omega) (by omega), e 4 (by omega) (by omega) (by omega) (by omega) (by omega), e 5 (by omega) (by omega) (by omega) (by omega) (by omega), e 6 (by omega) (by omega) (by omega) (by omega) (by omega), e 10 (by omega) (by omega) (by omega) (by omega) (by omega), e 11 (by omega) (by omega) (by omega) (by omega) (by omega), e 12 (by omega) (by omega) (by omega) (by omega) (by omega), e 13 (by omega) (by omega) (by omega) (by omega) (by omega), e 14 (by omega) (by omega) (by omega) (by omega) (by omega), e 15 (by omega) (by omega) (by omega) (by omega) (by omega)]
        exact hm.2.2.2.2 g hg
