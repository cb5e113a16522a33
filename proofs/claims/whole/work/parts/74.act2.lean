/-! act: both -/
theorem m_actE {S : kS} {α : kα} {k : Nat} (hw : WF α k) (hm : RM (S 5) α) (h0 : ¬ α 0 1 0 = 0) : FX6_act S = if cf α (top α) (α 1 (top α) 0) 0 = 0 then (if asks α (top α) = 0 then some (0, kpI S 5 29 (-1)) else (FX6_forget (kpI S 5 29 (-1))).bind fun S1 => FX6_act_L159 S1 (nI (top α)) (-1) 10000 0) else some (100 + 10 * nI (cf α (top α) (α 1 (top α) 0) 0 - 1) + nI (low (α 6 (top α) (cf α (top α) (α 1 (top α) 0) 0 - 1))), kpI (kpI (kpI S 5 29 (-1)) 5 29 (nI (cf α (top α) (α 1 (top α) 0) 0 - 1))) 5 30 (nI (low (α 6 (top α) (cf α (top α) (α 1 (top α) 0) 0 - 1))))) := by
  have hT := hw.2.2.2.1
  have h3 := hw.1.1
  have hp3 := hT.1
  have hf : top α < α 0 0 0 := hT.2.1 _ (by omega)
  obtain ⟨w1, w2, w3, w4⟩ := hw.1.2.1 _ hf
  have h5 := w1.1
  obtain ⟨t1, t2⟩ := m_top hm.1 hT h0
  have := m_actloop (S := kpI S 5 29 (-1)) (α := α) (f := top α) (by unfold MS; rw [pI_2]; exact hm.2.2.2.1) (by unfold MF; rw [pI_2]; exact hm.2.2.2.2 _ hf) w1 w3 w2 (by omega) (α 1 (top α) 0) kfuel 0 true (by omega) (by unfold kfuel; omega)
  rw [nI_0, b2_1, Bool.true_and] at this
  unfold FX6_act
  rw [ma_shape FX6_act_L31 S (nI (α 0 1 0)) hm.1.2.1.1, if_neg (by rw [nI_z (by omega)]; exact h0), t1, t2, kgd_t]
  unfold FX6_act_L31
  rw [this]
  by_cases e : asks α (top α) = 0
  · have hA : anyA α (top α) (α 1 (top α) 0) 0 = false := by
      cases h : anyA α (top α) (α 1 (top α) 0) 0
      · rfl
      · have := (anyA_asks h5).mp h; exact absurd e this
    rw [hA, if_pos (show (!false) = true from rfl), if_pos e]
  · have hA : anyA α (top α) (α 1 (top α) 0) 0 = true := (anyA_asks h5).mpr e
    rw [hA, if_neg (show ¬ (!true) = true by decide), if_neg e]
