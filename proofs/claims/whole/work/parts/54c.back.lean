/-! back -/
theorem m_backS (S : kS) (L : kS → Int32 → Option (Int32 × kS)) (x : Int32) (h : kI S 5 26 = x) (hz : ¬ x = 0) : (kb (kI S 5 26) fun x1 => if x1 = 0 then some ((-3 : Int32), S) else (kb (kI S 5 26) fun x2 => kb (kpI S 5 26 (x2 - (1 : Int32))) fun S1 => L S1 (0 : Int32))) = L (kpI S 5 26 (x - 1)) 0 := by
  rw [h]
  exact if_neg hz
theorem m_back {α : kα} {S : kS} (hm : RM (S 5) α) (h10 : α 0 5 0 ≤ 10) (h0 : ¬ α 0 5 0 = 0) : ∃ S2, FX6_back S = some (nI (α 0 5 0 - 1), S2) ∧ (∀ o, o ≠ 5 → S2 o = S o) ∧ (∀ c, (S2 5).1 c = if c = 29 then -1 else if c = 26 then nI (α 0 5 0 - 1) else (S 5).1 c) ∧ (∀ x, x < 15 → (S2 5).2 7 x = (S 5).2 27 (15 * (α 0 5 0 - 1) + x)) ∧ (∀ x, x < 15 → (S2 5).2 8 x = (S 5).2 28 (15 * (α 0 5 0 - 1) + x)) ∧ ∀ c, c ≠ 7 → c ≠ 8 → (S2 5).2 c = (S 5).2 c := by
  have e1 : nI (α 0 5 0) - 1 = nI (α 0 5 0 - 1) := by rw [sub1, nO_31 (by omega) h0]
  have hb : ∀ x, x < 15 → (kpI S 5 26 (nI (α 0 5 0 - 1)) 5).2 28 (15 * (α 0 5 0 - 1) + x) = 0 ∨ (kpI S 5 26 (nI (α 0 5 0 - 1)) 5).2 28 (15 * (α 0 5 0 - 1) + x) = 1 := fun x hx => by
    have := hm.2.2.1.2.2 (α 0 5 0 - 1) x (by omega) hx
    rw [pI_2, this]
    split
    · exact Or.inl rfl
    · exact Or.inr rfl
  obtain ⟨S2, m1, m2, m3, m4, m5, m6⟩ := m_bloop (d := α 0 5 0 - 1) (by omega) 15 kfuel 0 (kpI S 5 26 (nI (α 0 5 0 - 1))) (by omega) (by unfold kfuel; omega) (by rw [pI_1, if_pos ⟨rfl, rfl⟩]) hb
  rw [pI_2] at m4 m5 m6
  refine ⟨S2, ?_, fun o ho => by rw [m2 o ho, pI_ne ho], fun c => by rw [m3, pI_1]; simp, fun x hx => by rw [m4 x hx, if_pos (by omega)], fun x hx => by rw [m5 x hx, if_pos (by omega)], m6⟩
  rw [nI_0] at m1
  have hz : ¬ nI (α 0 5 0) = 0 := by rw [nI_z (by omega)]; exact h0
  have hk : kI S 5 26 = nI (α 0 5 0) := hm.2.2.1.1
  unfold FX6_back
  refine (m_backS S FX6_back_L22 _ hk hz).trans ?_
  rw [e1]
  unfold FX6_back_L22
  exact m1
