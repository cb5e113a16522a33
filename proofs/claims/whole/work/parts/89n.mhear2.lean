/-! hear: the reference, whole -/
section MHR
variable {α : kα} {f : Nat}
theorem m_hearN {S : kS} (hm : RM (S 5) α) (hT : wfT α) (hG : wfG α f) (hN : α 0 0 0 ≤ 3) (hfe : top α = f) (hf : f < α 0 0 0) (hL : α 0 2 0 ≠ 0) (hP : α 0 1 0 ≠ 0) (hu : TT α f 3 0 = 0) : ∃ S', FX6_hear S = some (100 + nI (TT α f 0 0), S') ∧ (∀ o, o ≠ 5 → S' o = S o) ∧ (∀ k, (S' 5).1 k = if k = 33 then nI 0 else if k = 31 then nI (α 0 6 0 + 1) else if k = 43 then -1 else if k = 42 then nI (TT α f 1 0) else if k = 41 then nI (TT α f 2 0) else if k = 40 then nI 0 else if k = 39 then nI (TT α f 0 0) else (S 5).1 k) ∧ ∀ k, (k < 34 ∨ 37 < k) → (S' 5).2 k = (S 5).2 k := by
  have h8 := hG.2.1.1
  have h3 := hT.1
  obtain ⟨t1, t2⟩ := m_top hm.1 hT hP
  rw [hfe] at t1
  obtain ⟨S1, w1, w2, w3⟩ := m_work (S := S) hG hN (MD_of hm hf)
  obtain ⟨c0, c1, c2, c3⟩ := w3 0 (by omega)
  have c0 : (S1 5).2 34 0 = nI (TT α f 0 0) := c0
  have c1 : (S1 5).2 35 0 = nI (TT α f 1 0) := c1
  have c2 : (S1 5).2 36 0 = nI (TT α f 2 0) := c2
  have c3 : (S1 5).2 37 0 = nI (TT α f 3 0) := c3
  have go := jh_go FX6_work FX6_keep FX6_fills FX6_answers S S1 hm.1.2.2.1.1 hm.1.2.1.1 h8 h3 hL hP t1 t2 w1 c0 c1 c2 c3 (by show TT α f 3 0 ≤ 1; omega)
  have e31 : kI (lay S1 (TT α f 0 0) (TT α f 3 0) (TT α f 2 0) (TT α f 1 0)) 5 31 + 1 = nI (α 0 6 0 + 1) := by
    rw [kI_eq, lay_1, if_neg (by omega), if_neg (by omega), if_neg (by omega), if_neg (by omega), if_neg (by omega), w2.2.1, hm.1.2.2.2.1, li_1, nI_add]
  refine ⟨kpI (kpI (lay S1 (TT α f 0 0) (TT α f 3 0) (TT α f 2 0) (TT α f 1 0)) 5 31 (nI (α 0 6 0 + 1))) 5 33 0, ?_, fun o ho => by rw [pI_ne ho, pI_ne ho, lay_o _ _ _ _ _ ho, w2.1 o ho], fun k => ?_, fun k hk => by rw [pI_2, pI_2, lay_2, w2.2.2 k hk]⟩
  · rw [jh_eq, go, if_pos hu, ← e31]
    exact j141_N (S := kpI (lay S1 (TT α f 0 0) (TT α f 3 0) (TT α f 2 0) (TT α f 1 0)) 5 31 (kI (lay S1 (TT α f 0 0) (TT α f 3 0) (TT α f 2 0) (TT α f 1 0)) 5 31 + 1)) (by rw [pI_2, lay_2, c3, hu]; rfl) (by rw [pI_1, if_neg (by omega), lay_1]; rfl)
  · rw [pI_1, pI_1, lay_1, hu, w2.2.1]
    simp only [true_and, nI_0]
theorem m_hearY {S : kS} (hm : RM (S 5) α) (hT : wfT α) (hG : wfG α f) (hN : α 0 0 0 ≤ 3) (hs : wfS α f) (hr : wfR α f) (hq : aq α f) (h10 : α 0 5 0 ≤ 10) (h12 : α 0 12 0 < 1000) (hfe : top α = f) (hf : f < α 0 0 0) (hL : α 0 2 0 ≠ 0) (hP : α 0 1 0 ≠ 0) (hu : TT α f 3 0 = 1) : ∃ S', FX6_hear S = some (nI (TT α f 0 0), S') ∧ (∀ o, o ≠ 5 → S' o = S o) ∧ ((∀ k, k < 26 ∨ k = 30 ∨ k = 32 → (S' 5).1 k = (S 5).1 k) ∧ (S' 5).1 29 = -1 ∧ (S' 5).1 31 = nI 0 ∧ (S' 5).1 33 = nI 0 ∧ (S' 5).1 39 = nI (TT α f 0 0) ∧ (S' 5).1 40 = nI 1 ∧ (S' 5).1 41 = nI (TT α f 2 0) ∧ (S' 5).1 42 = nI (TT α f 1 0) ∧ (S' 5).1 43 = nO (tk α f).2) ∧ (∀ k, k < 34 → k ≠ 7 → k ≠ 8 → k ≠ 27 → k ≠ 28 → (S' 5).2 k = (S 5).2 k) ∧ MH (S' 5) (αkeep α) ∧ MS (S' 5) (tk α f).1 := by
  have h8 := hG.2.1.1
  have h5 := hG.2.2.1.1
  have h3 := hT.1
  obtain ⟨t1, t2⟩ := m_top hm.1 hT hP
  rw [hfe] at t1
  obtain ⟨S1, w1, w2, w3⟩ := m_work (S := S) hG hN (MD_of hm hf)
  obtain ⟨c0, c1, c2, c3⟩ := w3 0 (by omega)
  have c0 : (S1 5).2 34 0 = nI (TT α f 0 0) := c0
  have c1 : (S1 5).2 35 0 = nI (TT α f 1 0) := c1
  have c2 : (S1 5).2 36 0 = nI (TT α f 2 0) := c2
  have c3 : (S1 5).2 37 0 = nI (TT α f 3 0) := c3
  have go := jh_go FX6_work FX6_keep FX6_fills FX6_answers S S1 hm.1.2.2.1.1 hm.1.2.1.1 h8 h3 hL hP t1 t2 w1 c0 c1 c2 c3 (by show TT α f 3 0 ≤ 1; omega)
  rw [if_neg (by show ¬ TT α f 3 0 = 0; omega)] at go
  generalize hS4 : lay S1 (TT α f 0 0) (TT α f 3 0) (TT α f 2 0) (TT α f 1 0) = S4 at go
  have y1 : ∀ k, (S4 5).1 k = if k = 43 then -1 else if k = 42 then nI (TT α f 1 0) else if k = 41 then nI (TT α f 2 0) else if k = 40 then nI (TT α f 3 0) else if k = 39 then nI (TT α f 0 0) else (S 5).1 k := fun k => by rw [← hS4, lay_1, w2.2.1]
  have y2 : ∀ k, (k < 34 ∨ 37 < k) → (S4 5).2 k = (S 5).2 k := fun k hk => by rw [← hS4, lay_2, w2.2.2 k hk]
  have y3 : (S4 5).2 = (S1 5).2 := by rw [← hS4, lay_2]
  have yo : ∀ o, o ≠ 5 → S4 o = S o := fun o ho => by rw [← hS4, lay_o _ _ _ _ _ ho, w2.1 o ho]
  clear hS4
  have hMS4 : MS (S4 5) α := by
    unfold MS
    rw [y2 2 (by omega), y2 9 (by omega), y2 7 (by omega), y2 8 (by omega)]
    exact hm.2.2.2.1
  have hMH4 : MH (S4 5) α := by
    unfold MH
    rw [y1 26, y2 27 (by omega), y2 28 (by omega)]
    exact hm.2.2.1
  obtain ⟨S6, k1, k2, k3, k4, k5⟩ := m_keep hMH4 hMS4 h10
  have z1 : ∀ k, k ≠ 31 → k ≠ 26 → (kpI S6 5 31 0 5).1 k = (S4 5).1 k := fun k h31 h26 => by rw [pI_1, if_neg (fun h => h31 h.2), k3 k h26]
  have z2 : ∀ k, k ≠ 27 → k ≠ 28 → (kpI S6 5 31 0 5).2 k = (S4 5).2 k := fun k h27 h28 => by rw [pI_2, k4 k h27 h28]
  have hMF7 : MF (kpI S6 5 31 0 5) α f := by
    unfold MF
    rw [z2 3 (by omega) (by omega), z2 4 (by omega) (by omega), z2 5 (by omega) (by omega), z2 6 (by omega) (by omega), z2 10 (by omega) (by omega), z2 11 (by omega) (by omega), z2 12 (by omega) (by omega), z2 13 (by omega) (by omega), z2 14 (by omega) (by omega), z2 15 (by omega) (by omega), y2 3 (by omega), y2 4 (by omega), y2 5 (by omega), y2 6 (by omega), y2 10 (by omega), y2 11 (by omega), y2 12 (by omega), y2 13 (by omega), y2 14 (by omega), y2 15 (by omega)]
    exact hm.2.2.2.2 f hf
  have hMD7 : MD (kpI S6 5 31 0 5) α f := MD_fr (by rw [z1 16 (by omega) (by omega), y1 16]; rfl) (by rw [z1 33 (by omega) (by omega), y1 33]; rfl) (fun c hc _ _ h27 h28 => by rw [z2 c h27 h28, y2 c (by omega)]) (MD_of hm hf)
  have hMS7 : MS (kpI S6 5 31 0 5) α := by
    unfold MS
    rw [z2 2 (by omega) (by omega), z2 9 (by omega) (by omega), z2 7 (by omega) (by omega), z2 8 (by omega) (by omega)]
    exact hMS4
  have h34 : ∀ i, i ≤ α 0 2 0 → (kpI S6 5 31 0 5).2 34 i = nI (TT α f 0 i) := fun i hi => by rw [z2 34 (by omega) (by omega), y3]; exact (w3 i hi).1
  have h35 : (kpI S6 5 31 0 5).2 35 0 = nI (TT α f 1 0) := by rw [z2 35 (by omega) (by omega), y3]; exact c1
  have h37 : (kpI S6 5 31 0 5).2 37 0 = 1 := by rw [z2 37 (by omega) (by omega), y3, c3, hu]; rfl
  have h29 : (kpI S6 5 31 0 5).1 29 = nO (α 0 12 0) := by rw [z1 29 (by omega) (by omega), y1 29]; exact hm.1.2.2.2.2.2.1
  have FM7 : FM (kpI S6 5 31 0) (kpI S6 5 31 0) α 0 := ⟨fun _ _ => rfl, fun _ _ => rfl, fun _ _ _ _ => rfl, by rw [z1 43 (by omega) (by omega), y1 43, if_pos rfl, nO_0], hMS7⟩
  obtain ⟨S8, f1, f2⟩ := m_fillL hG hN hr hMF7 hMD7 h34 (α 1 f 0) kfuel 0 0 α (kpI S6 5 31 0) (by omega) (by unfold kfuel; omega) (by omega) (sX_rf hs) FM7
  have ff : FX6_fills (kpI S6 5 31 0) (nI f) = some S8 := by
    unfold FX6_fills FX6_fills_L2
    rw [nI_0] at f1
    exact f1
  have x29 : kI S8 5 29 = nO (α 0 12 0) := by rw [kI_eq, f2.2.1 29 (by omega), h29]
  have fin : ∃ S9, (if kI S8 5 29 = (-1 : Int32) then (kb (kpI S8 5 29 (-1 : Int32)) fun S1 => j141 S1) else ((FX6_answers S8 (nI f)).bind fun S9 => kb (kpI S9 5 29 (-1 : Int32)) fun S1 => j141 S1)) = j141 (kpI S9 5 29 (-1)) ∧ FM (kpI S6 5 31 0) S9 (tk α f).1 (tk α f).2 := by
    by_cases h0 : α 0 12 0 = 0
    · have et : tk α f = fgos (Of α f) f (α 1 f 0) 0 α 0 := by unfold tk; rw [if_neg (fun h => h.2 h0), if_neg (fun h => h.2 h0)]
      refine ⟨S8, ?_, by rw [et]; exact f2⟩
      rw [if_pos (by rw [x29, h0, nO_0])]
      rfl
    · have h30 : (kpI S6 5 31 0 5).1 30 = nI (α 0 13 0) := by rw [z1 30 (by omega) (by omega), y1 30]; exact hm.1.2.2.2.2.2.2.1 (by omega)
      obtain ⟨S9, a1, a2⟩ := m_answers hG hN hs hr hq hL h0 f2 hMF7 hMD7 h34 h35 h29 h30
      refine ⟨S9, ?_, a2⟩
      rw [if_neg (by rw [x29, nO_m1 (by omega)]; exact h0), a1]
      rfl
  obtain ⟨S9, g1, g2⟩ := fin
  obtain ⟨r1, r2, r3, r4, r5⟩ := g2
  have v1 : ∀ k, k ≠ 33 → k ≠ 29 → (kpI (kpI S9 5 29 (-1)) 5 33 0 5).1 k = (S9 5).1 k := fun k h33 h29 => by rw [pI_1, if_neg (fun h => h33 h.2), pI_1, if_neg (fun h => h29 h.2)]
  have v2 : ∀ k, k ≠ 33 → k ≠ 29 → k ≠ 43 → k ≠ 31 → k ≠ 26 → (kpI (kpI S9 5 29 (-1)) 5 33 0 5).1 k = (S4 5).1 k := fun k a b c d e => by rw [v1 k a b, r2 k c, z1 k d e]
  refine ⟨kpI (kpI S9 5 29 (-1)) 5 33 0, ?_, fun o ho => by rw [pI_ne ho, pI_ne ho, r1 o ho, pI_ne ho, k2 o ho, yo o ho], ⟨fun k hk => ?_, ?_, ?_, ?_, ?_, ?_, ?_, ?_, ?_⟩, fun k hk h7 h8 h27 h28 => by rw [pI_2, pI_2, r3 k h7 h8 (by omega), z2 k h27 h28, y2 k (by omega)], ?_, ?_⟩
  · rw [jh_eq, go, k1, Option.bind_some]
    refine Eq.trans ?_ (g1.trans (j141_Y (by rw [pI_2, r3 37 (by omega) (by omega) (by omega), h37]) (by rw [pI_1, if_neg (by omega), r2 39 (by omega), z1 39 (by omega) (by omega), y1 39]; rfl)))
    show (FX6_fills (kpI S6 5 31 0) (nI f)).bind _ = _
    rw [ff, Option.bind_some]
    rfl
  · rw [v2 k (by omega) (by omega) (by omega) (by omega) (by omega), y1 k, if_neg (by omega), if_neg (by omega), if_neg (by omega), if_neg (by omega), if_neg (by omega)]
  · rw [pI_1, if_neg (by omega), pI_1, if_pos ⟨rfl, rfl⟩]
  · rw [v1 31 (by omega) (by omega), r2 31 (by omega), pI_1, if_pos ⟨rfl, rfl⟩, nI_0]
  · rw [pI_1, if_pos ⟨rfl, rfl⟩, nI_0]
  · rw [v2 39 (by omega) (by omega) (by omega) (by omega) (by omega), y1 39]; rfl
  · rw [v2 40 (by omega) (by omega) (by omega) (by omega) (by omega), y1 40, hu]; rfl
  · rw [v2 41 (by omega) (by omega) (by omega) (by omega) (by omega), y1 41]; rfl
  · rw [v2 42 (by omega) (by omega) (by omega) (by omega) (by omega), y1 42]; rfl
  · rw [v1 43 (by omega) (by omega), r4]
  · unfold MH
    rw [v1 26 (by omega) (by omega), r2 26 (by omega), pI_2, pI_2, r3 27 (by omega) (by omega) (by omega), r3 28 (by omega) (by omega) (by omega), pI_1, if_neg (by omega), pI_2]
    exact k5
  · unfold MS
    rw [pI_2, pI_2]
    exact r5
end MHR
