/-! act -/
def αact (α : kα) (p v : Nat) : kα := au (au α 0 12 0 p) 0 13 0 v
theorem inv_act {α : kα} {S S1 S2 : kS} {k p v : Nat} (hw : WF α k) (hc : RC S1 α) (hm : RM (S 5) α) (hp : 0 < p → 0 < α 0 1 0 ∧ p - 1 < α 1 (top α) 0 ∧ α 2 (top α) (p - 1) ≠ 1 ∧ α 7 (top α) (p - 1) = 0 ∧ v < α 3 (top α) (p - 1)) (e : ∀ o, o ≠ 5 → o ≠ 0 → S2 o = S1 o) (e0 : ∀ c, c ≠ 12 → c ≠ 13 → (S2 0).1 c = (S1 0).1 c) (e02 : (S2 0).2 = (S1 0).2) (e12 : (S2 0).1 12 = nO p) (e13 : 0 < p → (S2 0).1 13 = nI v) (m0 : ∀ c, c ≠ 29 → c ≠ 30 → (S2 5).1 c = (S 5).1 c) (m2 : ∀ c, c ≠ 7 → c ≠ 8 → c ≠ 44 → (S2 5).2 c = (S 5).2 c) (mS : MS (S2 5) α) (m12 : (S2 5).1 29 = nO p) (m13 : 0 < p → (S2 5).1 30 = nI v) : Inv (α 0 0 0) S2 (k + 1) := by
  obtain ⟨w1, w2, w3, w4, w5, w6, w7, w8, w9⟩ := hw
  refine ⟨αact α p v, rfl, ⟨w1, w2, w3, w4, w5, w6, hp, by show α 0 6 0 ≤ k + 1; omega, w9⟩, ⟨?_, ?_, ?_, ?_, fun g hg => ?_⟩, ⟨?_, ?_, ?_, mS, fun g hg => ?_⟩⟩
  · obtain ⟨t1, t2, t3, t4, t5, t6, t7⟩ := hc.1
    unfold RT
    rw [e0 1 (by omega) (by omega), e0 4 (by omega) (by omega), e0 6 (by omega) (by omega), e0 10 (by omega) (by omega), e0 11 (by omega) (by omega), e02]
    exact ⟨t1, t2, t3, t4, t5, e12, e13⟩
  · rw [e 1 (by omega) (by omega)]; exact hc.2.1
  · rw [e 2 (by omega) (by omega)]; exact hc.2.2.1
  · rw [e 4 (by omega) (by omega)]; exact hc.2.2.2.1
  · rw [e (6 + g) (by omega) (by omega)]; exact hc.2.2.2.2 g hg
  · obtain ⟨t1, t2, t3, t4, t5, t6, t7, t8⟩ := hm.1
    unfold MT
    rw [m0 1 (by omega) (by omega), m0 25 (by omega) (by omega), m0 33 (by omega) (by omega), m0 31 (by omega) (by omega), m0 43 (by omega) (by omega), m0 39 (by omega) (by omega), m0 40 (by omega) (by omega), m0 41 (by omega) (by omega), m0 42 (by omega) (by omega), m2 24 (by omega) (by omega) (by omega), m2 32 (by omega) (by omega) (by omega)]
    exact ⟨t1, t2, t3, t4, t5, m12, m13, t8⟩
  · unfold MR
    rw [m0 16 (by omega) (by omega), m0 23 (by omega) (by omega), m2 17 (by omega) (by omega) (by omega), m2 18 (by omega) (by omega) (by omega), m2 19 (by omega) (by omega) (by omega), m2 20 (by omega) (by omega) (by omega), m2 21 (by omega) (by omega) (by omega), m2 22 (by omega) (by omega) (by omega)]
    exact hm.2.1
  · unfold MH
    rw [m0 26 (by omega) (by omega), m2 27 (by omega) (by omega) (by omega), m2 28 (by omega) (by omega) (by omega)]
    exact hm.2.2.1
  · unfold MF
    rw [m2 3 (by omega) (by omega) (by omega), m2 4 (by omega) (by omega) (by omega), m2 5 (by omega) (by omega) (by omega), m2 6 (by omega) (by omega) (by omega), m2 10 (by omega) (by omega) (by omega), m2 11 (by omega) (by omega) (by omega), m2 12 (by omega) (by omega) (by omega), m2 13 (by omega) (by omega) (by omega), m2 14 (by omega) (by omega) (by omega), m2 15 (by omega) (by omega) (by omega)]
    exact hm.2.2.2.2 g hg
theorem c_toAsk {S : kS} {α : kα} {f : Nat} (hF : RF (S (6 + f)) α f) (hw : wfP α f) (hr : wfR α f) (hs : wfS α f) : ∃ S', FX2_placeToAsk (6 + f) S = some (nO (bst α f (α 1 f 0) 0 0 0), S') ∧ PC S S' α α f := by
  have h5 := hw.1
  obtain ⟨S1, a1, a2⟩ := c_startFrom hF hw hs
  obtain ⟨S2, b1, b2⟩ := c_askloop hF hw hr hs 5 kfuel 0 0 0 S1 (by omega) (by unfold kfuel; omega) (by omega) (by omega) a2
  refine ⟨S2, ?_, b2⟩
  have e5 : bst α f 5 0 0 0 = bst α f (α 1 f 0) 0 0 0 := by
    have := bst_ext (α := α) (f := f) (α 1 f 0) (5 - α 1 f 0) 0 0 0 (by omega)
    rw [show α 1 f 0 + (5 - α 1 f 0) = 5 by omega] at this
    exact this
  unfold FX2_placeToAsk
  rw [a1, Option.bind_some, c_questions (PC_RF a2 (sameB_refl _ _) hF) hw hs hr, Option.bind_some]
  unfold FX2_placeToAsk_L18
  rw [e5, nI_0, nO_0] at b1
  exact b1
theorem qm_0 (α : kα) (f : Nat) : (qm α f = 0) = (asks α f = 0) := by
  have a0 := as1_le α f 0; have a1 := as1_le α f 1; have a2 := as1_le α f 2; have a3 := as1_le α f 3; have a4 := as1_le α f 4
  unfold qm asks
  exact propext ⟨fun h => by omega, fun h => by omega⟩
theorem cf_asks {α : kα} {f : Nat} (h5 : α 1 f 0 ≤ 5) (h : asks α f = 0) : cf α f (α 1 f 0) 0 = 0 := by
  rcases Nat.decEq (cf α f (α 1 f 0) 0) 0 with e | e
  · exfalso
    have := (cf_yes _ _ e).2
    unfold cfd at this
    rw [Bool.and_eq_true] at this
    have h1 := as1_1 this.1
    have hq := (ask_p this.1).1
    generalize cf α f (α 1 f 0) 0 - 1 = q at h1 hq
    unfold asks at h
    rcases (show q = 0 ∨ q = 1 ∨ q = 2 ∨ q = 3 ∨ q = 4 by omega) with rfl | rfl | rfl | rfl | rfl <;> omega
  · exact e
theorem ma_shape (L : kS → Int32 → Int32 → Int32 → Option (Int32 × kS)) (S : kS) (x : Int32) (hx : kI S 5 25 = x) : (kb (kI S 5 25) fun x1 => if x1 = 0 then (some ((-3 : Int32), S)) else (kb (kI S 5 25) fun x2 => kgd (kin (x2 - (1 : Int32)) 3) <| kb (kA S 5 24 (x2 - (1 : Int32))) fun x3 => kb (kpI S 5 29 (-1 : Int32)) fun S1 => L S1 x3 (1 : Int32) (0 : Int32))) = if x = 0 then some (-3, S) else kgd (kin (x - 1) 3) (L (kpI S 5 29 (-1)) (kA S 5 24 (x - 1)) 1 0) := by
  rw [hx]
  rfl
