/-! the lines kept: what it means -/
def αkeep (α : kα) : kα := au (ac (ac α 26 (fun j x => if α 0 5 0 = 10 then (if j = 9 then α 6 (x / 5) (x % 5) else α 26 (j + 1) x) else (if j = α 0 5 0 then α 6 (x / 5) (x % 5) else α 26 j x))) 27 (fun j x => if α 0 5 0 = 10 then (if j = 9 then α 7 (x / 5) (x % 5) else α 27 (j + 1) x) else (if j = α 0 5 0 then α 7 (x / 5) (x % 5) else α 27 j x))) 0 5 0 (min 10 (α 0 5 0 + 1))
theorem αkeep_26 (α : kα) (j x : Nat) : αkeep α 26 j x = if α 0 5 0 = 10 then (if j = 9 then α 6 (x / 5) (x % 5) else α 26 (j + 1) x) else (if j = α 0 5 0 then α 6 (x / 5) (x % 5) else α 26 j x) := rfl
theorem αkeep_27 (α : kα) (j x : Nat) : αkeep α 27 j x = if α 0 5 0 = 10 then (if j = 9 then α 7 (x / 5) (x % 5) else α 27 (j + 1) x) else (if j = α 0 5 0 then α 7 (x / 5) (x % 5) else α 27 j x) := rfl
theorem αkeep_5 (α : kα) : αkeep α 0 5 0 = min 10 (α 0 5 0 + 1) := rfl
theorem wfH_keep {α : kα} (hN : wfN α) (hH : wfH α) : wfH (αkeep α) := by
  obtain ⟨h10, hj⟩ := hH
  refine ⟨by rw [αkeep_5]; omega, fun j f p hjl hf hp => ?_⟩
  rw [αkeep_5] at hjl
  have hcur : cok α f p (α 6 f p) (α 7 f p) := by
    rcases Nat.lt_or_ge f (α 0 0 0) with h | h
    · exact (hN.2.1 f h).2.1 p hp
    · obtain ⟨z1, z8, z67⟩ := hN.2.2 f h hf
      obtain ⟨a1, a2⟩ := z67 p hp
      rw [a1, a2]
      exact ⟨fun h => by omega, fun _ => ⟨rfl, rfl⟩⟩
  rw [αkeep_26, αkeep_27, show (5 * f + p) / 5 = f by omega, show (5 * f + p) % 5 = p by omega]
  show cok α f p _ _
  by_cases h : α 0 5 0 = 10
  · rw [if_pos h, if_pos h]
    by_cases e : j = 9
    · rw [if_pos e, if_pos e]; exact hcur
    · rw [if_neg e, if_neg e]; exact hj (j + 1) f p (by omega) hf hp
  · rw [if_neg h, if_neg h]
    by_cases e : j = α 0 5 0
    · rw [if_pos e, if_pos e]; exact hcur
    · rw [if_neg e, if_neg e]; exact hj j f p (by omega) hf hp
theorem c_keep {α : kα} {S : kS} (hN : wfN α) (h10 : α 0 5 0 ≤ 10) (hR : RH (S 4) α) (hF : ∀ f, f < α 0 0 0 → RF (S (6 + f)) α f) : ∃ S', FX1_keep (α 0 0 0) S = some S' ∧ (∀ o, o ≠ 4 → S' o = S o) ∧ RH (S' 4) (αkeep α) := by
  obtain ⟨nx, n1, n2, n3, n4, n5⟩ := hR
  have h3 := hN.1
  obtain ⟨S1, q1, q2, q3, q4, q5⟩ := c_keepL (n := α 0 0 0) (x := nx) h3 n1 3 kfuel 0 S (by omega) (by unfold kfuel; omega) n2
  have hcur : ∀ x, x < 15 → (S1 4).2 0 (15 * nx + x) = nI (α 6 (x / 5) (x % 5)) ∧ (S1 4).2 1 (15 * nx + x) = nO (α 7 (x / 5) (x % 5)) := fun x hx => by
    rw [q4, q5, show 15 * nx + x - 15 * nx = x by omega]
    rcases Nat.lt_or_ge (x / 5) (α 0 0 0) with h | h
    · rw [if_pos (by omega), if_pos (by omega)]
      exact ⟨(hF _ h).2.1.1 _ (by omega), (hF _ h).2.1.2 _ (by omega)⟩
    · rw [if_neg (by omega), if_neg (by omega)]
      obtain ⟨z1, z8, z67⟩ := hN.2.2 (x / 5) h (by omega)
      obtain ⟨a1, a2⟩ := z67 (x % 5) (by omega)
      have := n5 nx (x / 5) (x % 5) n1 h (by omega) (by omega)
      rw [show 5 * (x / 5) + x % 5 = x by omega] at this
      rw [a1, a2, nI_0, nO_0]
      exact this
  have hold : ∀ y s x, s < 10 → s ≠ nx → x < 15 → y = 15 * s + x → (S1 4).2 0 y = (S 4).2 0 y ∧ (S1 4).2 1 y = (S 4).2 1 y := fun y s x hs hne hx hy => by
    rw [q4, q5, if_neg (by omega), if_neg (by omega)]
    exact ⟨rfl, rfl⟩
  have emin : kmin (10 : Int32) (nI (α 0 5 0) + 1) = nI (min 10 (α 0 5 0 + 1)) := by rw [li_1, nI_add, li_10, kmin_r (by omega) (by omega)]
  have enx : (nI nx + 1) - (nI nx + 1) / 10 * 10 = nI ((nx + 1) % 10) := by rw [li_1, li_10, nI_add, nI_rem (by omega) (by omega)]
  have y2 : (S1 4).1 2 = nI nx := by rw [q3]; exact n2
  have y3 : (S1 4).1 3 = nI (α 0 5 0) := by rw [q3]; exact n3
  refine ⟨kpI (kpI S1 4 2 (nI ((nx + 1) % 10))) 4 3 (nI (min 10 (α 0 5 0 + 1))), ?_, fun o ho => by rw [pI_ne ho, pI_ne ho, q2 o ho], ⟨(nx + 1) % 10, by omega, by rw [pI_1, if_neg (by omega), pI_1, if_pos ⟨rfl, rfl⟩], by rw [pI_1, if_pos ⟨rfl, rfl⟩, αkeep_5], fun j x hj hx => ?_, fun s f p hs hf1 hf2 hp => ?_⟩⟩
  · unfold FX1_keep FX1_keep_L2
    rw [nI_0] at q1
    rw [q1]
    unfold FX1_keep_J50
    simp only [kb, kI_eq, y2, enx, pI_1, y3, emin, and_false, Nat.reduceEqDiff, if_false]
  · rw [pI_2, pI_2, αkeep_26, αkeep_27, αkeep_5]
    rw [αkeep_5] at hj
    by_cases h : α 0 5 0 = 10
    · rw [if_pos h, if_pos h]
      by_cases e : j = 9
      · rw [if_pos e, if_pos e, show ((nx + 1) % 10 + 10 - min 10 (α 0 5 0 + 1) + j) % 10 = nx by omega]
        exact hcur x hx
      · rw [if_neg e, if_neg e, show ((nx + 1) % 10 + 10 - min 10 (α 0 5 0 + 1) + j) % 10 = (nx + 10 - α 0 5 0 + (j + 1)) % 10 by omega]
        have := hold _ ((nx + 10 - α 0 5 0 + (j + 1)) % 10) x (by omega) (by omega) hx rfl
        rw [this.1, this.2]
        exact n4 (j + 1) x (by omega) hx
    · rw [if_neg h, if_neg h]
      by_cases e : j = α 0 5 0
      · rw [if_pos e, if_pos e, show ((nx + 1) % 10 + 10 - min 10 (α 0 5 0 + 1) + j) % 10 = nx by omega]
        exact hcur x hx
      · rw [if_neg e, if_neg e, show ((nx + 1) % 10 + 10 - min 10 (α 0 5 0 + 1) + j) % 10 = (nx + 10 - α 0 5 0 + j) % 10 by omega]
        have := hold _ ((nx + 10 - α 0 5 0 + j) % 10) x (by omega) (by omega) hx rfl
        rw [this.1, this.2]
        exact n4 j x (by omega) hx
  · have hf1 : α 0 0 0 ≤ f := hf1
    rw [pI_2, pI_2, q4, q5]
    rw [if_neg (by omega), if_neg (by omega)]
    exact n5 s f p hs hf1 hf2 hp
