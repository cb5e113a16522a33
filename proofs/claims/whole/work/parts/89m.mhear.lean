/-! hear: the reference -/
theorem cgo_le {α : kα} {f : Nat} (hI : wfI α) : ∀ (k r c : Nat), r + k ≤ α 0 3 0 → c ≤ 3 → cgo α f k r c ≤ 3 := by
  intro k
  induction k with
  | zero => intro r c _ hc; exact hc
  | succ k ih =>
    intro r c hk hc
    have := (hI.2 r (by omega)).2.2.2.1
    rw [cgo_s]
    split
    · split
      · omega
      · exact ih _ _ (by omega) (by omega)
    · exact ih _ _ (by omega) hc
theorem ans_le {α : kα} {f : Nat} (hI : wfI α) : ans α f ≤ 3 := by
  unfold ans
  split
  · omega
  · exact cgo_le hI _ _ _ (by omega) (by omega)
def j141 (S : kS) : Option (Int32 × kS) := kb (kpI S 5 33 (0 : Int32)) fun S1 => kgd (kin (0 : Int32) 9) <| kb (kA S1 5 37 (0 : Int32)) fun x1 => if x1 = 0 then (kb (kI S1 5 39) fun x2 => some ((100 : Int32) + x2, S1)) else (kb (kI S1 5 39) fun x3 => some (x3, S1))
def j59 (K : kS → Option kS) (F A : kS → Int32 → Option kS) (S : kS) (v1 : Int32) (s0 : Int32) : Option (Int32 × kS) := kb (kpI S 5 40 s0) fun S1 => kgd (kin (0 : Int32) 9) <| kb (kA S1 5 36 (0 : Int32)) fun x1 => kb (kpI S1 5 41 x1) fun S2 => kgd (kin (0 : Int32) 9) <| kb (kA S2 5 35 (0 : Int32)) fun x2 => kb (kpI S2 5 42 x2) fun S3 => kb (kpI S3 5 43 (-1 : Int32)) fun S4 => kgd (kin (0 : Int32) 9) <| kb (kA S4 5 37 (0 : Int32)) fun x3 => if x3 = 0 then (kb (kI S4 5 31) fun x4 => kb (kpI S4 5 31 (x4 + (1 : Int32))) fun S5 => j141 S5) else ((K S4).bind fun S6 => kb (kpI S6 5 31 (0 : Int32)) fun S7 => (F S7 v1).bind fun S8 => kb (kI S8 5 29) fun x5 => if x5 = (-1 : Int32) then (kb (kpI S8 5 29 (-1 : Int32)) fun S1 => j141 S1) else ((A S8 v1).bind fun S9 => kb (kpI S9 5 29 (-1 : Int32)) fun S1 => j141 S1))
def jh (W : kS → Int32 → Option kS) (K : kS → Option kS) (F A : kS → Int32 → Option kS) (S : kS) : Option (Int32 × kS) := kb (kI S 5 33) fun x1 => if x1 = 0 then (some ((-3 : Int32), S)) else (kb (kI S 5 25) fun x2 => if x2 = 0 then (some ((-3 : Int32), S)) else (kb (kI S 5 25) fun x3 => kgd (kin (x3 - (1 : Int32)) 3) <| kb (kA S 5 24 (x3 - (1 : Int32))) fun x4 => (W S x4).bind fun S1 => kgd (kin (0 : Int32) 9) <| kb (kA S1 5 34 (0 : Int32)) fun x5 => kb (kpI S1 5 39 x5) fun S2 => kgd (kin (0 : Int32) 9) <| kb (kA S2 5 37 (0 : Int32)) fun x6 => if x6 = 0 then (j59 K F A S2 x4 (0 : Int32)) else (j59 K F A S2 x4 (1 : Int32))))
theorem jh_eq (S : kS) : FX6_hear S = jh FX6_work FX6_keep FX6_fills FX6_answers S := rfl
theorem j141_N {S : kS} {c : Nat} (h37 : (S 5).2 37 0 = 0) (h39 : (S 5).1 39 = nI c) : j141 S = some (100 + nI c, kpI S 5 33 0) := by
  unfold j141
  simp (disch := omega) only [kb, kin_0, kgd_t, kA_0, pI_2, h37, if_true, kI_eq, pI_1, and_false, Nat.reduceEqDiff, if_false, h39]
theorem j141_Y {S : kS} {c : Nat} (h37 : (S 5).2 37 0 = 1) (h39 : (S 5).1 39 = nI c) : j141 S = some (nI c, kpI S 5 33 0) := by
  unfold j141
  simp (disch := omega) only [kb, kin_0, kgd_t, kA_0, pI_2, h37, o_ne, kI_eq, pI_1, and_false, Nat.reduceEqDiff, if_false, h39]
/-- the numbers of a line, laid down -/
def lay (S : kS) (c w p q : Nat) : kS := kpI (kpI (kpI (kpI (kpI S 5 39 (nI c)) 5 40 (nI w)) 5 41 (nI p)) 5 42 (nI q)) 5 43 (-1)
theorem lay_o (S : kS) (c w p q : Nat) {o : Nat} (h : o ≠ 5) : lay S c w p q o = S o := by unfold lay; rw [pI_ne h, pI_ne h, pI_ne h, pI_ne h, pI_ne h]
theorem lay_2 (S : kS) (c w p q : Nat) : (lay S c w p q 5).2 = (S 5).2 := rfl
theorem lay_1 (S : kS) (c w p q k : Nat) : (lay S c w p q 5).1 k = if k = 43 then -1 else if k = 42 then nI q else if k = 41 then nI p else if k = 40 then nI w else if k = 39 then nI c else (S 5).1 k := by
  unfold lay
  simp only [pI_1, true_and]
theorem jh_0 (W : kS → Int32 → Option kS) (K : kS → Option kS) (F A : kS → Int32 → Option kS) (S : kS) {L P : Nat} (hl : (S 5).1 33 = nI L) (hp : (S 5).1 25 = nI P) (h8 : L ≤ 8) (h3 : P ≤ 3) (h : L = 0 ∨ P = 0) : jh W K F A S = some (-3, S) := by
  unfold jh
  simp (disch := omega) only [kb, kI_eq, hl, hp, nI_z]
  by_cases q : L = 0
  · rw [if_pos q]
  · rw [if_neg q, if_pos (h.resolve_left q)]
theorem jh_go (W : kS → Int32 → Option kS) (K : kS → Option kS) (F A : kS → Int32 → Option kS) (S S1 : kS) {L P f c w p q : Nat} (hl : (S 5).1 33 = nI L) (hp : (S 5).1 25 = nI P) (h8 : L ≤ 8) (h3 : P ≤ 3) (hL : L ≠ 0) (hP : P ≠ 0) (ht : kA S 5 24 (nI P - 1) = nI f) (hk : kin (nI P - 1) 3 = true) (hW : W S (nI f) = some S1) (t0 : (S1 5).2 34 0 = nI c) (t1 : (S1 5).2 35 0 = nI q) (t2 : (S1 5).2 36 0 = nI p) (t3 : (S1 5).2 37 0 = nI w) (hw : w ≤ 1) : jh W K F A S = if w = 0 then (kb (kI (lay S1 c w p q) 5 31) fun x4 => kb (kpI (lay S1 c w p q) 5 31 (x4 + (1 : Int32))) fun S5 => j141 S5) else ((K (lay S1 c w p q)).bind fun S6 => kb (kpI S6 5 31 (0 : Int32)) fun S7 => (F S7 (nI f)).bind fun S8 => kb (kI S8 5 29) fun x5 => if x5 = (-1 : Int32) then (kb (kpI S8 5 29 (-1 : Int32)) fun S1 => j141 S1) else ((A S8 (nI f)).bind fun S9 => kb (kpI S9 5 29 (-1 : Int32)) fun S1 => j141 S1)) := by
  unfold jh
  simp (disch := omega) only [kb, kI_eq, hl, hp, nI_z]
  rw [if_neg hL, if_neg hP, hk, kgd_t, ht, hW, Option.bind_some]
  have hw' : w = 0 ∨ w = 1 := by omega
  unfold j59
  simp (disch := omega) only [kb, kin_0, kgd_t, kA_0, pI_2, t0, t1, t2, t3, nI_z]
  rcases hw' with z | z
  · subst z
    rw [if_pos rfl, if_pos rfl, if_pos rfl]
    rfl
  · subst z
    rw [if_neg (by omega), if_neg (by omega), if_neg (by omega)]
    rfl
theorem MD_fr {m m' : kO} {α : kα} {f : Nat} (h16 : m'.1 16 = m.1 16) (h33 : m'.1 33 = m.1 33) (h : ∀ c, c < 34 → c ≠ 7 → c ≠ 8 → c ≠ 27 → c ≠ 28 → m'.2 c = m.2 c) (hd : MD m α f) : MD m' α f := by
  unfold MD
  rw [h16, h33, h 17 (by omega) (by omega) (by omega) (by omega) (by omega), h 18 (by omega) (by omega) (by omega) (by omega) (by omega), h 19 (by omega) (by omega) (by omega) (by omega) (by omega), h 20 (by omega) (by omega) (by omega) (by omega) (by omega), h 21 (by omega) (by omega) (by omega) (by omega) (by omega), h 22 (by omega) (by omega) (by omega) (by omega) (by omega), h 32 (by omega) (by omega) (by omega) (by omega) (by omega), h 15 (by omega) (by omega) (by omega) (by omega) (by omega)]
  exact hd
