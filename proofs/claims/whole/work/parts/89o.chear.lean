/-! hear: the class -/
def hb (K : kS → Option kS) (T : Nat → kS → Option (Int32 × kS)) (w : Nat) (S1 : kS) : Option (Int32 × kS) := kb (kpI S1 0 6 (0 : Int32)) fun S2 => kb (kpI S2 0 11 (-1 : Int32)) fun S3 => (FX3_isHeard S3).bind fun x5 => if x5 = 0 then (kb (kI S3 0 10) fun x8 => kb (kpI S3 0 10 (kmin (3 : Int32) (x8 + (1 : Int32)))) fun S9 => (FX3_leastCost S9).bind fun x9 => some (((100 : Int32) + x9), S9)) else (kb (kpI S3 0 10 (0 : Int32)) fun S4 => (K S4).bind fun S5 => kb2 (T w S5) fun x6 S6 => kb (kpI S6 0 11 x6) fun S7 => (FX5_forgetConfirm S7).bind fun S8 => (FX3_leastCost S8).bind fun x7 => some (x7, S8))
def hcl (R : Nat → kS → Int32 → Int32 → Option kS) (K : Nat → kS → Option kS) (T : Nat → kS → Option (Int32 × kS)) (n : Nat) (S : kS) : Option (Int32 × kS) := (FX5_uppermost S).bind fun x1 => (FX5_formAt n S x1).bind fun z1 => kb (kI S 0 6) fun x2 => if x2 ≤ 0 then (some ((-3 : Int32), S)) else (kopt z1 (some ((-3 : Int32), S)) (fun w_1 => kgd (kfm n w_1) <| (FX5_uppermost S).bind fun x3 => kb (kI S 0 6) fun x4 => (R w_1 S x3 x4).bind fun S1 => hb (K n) T w_1 S1))
theorem hcl_eq (n : Nat) (S : kS) : FX5_hear n S = hcl FX3_read FX1_keep FX5_takeLine n S := rfl
theorem hcl_0 (R : Nat → kS → Int32 → Int32 → Option kS) (K : Nat → kS → Option kS) (T : Nat → kS → Option (Int32 × kS)) (n : Nat) (S : kS) {x : Int32} {z : Option Nat} (hu : FX5_uppermost S = some x) (hz : FX5_formAt n S x = some z) (h : (S 0).1 6 ≤ 0 ∨ z = none) : hcl R K T n S = some (-3, S) := by
  unfold hcl
  rw [hu, Option.bind_some, hz, Option.bind_some]
  simp only [kb]
  by_cases q : kI S 0 6 ≤ 0
  · rw [if_pos q]
  · rw [if_neg q, h.resolve_left q]
    rfl
theorem hcl_go (R : Nat → kS → Int32 → Int32 → Option kS) (K : Nat → kS → Option kS) (T : Nat → kS → Option (Int32 × kS)) (n : Nat) (S S1 : kS) {f L : Nat} (hu : FX5_uppermost S = some (nI f)) (hz : FX5_formAt n S (nI f) = some (some (6 + f))) (hf : f < n) (hl : (S 0).1 6 = nI L) (h8 : L ≤ 8) (h0 : L ≠ 0) (hR : R (6 + f) S (nI f) (nI L) = some S1) : hcl R K T n S = hb (K n) T (6 + f) S1 := by
  unfold hcl
  rw [hu, Option.bind_some, hz, Option.bind_some]
  simp (disch := omega) only [kb, kI_eq, hl, nI_lz, kopt_some, kfm_t, kgd_t, Option.bind_some, hR]
  rw [if_neg h0]
section CHR
variable {α : kα} {f : Nat}
theorem c_heardE {S : kS} {w : Nat} (hw : w ≤ 1) (h : (S 2).2 5 0 = nI w) : FX3_isHeard S = some (nI w) := by
  unfold FX3_isHeard
  simp (disch := omega) only [kin_0, kgd_t, kb, kA_0, h, kz_n hw]
theorem c_costE {S : kS} {c : Nat} (h : (S 2).2 2 0 = nI c) : FX3_leastCost S = some (nI c) := by
  unfold FX3_leastCost
  simp (disch := omega) only [kin_0, kgd_t, kb, kA_0, h]
theorem hb_N (K : kS → Option kS) (T : Nat → kS → Option (Int32 × kS)) (w : Nat) {S1 : kS} {c u : Nat} (h5 : (S1 2).2 5 0 = nI 0) (h2 : (S1 2).2 2 0 = nI c) (h10 : (S1 0).1 10 = nI (min 3 u)) : hb K T w S1 = some (100 + nI c, kpI (kpI (kpI S1 0 6 0) 0 11 (-1)) 0 10 (nI (min 3 (u + 1)))) := by
  have e2 : kpI (kpI S1 0 6 0) 0 11 (-1) 2 = S1 2 := by rw [pI_ne (by omega), pI_ne (by omega)]
  have e3 : ∀ x, kpI (kpI (kpI S1 0 6 0) 0 11 (-1)) 0 10 x 2 = S1 2 := fun x => by rw [pI_ne (by omega), e2]
  have e10 : kmin 3 (kI (kpI (kpI S1 0 6 0) 0 11 (-1)) 0 10 + 1) = nI (min 3 (u + 1)) := by
    rw [kI_eq, pI_1, if_neg (by omega), pI_1, if_neg (by omega), h10, li_1, nI_add, li_3, kmin_n (by omega) (by omega)]
    congr 1
    omega
  have c1 := c_heardE (S := kpI (kpI S1 0 6 0) 0 11 (-1)) (w := 0) (by omega) (by rw [e2]; exact h5)
  have c2 := c_costE (S := kpI (kpI (kpI S1 0 6 0) 0 11 (-1)) 0 10 (nI (min 3 (u + 1)))) (c := c) (by rw [e3]; exact h2)
  unfold hb
  simp only [kb]
  rw [c1, Option.bind_some, nI_0, if_pos rfl, e10, c2, Option.bind_some]
theorem hb_Y (K : kS → Option kS) (T : Nat → kS → Option (Int32 × kS)) (w : Nat) {S1 S5 S6 : kS} {c b : Nat} (h5 : (S1 2).2 5 0 = nI 1) (hK : K (kpI (kpI (kpI S1 0 6 0) 0 11 (-1)) 0 10 0) = some S5) (hT : T w S5 = some (nO b, S6)) (h2 : (S6 2).2 2 0 = nI c) : hb K T w S1 = some (nI c, kpI (kpI (kpI S6 0 11 (nO b)) 0 12 (-1)) 0 13 (-1)) := by
  have e2 : kpI (kpI S1 0 6 0) 0 11 (-1) 2 = S1 2 := by rw [pI_ne (by omega), pI_ne (by omega)]
  have c1 := c_heardE (S := kpI (kpI S1 0 6 0) 0 11 (-1)) (w := 1) (by omega) (by rw [e2]; exact h5)
  have c2 := c_costE (S := kpI (kpI (kpI S6 0 11 (nO b)) 0 12 (-1)) 0 13 (-1)) (c := c) (by rw [pI_ne (by omega), pI_ne (by omega), pI_ne (by omega)]; exact h2)
  have cf : FX5_forgetConfirm (kpI S6 0 11 (nO b)) = some (kpI (kpI (kpI S6 0 11 (nO b)) 0 12 (-1)) 0 13 (-1)) := rfl
  unfold hb
  simp only [kb]
  rw [c1, Option.bind_some, if_neg (by decide), hK, Option.bind_some, hT, kb2_some, cf, Option.bind_some, c2, Option.bind_some]
theorem c_hearN {S : kS} (hc : RC S α) (hT : wfT α) (hG : wfG α f) (hN : α 0 0 0 ≤ 3) (hfe : top α = f) (hf : f < α 0 0 0) (hL : α 0 2 0 ≠ 0) (hP : α 0 1 0 ≠ 0) (hu : TT α f 3 0 = 0) : ∃ S1, FX5_hear (α 0 0 0) S = some (100 + nI (TT α f 0 0), S1) ∧ (∀ o, o ≠ 0 → o ≠ 2 → S1 o = S o) ∧ (∀ k, (S1 0).1 k = if k = 10 then nI (min 3 (α 0 6 0 + 1)) else if k = 11 then -1 else if k = 6 then 0 else (S 0).1 k) ∧ (S1 0).2 = (S 0).2 ∧ CA (S1 2) 0 (fun c => TT α f c 0) := by
  have h8 := hG.2.1.1
  obtain ⟨S', r1, r2, r3, r4⟩ := c_read hc hG hN hf hL
  have cu := c_uppermost hc.1 hT
  rw [if_neg hP, hfe] at cu
  have go := hcl_go FX3_read FX1_keep FX5_takeLine (α 0 0 0) S S' cu (c_formAt hc hN hf) hf hc.1.2.2.1.1 h8 hL r1
  have ca := r3 0 (by omega)
  have h5 : (S' 2).2 5 0 = nI (TT α f 3 0) := ca.2.2.2.1
  rw [hu] at h5
  refine ⟨_, by rw [hcl_eq, go]; exact hb_N _ _ _ h5 ca.1 (u := α 0 6 0) (by rw [r2 0 (by omega)]; exact hc.1.2.2.2.1), fun o h0 h2 => by rw [pI_ne h0, pI_ne h0, pI_ne h0, r2 o h2], fun k => ?_, ?_, ?_⟩
  · rw [pI_1, pI_1, pI_1, r2 0 (by omega)]
    simp only [true_and]
  · rw [pI_2, pI_2, pI_2, r2 0 (by omega)]
  · rw [pI_ne (by omega), pI_ne (by omega), pI_ne (by omega)]
    exact ca
theorem c_hearY {S : kS} (hc : RC S α) (hWN : wfN α) (hT : wfT α) (hG : wfG α f) (hs : wfS α f) (hr : wfR α f) (hq : aq α f) (h10 : α 0 5 0 ≤ 10) (hfe : top α = f) (hf : f < α 0 0 0) (hL : α 0 2 0 ≠ 0) (hP : α 0 1 0 ≠ 0) (hu : TT α f 3 0 = 1) : ∃ S1, FX5_hear (α 0 0 0) S = some (nI (TT α f 0 0), S1) ∧ (∀ o, o = 1 ∨ o = 5 ∨ (6 ≤ o ∧ o ≠ 6 + f) → S1 o = S o) ∧ ((∀ k, k < 6 → (S1 0).1 k = (S 0).1 k) ∧ (S1 0).1 6 = 0 ∧ (S1 0).1 10 = 0 ∧ (S1 0).1 11 = nO (tk α f).2 ∧ (S1 0).1 12 = -1) ∧ (S1 0).2 = (S 0).2 ∧ CA (S1 2) 0 (fun c => TT α f c 0) ∧ RH (S1 4) (αkeep α) ∧ RF (S1 (6 + f)) (tk α f).1 f := by
  have h8 := hG.2.1.1
  have hN := hWN.1
  obtain ⟨S', r1, r2, r3, r4⟩ := c_read hc hG hN hf hL
  have cu := c_uppermost hc.1 hT
  rw [if_neg hP, hfe] at cu
  have go := hcl_go FX3_read FX1_keep FX5_takeLine (α 0 0 0) S S' cu (c_formAt hc hN hf) hf hc.1.2.2.1.1 h8 hL r1
  have ca := r3 0 (by omega)
  have h5 : (S' 2).2 5 0 = nI (TT α f 3 0) := ca.2.2.2.1
  rw [hu] at h5
  have e4 : ∀ o, o ≠ 0 → kpI (kpI (kpI S' 0 6 0) 0 11 (-1)) 0 10 0 o = S' o := fun o h0 => by rw [pI_ne h0, pI_ne h0, pI_ne h0]
  have e0 : ∀ k, (kpI (kpI (kpI S' 0 6 0) 0 11 (-1)) 0 10 0 0).1 k = if k = 10 then 0 else if k = 11 then -1 else if k = 6 then 0 else (S 0).1 k := fun k => by
    rw [pI_1, pI_1, pI_1, r2 0 (by omega)]
    simp only [true_and]
  obtain ⟨S5, k1, k2, k3⟩ := c_keep (S := kpI (kpI (kpI S' 0 6 0) 0 11 (-1)) 0 10 0) hWN h10 (by rw [e4 4 (by omega), r2 4 (by omega)]; exact hc.2.2.2.1) (fun g hg => by rw [e4 (6 + g) (by omega), r2 (6 + g) (by omega)]; exact hc.2.2.2.2 g hg)
  have z2 : S5 2 = S' 2 := by rw [k2 2 (by omega), e4 2 (by omega)]
  have zf : S5 (6 + f) = S (6 + f) := by rw [k2 (6 + f) (by omega), e4 (6 + f) (by omega), r2 (6 + f) (by omega)]
  have z0 : ∀ k, (S5 0).1 k = if k = 10 then 0 else if k = 11 then -1 else if k = 6 then 0 else (S 0).1 k := fun k => by rw [k2 0 (by omega), e0]
  obtain ⟨S6, t1, t2, t3⟩ := c_take (S := S5) hG hs hr hq (by rw [z2]; exact r4) (fun p hp => by
    have := ca.2.2.2.2 p hp
    rw [z2]
    rw [show 5 * 0 + p = p by omega] at this
    exact this) (by rw [z0 12]; exact hc.1.2.2.2.2.2.1) (fun h => by rw [z0 13]; exact hc.1.2.2.2.2.2.2 h) (by rw [zf]; exact hc.2.2.2.2 f hf) (by have := ans_le (f := f) hG.1; omega)
  have y2 : S6 2 = S' 2 := by rw [t2 2 (by omega), z2]
  have y0 : S6 0 = S5 0 := t2 0 (by omega)
  refine ⟨_, by rw [hcl_eq, go]; exact hb_Y _ _ _ h5 k1 t1 (c := TT α f 0 0) (by rw [y2]; exact ca.1), fun o ho => ?_, ⟨fun k hk => ?_, ?_, ?_, ?_, ?_⟩, ?_, ?_, ?_, ?_⟩
  · rw [pI_ne (by omega), pI_ne (by omega), pI_ne (by omega), t2 o (by omega), k2 o (by omega), e4 o (by omega), r2 o (by omega)]
  · rw [pI_1, if_neg (by omega), pI_1, if_neg (by omega), pI_1, if_neg (by omega), y0, z0, if_neg (by omega), if_neg (by omega), if_neg (by omega)]
  · rw [pI_1, if_neg (by omega), pI_1, if_neg (by omega), pI_1, if_neg (by omega), y0, z0]; rfl
  · rw [pI_1, if_neg (by omega), pI_1, if_neg (by omega), pI_1, if_neg (by omega), y0, z0]; rfl
  · rw [pI_1, if_neg (by omega), pI_1, if_neg (by omega), pI_1, if_pos ⟨rfl, rfl⟩]
  · rw [pI_1, if_neg (by omega), pI_1, if_pos ⟨rfl, rfl⟩]
  · rw [pI_2, pI_2, pI_2, y0, k2 0 (by omega), pI_2, pI_2, pI_2, r2 0 (by omega)]
  · rw [pI_ne (by omega), pI_ne (by omega), pI_ne (by omega), y2]
    exact ca
  · rw [pI_ne (by omega), pI_ne (by omega), pI_ne (by omega), t2 4 (by omega)]
    exact k3
  · rw [pI_ne (by omega), pI_ne (by omega), pI_ne (by omega)]
    exact t3
end CHR
