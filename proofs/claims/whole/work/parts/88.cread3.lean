/-! reading: the class, whole -/
theorem r20e (S : kS) (G : kS → Int32 → Int32 → Option kS) (H : kS × Int32 × Int32 → Option kS) {v2 : Int32} {L i : Nat} (hl : (S 2).1 1 = nI L) (h8 : L ≤ 8) (hi : i = L) : (kb (kI S 2 1) fun x1 => if x1 ≤ nI i then ((FX3_startAtEnd S).bind fun S1 => kb (kI S1 2 1) fun x2 => G S1 v2 (x2 - (1 : Int32))) else (kgd (kin (nI i) 8) <| kb (kA S 0 5 (nI i)) fun x3 => kgd (kin (nI i) 8) <| kb (kpA S 2 0 (nI i) x3) fun S2 => H (S2, v2, (nI i + (1 : Int32))))) = (FX3_startAtEnd S).bind fun S1 => kb (kI S1 2 1) fun x2 => G S1 v2 (x2 - (1 : Int32)) := by
  have hc : kI S 2 1 ≤ nI i := by rw [kI_eq, hl, nI_l' (by omega) (by omega)]; omega
  exact if_pos hc
theorem r20s (S : kS) (G : kS → Int32 → Int32 → Option kS) (H : kS × Int32 × Int32 → Option kS) {v2 : Int32} {L i : Nat} (hl : (S 2).1 1 = nI L) (h8 : L ≤ 8) (hi : i < L) : (kb (kI S 2 1) fun x1 => if x1 ≤ nI i then ((FX3_startAtEnd S).bind fun S1 => kb (kI S1 2 1) fun x2 => G S1 v2 (x2 - (1 : Int32))) else (kgd (kin (nI i) 8) <| kb (kA S 0 5 (nI i)) fun x3 => kgd (kin (nI i) 8) <| kb (kpA S 2 0 (nI i) x3) fun S2 => H (S2, v2, (nI i + (1 : Int32))))) = H (kpR S 2 0 (upd ((S 2).2 0) i ((S 0).2 5 i)), v2, nI (i + 1)) := by
  have hc : ¬ kI S 2 1 ≤ nI i := by rw [kI_eq, hl, nI_l' (by omega) (by omega)]; omega
  refine (if_neg hc).trans ?_
  simp (disch := omega) only [kin_t, kgd_t, kb, kA_nI, kpA_nI, li_1, nI_add]
theorem c_copyL {f L : Nat} (h8 : L ≤ 8) : ∀ (k m i : Nat) (S : kS), i + k = L → k < m → (S 2).1 1 = nI L → ∃ S', kfix (fun rec (q : kS × Int32 × Int32) => FX3_read_B20 (6 + f) rec q.1 q.2.1 q.2.2) m (S, nI f, nI i) = ((FX3_startAtEnd S').bind fun S1 => kb (kI S1 2 1) fun x2 => FX3_read_L59 (6 + f) S1 (nI f) (x2 - (1 : Int32))) ∧ (∀ o, o ≠ 2 → S' o = S o) ∧ (S' 2).1 = (S 2).1 ∧ ∀ j, j < L → (S' 2).2 0 j = if i ≤ j then (S 0).2 5 j else (S 2).2 0 j := by
  intro k
  induction k with
  | zero =>
    intro m i S hk hm hl
    obtain ⟨m, rfl⟩ : ∃ m', m = m' + 1 := ⟨m - 1, by omega⟩
    refine ⟨S, ?_, fun _ _ => rfl, rfl, fun j hj => by rw [if_neg (by omega)]⟩
    rw [kfix_s]
    generalize kfix (fun rec (q : kS × Int32 × Int32) => FX3_read_B20 (6 + f) rec q.1 q.2.1 q.2.2) m = Rk
    show FX3_read_B20 (6 + f) Rk S (nI f) (nI i) = _
    unfold FX3_read_B20
    exact r20e S (FX3_read_L59 (6 + f)) Rk hl h8 (by omega)
  | succ k ih =>
    intro m i S hk hm hl
    obtain ⟨m, rfl⟩ : ∃ m', m = m' + 1 := ⟨m - 1, by omega⟩
    obtain ⟨S', q1, q2, q3, q4⟩ := ih m (i + 1) (kpR S 2 0 (upd ((S 2).2 0) i ((S 0).2 5 i))) (by omega) (by omega) hl
    clear ih
    refine ⟨S', ?_, fun o ho => by rw [q2 o ho, pR_ne ho], by rw [q3]; rfl, fun j hj => ?_⟩
    · rw [kfix_s]
      generalize kfix (fun rec (q : kS × Int32 × Int32) => FX3_read_B20 (6 + f) rec q.1 q.2.1 q.2.2) m = Rk at q1 ⊢
      show FX3_read_B20 (6 + f) Rk S (nI f) (nI i) = _
      unfold FX3_read_B20
      exact (r20s S (FX3_read_L59 (6 + f)) Rk hl h8 (by omega)).trans q1
    · rw [q4 j hj, pR_ne (by omega), pR_2, if_pos (show 2 = 2 ∧ 0 = 0 from ⟨rfl, rfl⟩), upd_eq]
      by_cases h1 : i + 1 ≤ j
      · rw [if_pos h1, if_pos (by omega)]
      · rw [if_neg h1]
        by_cases h2 : j = i
        · rw [if_pos h2, if_pos (by omega), h2]
        · rw [if_neg h2, if_neg (by omega)]
theorem c_read {α : kα} {f : Nat} {S : kS} (hc : RC S α) (hG : wfG α f) (hN : α 0 0 0 ≤ 3) (hf : f < α 0 0 0) (h0 : α 0 2 0 ≠ 0) : ∃ S', FX3_read (6 + f) S (nI f) (nI (α 0 2 0)) = some S' ∧ (∀ o, o ≠ 2 → S' o = S o) ∧ (∀ i, i ≤ α 0 2 0 → CA (S' 2) i (fun c => TT α f c i)) ∧ (S' 2).1 7 = nO (ans α f) := by
  have h8 := hG.2.1.1
  obtain ⟨t1, t2, t3, t4⟩ := hc.1
  have z1 : (kpI S 2 1 (nI (α 0 2 0)) 2).1 1 = nI (α 0 2 0) := by rw [pI_1, if_pos ⟨rfl, rfl⟩]
  obtain ⟨S1, a1, a2, a3, a4⟩ := c_copyL (f := f) (L := α 0 2 0) h8 (α 0 2 0) kfuel 0 (kpI S 2 1 (nI (α 0 2 0))) (by omega) (by unfold kfuel; omega) z1
  have y1 : (S1 2).1 1 = nI (α 0 2 0) := by rw [a3]; exact z1
  have hD1 : CD S1 α f := by
    refine ⟨?_, ?_, y1, fun i hi => ?_⟩
    · rw [a2 1 (by omega), pI_ne (by omega)]; exact hc.2.1
    · rw [a2 (6 + f) (by omega), pI_ne (by omega)]; exact hc.2.2.2.2 f hf
    · rw [a4 i hi, if_pos (by omega), pI_ne (by omega)]
      exact t3.2 i hi
  obtain ⟨S2, b1, b2', b3⟩ := c_start (S := S1) h8 y1
  have y2 : (S2 2).1 1 = nI (α 0 2 0) := by rw [b2'.2.1]; exact y1
  obtain ⟨S', d1, d2, d3, d4⟩ := c_readL hG hN h0 (α 0 2 0) kfuel S2 (Nat.le_refl _) (by unfold kfuel; omega) (kp_CD b2' hD1) (fun i h1 h2 => by
    have e : i = α 0 2 0 := by omega
    subst e
    exact CA_cg b3 (fun c => (TT_L α f c).symm))
  refine ⟨S', ?_, fun o ho => by rw [d2 o ho, b2'.1 o ho, a2 o ho, pI_ne ho], d3, d4⟩
  unfold FX3_read
  have em : kmin (nI (α 0 2 0)) (kmin 8 8) = nI (α 0 2 0) := by
    rw [li_8, kmin_n (by omega) (by omega), kmin_n (by omega) (by omega)]
    congr 1
    omega
  rw [em]
  show FX3_read_L20 (6 + f) (kpI S 2 1 (nI (α 0 2 0))) (nI f) 0 = _
  unfold FX3_read_L20
  rw [nI_0] at a1
  refine a1.trans ?_
  rw [b1]
  show FX3_read_L59 (6 + f) S2 (nI f) ((S2 2).1 1 - 1) = _
  rw [y2, sub1]
  unfold FX3_read_L59
  exact d1
