/-! bar, need -/
def αrul (α : kα) (f kd p v q w : Nat) : kα := au (au (au (au (au (au α 9 f (α 8 f 0) kd) 10 f (α 8 f 0) p) 11 f (α 8 f 0) v) 12 f (α 8 f 0) q) 13 f (α 8 f 0) w) 8 f 0 (α 8 f 0 + 1)
theorem αrul_ne {α : kα} {f kd p v q w g : Nat} (hg : g ≠ f) (c j : Nat) : αrul α f kd p v q w c g j = α c g j := by
  unfold αrul
  simp [au_eq, hg]
theorem αrul_8 {α : kα} {f kd p v q w : Nat} : αrul α f kd p v q w 8 f 0 = α 8 f 0 + 1 := by
  unfold αrul
  simp [au_eq]
theorem αrul_9 {α : kα} {f kd p v q w : Nat} (j : Nat) : αrul α f kd p v q w 9 f j = if j = α 8 f 0 then kd else α 9 f j := by
  unfold αrul
  simp [au_eq]
theorem αrul_10 {α : kα} {f kd p v q w : Nat} (j : Nat) : αrul α f kd p v q w 10 f j = if j = α 8 f 0 then p else α 10 f j := by
  unfold αrul
  simp [au_eq]
theorem αrul_11 {α : kα} {f kd p v q w : Nat} (j : Nat) : αrul α f kd p v q w 11 f j = if j = α 8 f 0 then v else α 11 f j := by
  unfold αrul
  simp [au_eq]
theorem αrul_12 {α : kα} {f kd p v q w : Nat} (j : Nat) : αrul α f kd p v q w 12 f j = if j = α 8 f 0 then q else α 12 f j := by
  unfold αrul
  simp [au_eq]
theorem αrul_13 {α : kα} {f kd p v q w : Nat} (j : Nat) : αrul α f kd p v q w 13 f j = if j = α 8 f 0 then w else α 13 f j := by
  unfold αrul
  simp [au_eq]
theorem wf_rul {α : kα} {f kd p v q w k : Nat} (hw : WF α k) (hf : f < α 0 0 0) (h6 : α 8 f 0 < 6) (hk : kd ≤ 1) (hp : p < α 1 f 0) (hq : q < α 1 f 0) (hv : v < α 3 f p) (hx : w < 4) (hkq : kd = 1 → α 2 f q ≠ 1) : WF (αrul α f kd p v q w) (k + 1) := by
  obtain ⟨w1, w2, w3, w4, w5, w6, w7, w8, w9⟩ := hw
  refine ⟨⟨w1.1, fun g hg => ?_, fun g hg1 hg2 => ?_⟩, w2, w3, w4, w5, w6, w7, by show α 0 6 0 ≤ k + 1; omega, w9⟩
  · have hg : g < α 0 0 0 := hg
    by_cases e : g = f
    · subst e
      obtain ⟨p1, p2, p3, p4⟩ := w1.2.1 g hg
      refine ⟨p1, p2, ⟨?_, fun r hr => ?_⟩, p4⟩
      · rw [αrul_8]; omega
      · rw [αrul_8] at hr
        rw [αrul_9, αrul_10, αrul_11, αrul_12, αrul_13]
        by_cases e : r = α 8 g 0
        · simp only [if_pos e]
          exact ⟨hk, hp, hq, hv, hx, hkq⟩
        · simp only [if_neg e]
          exact p3.2 r (by omega)
    · exact (w1.2.1 g hg).congr (fun c j _ _ => αrul_ne e c j)
  · have hg1 : α 0 0 0 ≤ g := hg1
    have := w1.2.2 g hg1 hg2
    simp only [αrul_ne (show g ≠ f by omega)]
    exact this
theorem inv_rul {α : kα} {S S1 S2 : kS} {f kd p v q w k : Nat} (hw : WF α k) (hc : RC S α) (hm : RM (S 5) α) (hf : f < α 0 0 0) (h6 : α 8 f 0 < 6) (hk : kd ≤ 1) (hp : p < α 1 f 0) (hq : q < α 1 f 0) (hv : v < α 3 f p) (hx : w < 4) (hkq : kd = 1 → α 2 f q ≠ 1)
    (q0 : ∀ o', o' ≠ 6 + f → S1 o' = S o') (q1 : (S1 (6 + f)).1 0 = (S (6 + f)).1 0) (q7 : (S1 (6 + f)).1 7 = nI (α 8 f 0 + 1)) (qa : (S1 (6 + f)).2 8 = upd ((S (6 + f)).2 8) (α 8 f 0) (nI kd)) (qb : (S1 (6 + f)).2 9 = upd ((S (6 + f)).2 9) (α 8 f 0) (nI p)) (qc : (S1 (6 + f)).2 10 = upd ((S (6 + f)).2 10) (α 8 f 0) (nI v)) (qd : (S1 (6 + f)).2 11 = upd ((S (6 + f)).2 11) (α 8 f 0) (nI q)) (qf : (S1 (6 + f)).2 12 = upd ((S (6 + f)).2 12) (α 8 f 0) (nI w)) (qe : ∀ k, k < 8 ∨ 12 < k → (S1 (6 + f)).2 k = (S (6 + f)).2 k)
    (t0 : ∀ o', o' ≠ 5 → S2 o' = S1 o') (t1 : (S2 5).1 = (S 5).1) (t2 : (S2 5).2 9 = upd ((S 5).2 9) f (nI (α 8 f 0 + 1))) (t3 : (S2 5).2 10 = upd ((S 5).2 10) (6 * f + α 8 f 0) (nI (1 - kd))) (t4 : (S2 5).2 11 = upd ((S 5).2 11) (6 * f + α 8 f 0) (nI (5 * f + p))) (t5 : (S2 5).2 12 = upd ((S 5).2 12) (6 * f + α 8 f 0) (nI v)) (t6 : (S2 5).2 13 = upd ((S 5).2 13) (6 * f + α 8 f 0) (nI (5 * f + q))) (t7 : (S2 5).2 14 = upd ((S 5).2 14) (6 * f + α 8 f 0) (nI w)) (t9 : ∀ k, k < 9 ∨ 14 < k → (S2 5).2 k = (S 5).2 k) : Inv (α 0 0 0) S2 (k + 1) := by
  have h3 := hw.1.1
  refine inv_fin (α := αrul α f kd p v q w) rfl (wf_rul hw hf h6 hk hp hq hv hx hkq) (S1 := S1) ⟨?_, ?_, ?_, ?_, fun g hg => ?_⟩ t0 ⟨?_, ?_, ?_, ?_, fun g hg => ?_⟩
  · rw [q0 0 (by omega)]; exact hc.1
  · rw [q0 1 (by omega)]; exact hc.2.1
  · rw [q0 2 (by omega)]; exact hc.2.2.1
  · rw [q0 4 (by omega)]; exact hc.2.2.2.1
  · have hg : g < α 0 0 0 := hg
    by_cases e : g = f
    · subst e
      obtain ⟨⟨p1, p2, p3, p4, p5⟩, s, ⟨r1, r2, r3, r4, r5, r6⟩, x⟩ := hc.2.2.2.2 g hg
      refine ⟨⟨?_, ?_, ?_, ?_, ?_⟩, ?_, ⟨?_, ?_, ?_, ?_, ?_, ?_⟩, ?_⟩
      · rw [q1]; exact p1
      · rw [qe 1 (by omega)]; exact p2
      · rw [qe 2 (by omega)]; exact p3
      · rw [qe 3 (by omega)]; exact p4
      · rw [qe 4 (by omega)]; exact p5
      · rw [qe 5 (by omega), qe 6 (by omega)]; exact s
      · rw [q7, αrul_8]
      · intro r hr
        rw [αrul_8] at hr
        rw [qa, upd_eq, αrul_9]
        by_cases e : r = α 8 g 0
        · rw [if_pos e, if_pos e]
        · rw [if_neg e, if_neg e]; exact r2 r (by omega)
      · intro r hr
        rw [αrul_8] at hr
        rw [qb, upd_eq, αrul_10]
        by_cases e : r = α 8 g 0
        · rw [if_pos e, if_pos e]
        · rw [if_neg e, if_neg e]; exact r3 r (by omega)
      · intro r hr
        rw [αrul_8] at hr
        rw [qc, upd_eq, αrul_11]
        by_cases e : r = α 8 g 0
        · rw [if_pos e, if_pos e]
        · rw [if_neg e, if_neg e]; exact r4 r (by omega)
      · intro r hr
        rw [αrul_8] at hr
        rw [qd, upd_eq, αrul_12]
        by_cases e : r = α 8 g 0
        · rw [if_pos e, if_pos e]
        · rw [if_neg e, if_neg e]; exact r5 r (by omega)
      · intro r hr
        rw [αrul_8] at hr
        rw [qf, upd_eq, αrul_13]
        by_cases e : r = α 8 g 0
        · rw [if_pos e, if_pos e]
        · rw [if_neg e, if_neg e]; exact r6 r (by omega)
      · rw [qe 13 (by omega), qe 14 (by omega)]; exact x
    · rw [q0 (6 + g) (by omega)]
      exact (hc.2.2.2.2 g hg).congr (fun c j _ _ => αrul_ne e c j)
  · unfold MT; rw [t1, t9 24 (by omega), t9 32 (by omega)]; exact hm.1
  · unfold MR; rw [t1, t9 17 (by omega), t9 18 (by omega), t9 19 (by omega), t9 20 (by omega), t9 21 (by omega), t9 22 (by omega)]; exact hm.2.1
  · unfold MH; rw [t1, t9 27 (by omega), t9 28 (by omega)]; exact hm.2.2.1
  · obtain ⟨m1, m2, m3, m4⟩ := hm.2.2.2.1
    unfold MS
    rw [t9 2 (by omega), t9 7 (by omega), t9 8 (by omega)]
    refine ⟨m1, fun g hg => ?_, m3, m4⟩
    rw [t2, upd_eq]
    by_cases e : g = f
    · subst e; rw [if_pos rfl, αrul_8]
    · rw [if_neg e, αrul_ne e]; exact m2 g hg
  · have hg : g < α 0 0 0 := hg
    obtain ⟨⟨p2, p3, p4, p5⟩, ⟨r2, r3, r4, r5, r6⟩, x⟩ := hm.2.2.2.2 g hg
    have g6 := (hw.1.2.1 g hg).2.2.1.1
    by_cases e : g = f
    · subst e
      refine ⟨⟨?_, ?_, ?_, ?_⟩, ⟨?_, ?_, ?_, ?_, ?_⟩, ?_⟩
      · rw [t9 3 (by omega)]; exact p2
      · rw [t9 4 (by omega)]; exact p3
      · rw [t9 5 (by omega)]; exact p4
      · rw [t9 6 (by omega)]; exact p5
      · intro r hr
        rw [αrul_8] at hr
        rw [t3, upd_eq, αrul_9]
        by_cases e : r = α 8 g 0
        · rw [if_pos e, if_pos (by omega)]
        · rw [if_neg e, if_neg (by omega)]; exact r2 r (by omega)
      · intro r hr
        rw [αrul_8] at hr
        rw [t4, upd_eq, αrul_10]
        by_cases e : r = α 8 g 0
        · rw [if_pos e, if_pos (by omega)]
        · rw [if_neg e, if_neg (by omega)]; exact r3 r (by omega)
      · intro r hr
        rw [αrul_8] at hr
        rw [t5, upd_eq, αrul_11]
        by_cases e : r = α 8 g 0
        · rw [if_pos e, if_pos (by omega)]
        · rw [if_neg e, if_neg (by omega)]; exact r4 r (by omega)
      · intro r hr
        rw [αrul_8] at hr
        rw [t6, upd_eq, αrul_12]
        by_cases e : r = α 8 g 0
        · rw [if_pos e, if_pos (by omega)]
        · rw [if_neg e, if_neg (by omega)]; exact r5 r (by omega)
      · intro r hr
        rw [αrul_8] at hr
        rw [t7, upd_eq, αrul_13]
        by_cases e : r = α 8 g 0
        · rw [if_pos e, if_pos (by omega)]
        · rw [if_neg e, if_neg (by omega)]; exact r6 r (by omega)
      · rw [t9 15 (by omega)]; exact x
    · refine MF.congr (α := α) (fun c j _ _ => αrul_ne e c j) ⟨⟨?_, ?_, ?_, ?_⟩, ⟨?_, ?_, ?_, ?_, ?_⟩, ?_⟩
      · rw [t9 3 (by omega)]; exact p2
      · rw [t9 4 (by omega)]; exact p3
      · rw [t9 5 (by omega)]; exact p4
      · rw [t9 6 (by omega)]; exact p5
      · intro r hr
        rw [t3, upd_eq, if_neg (by omega)]; exact r2 r hr
      · intro r hr
        rw [t4, upd_eq, if_neg (by omega)]; exact r3 r hr
      · intro r hr
        rw [t5, upd_eq, if_neg (by omega)]; exact r4 r hr
      · intro r hr
        rw [t6, upd_eq, if_neg (by omega)]; exact r5 r hr
      · intro r hr
        rw [t7, upd_eq, if_neg (by omega)]; exact r6 r hr
      · rw [t9 15 (by omega)]; exact x
theorem c_addRuleF {α : kα} {S : kS} {o f : Nat} (hF : RF (S o) α f) (h6 : α 8 f 0 = 6) (x y z w u : Int32) : FX0_addRule o S x y z w u = some (-4, S) := by
  unfold FX0_addRule
  simp only [kb, kI_eq, hF.2.2.1.1, h6]
  rfl
theorem c_addRule {α : kα} {S : kS} {o f : Nat} (hF : RF (S o) α f) (h6 : α 8 f 0 < 6) (x y z w u : Int32) : ∃ S1, FX0_addRule o S x y z w u = some (nI (α 8 f 0), S1) ∧ (∀ o', o' ≠ o → S1 o' = S o') ∧ (S1 o).1 0 = (S o).1 0 ∧ (S1 o).1 7 = nI (α 8 f 0 + 1) ∧ (S1 o).2 8 = upd ((S o).2 8) (α 8 f 0) x ∧ (S1 o).2 9 = upd ((S o).2 9) (α 8 f 0) y ∧ (S1 o).2 10 = upd ((S o).2 10) (α 8 f 0) z ∧ (S1 o).2 11 = upd ((S o).2 11) (α 8 f 0) w ∧ (S1 o).2 12 = upd ((S o).2 12) (α 8 f 0) u ∧ ∀ k, k < 8 ∨ 12 < k → (S1 o).2 k = (S o).2 k := by
  refine ⟨kpI (kpR (kpR (kpR (kpR (kpR S o 8 (upd ((S o).2 8) (α 8 f 0) x)) o 9 (upd ((S o).2 9) (α 8 f 0) y)) o 10 (upd ((S o).2 10) (α 8 f 0) z)) o 11 (upd ((S o).2 11) (α 8 f 0) w)) o 12 (upd ((S o).2 12) (α 8 f 0) u)) o 7 (nI (α 8 f 0 + 1)), ?_, ?_, ?_, ?_, ?_, ?_, ?_, ?_, ?_, ?_⟩
  · unfold FX0_addRule
    simp (disch := omega) only [kb, kI_eq, hF.2.2.1.1, li_6, nI_t', h6, if_true, kin_t, kgd_t, kpA_nI, pR_1, pR_2, pI_1, li_1, nI_add, and_self, and_false, Nat.reduceEqDiff, if_false]
    rw [nI_sub (by omega)]
    rfl
  · intro o' ho'
    rw [pI_ne ho', pR_ne ho', pR_ne ho', pR_ne ho', pR_ne ho', pR_ne ho']
  · simp [pI_1, pR_1]
  · simp [pI_1]
  · simp [pI_2, pR_2]
  · simp [pI_2, pR_2]
  · simp [pI_2, pR_2]
  · simp [pI_2, pR_2]
  · simp [pI_2, pR_2]
  · intro k hk
    simp [pI_2, pR_2, show k ≠ 8 by omega, show k ≠ 9 by omega, show k ≠ 10 by omega, show k ≠ 11 by omega, show k ≠ 12 by omega]
theorem m_rule {α : kα} {S : kS} {f p q : Nat} (hM : RM (S 5) α) (hwT : wfT α) (h3 : α 0 0 0 ≤ 3) (hT : inT α f = false) (hf : f < 3) (h6 : α 8 f 0 < 6) (hp : p < 5) (hq : q < 5) (x z u : Int32) (hx : x &&& 1 = x) : ∃ S1, FX6_rule S (nI f) x (nI p) z (nI q) u = some (nI (α 8 f 0), S1) ∧ (∀ o', o' ≠ 5 → S1 o' = S o') ∧ (S1 5).1 = (S 5).1 ∧ (S1 5).2 9 = upd ((S 5).2 9) f (nI (α 8 f 0 + 1)) ∧ (S1 5).2 10 = upd ((S 5).2 10) (6 * f + α 8 f 0) x ∧ (S1 5).2 11 = upd ((S 5).2 11) (6 * f + α 8 f 0) (nI (5 * f + p)) ∧ (S1 5).2 12 = upd ((S 5).2 12) (6 * f + α 8 f 0) z ∧ (S1 5).2 13 = upd ((S 5).2 13) (6 * f + α 8 f 0) (nI (5 * f + q)) ∧ (S1 5).2 14 = upd ((S 5).2 14) (6 * f + α 8 f 0) u ∧ ∀ k, k < 9 ∨ 14 < k → (S1 5).2 k = (S 5).2 k := by
  refine ⟨kpR (kpR (kpR (kpR (kpR (kpR S 5 10 (upd ((S 5).2 10) (6 * f + α 8 f 0) x)) 5 11 (upd ((S 5).2 11) (6 * f + α 8 f 0) (nI (5 * f + p)))) 5 12 (upd ((S 5).2 12) (6 * f + α 8 f 0) z)) 5 13 (upd ((S 5).2 13) (6 * f + α 8 f 0) (nI (5 * f + q)))) 5 14 (upd ((S 5).2 14) (6 * f + α 8 f 0) u)) 5 9 (upd ((S 5).2 9) f (nI (α 8 f 0 + 1))), ?_, ?_, rfl, rfl, rfl, rfl, rfl, rfl, rfl, ?_⟩
  · unfold FX6_rule
    rw [m_isOpen hM.1 hwT h3 hf, hT]
    simp (disch := omega) only [Option.bind_some, b2_0, if_true, kb, li_5, li_6, nI_mul, nI_add, nI_e, show ¬ α 8 f 0 = 6 by omega, kA_nI, hM.2.2.2.1.2.1 f hf, kin_t, kgd_t, kpA_nI, hx, pR_2, and_false, true_and, Nat.reduceEqDiff, if_false, and_self, upd_eq]
    rw [li_1, nI_add, nI_sub (by omega)]
    rfl
  · intro o' ho'
    rw [pR_ne ho', pR_ne ho', pR_ne ho', pR_ne ho', pR_ne ho', pR_ne ho']
  · intro k hk
    simp [pR_2, show k ≠ 9 by omega, show k ≠ 10 by omega, show k ≠ 11 by omega, show k ≠ 12 by omega, show k ≠ 13 by omega, show k ≠ 14 by omega]
theorem m_ruleT {α : kα} {S : kS} {f : Nat} (hM : RM (S 5) α) (hwT : wfT α) (h3 : α 0 0 0 ≤ 3) (hT : inT α f = true) (hf : f < 3) (x y z w u : Int32) : FX6_rule S (nI f) x y z w u = some (-3, S) := by
  unfold FX6_rule
  rw [m_isOpen hM.1 hwT h3 hf, hT]
  rfl
theorem m_ruleF {α : kα} {S : kS} {f : Nat} (hM : RM (S 5) α) (hwT : wfT α) (h3 : α 0 0 0 ≤ 3) (hT : inT α f = false) (hf : f < 3) (h6 : α 8 f 0 = 6) (x y z w u : Int32) : FX6_rule S (nI f) x y z w u = some (-4, S) := by
  unfold FX6_rule
  rw [m_isOpen hM.1 hwT h3 hf, hT]
  simp (disch := omega) only [Option.bind_some, b2_0, if_true, kb, kA_nI, hM.2.2.2.1.2.1 f hf, kin_t, kgd_t, h6, li_6]
/-- the part that bar and need have in common -/
theorem rul_all {α : kα} {S : kS} {f kd p v q w k : Nat} (hw : WF α k) (hc : RC S α) (hm : RM (S 5) α) (hf : f < α 0 0 0) (hk : kd ≤ 1) (hp : p < α 1 f 0) (hq : q < α 1 f 0) (hv : v < α 3 f p) (hx : w < 4) (hkq : kd = 1 → α 2 f q ≠ 1) {A : Option (Int32 × kS)} {B : kS → Option (Int32 × kS)} (hA : A = if inT α f = true then some (-3, S) else FX0_addRule (6 + f) S (nI kd) (nI p) (nI v) (nI q) (nI w)) (hB : ∀ S' : kS, RM (S' 5) α → B S' = FX6_rule S' (nI f) (nI (1 - kd)) (nI p) (nI v) (nI q) (nI w)) : ∃ r S1 S2, A = some (r, S1) ∧ B S1 = some (r, S2) ∧ Inv (α 0 0 0) S2 (k + 1) := by
  have h3 := hw.1.1
  have hf3 : f < 3 := by omega
  have h5 := (hw.1.2.1 f hf).1.1
  have hr6 := (hw.1.2.1 f hf).2.2.1.1
  have hF := hc.2.2.2.2 f hf
  by_cases hT : inT α f = true
  · exact ⟨-3, S, S, by rw [hA, if_pos hT], by rw [hB S hm, m_ruleT hm hw.2.2.2.1 h3 hT hf3], inv_same rfl hw hc hm⟩
  · have hT' : inT α f = false := by simpa using hT
    by_cases h6 : α 8 f 0 = 6
    · exact ⟨-4, S, S, by rw [hA, if_neg hT, c_addRuleF hF h6], by rw [hB S hm, m_ruleF hm hw.2.2.2.1 h3 hT' hf3 h6], inv_same rfl hw hc hm⟩
    · have h6 : α 8 f 0 < 6 := by omega
      obtain ⟨S1, c0, c1, c2, c3, c4, c5, c6, c7, c8, c9⟩ := c_addRule (S := S) hF h6 (nI kd) (nI p) (nI v) (nI q) (nI w)
      have x5 : S1 5 = S 5 := c1 5 (by omega)
      have hm1 : RM (S1 5) α := by rw [x5]; exact hm
      have hx1 : nI (1 - kd) &&& 1 = nI (1 - kd) := by
        rcases (show kd = 0 ∨ kd = 1 by omega) with rfl | rfl
        · decide +kernel
        · decide +kernel
      obtain ⟨S2, d0, d1, d2, d3, d4, d5, d6, d7, d8, d9⟩ := m_rule (S := S1) (p := p) (q := q) hm1 hw.2.2.2.1 h3 hT' hf3 h6 (by omega) (by omega) (nI (1 - kd)) (nI v) (nI w) hx1
      rw [x5] at d2 d3 d4 d5 d6 d7 d8 d9
      exact ⟨_, S1, S2, by rw [hA, if_neg hT, c0], by rw [hB S1 hm1, d0], inv_rul hw hc hm hf h6 hk hp hq hv hx hkq c1 c2 c3 c4 c5 c6 c7 c8 c9 d1 d2 d3 d4 d5 d6 d7 d8 d9⟩
theorem st_bar : kst_bar Inv := fun n S k a1 a2 a3 a4 a5 hk hI => by
  obtain ⟨α, rfl, hw, hc, hm⟩ := hI
  have h3 := hw.1.1
  rcases kcase (α 0 0 0) (by omega) a1 with ⟨f, hf, rfl⟩ | hx
  · have hF := hc.2.2.2.2 f hf
    have hMF := hm.2.2.2.2 f hf
    have hf3 : f < 3 := by omega
    have w1 := (hw.1.2.1 f hf).1
    have hp5 := w1.1
    have cl : FX5_bar (α 0 0 0) S (nI f) a2 a3 a4 a5 = ((FX0_hasValue (6 + f) S a2 a3).bind fun x1 => if x1 = 0 then some (-1, S) else ((FX0_hasValue (6 + f) S a4 a5).bind fun x2 => if x2 = 0 then some (-1, S) else (if a2 = a4 then some (-2, S) else if inT α f = true then some (-3, S) else FX0_addRule (6 + f) S 0 a2 a3 a4 a5))) := by
      unfold FX5_bar FX5_bar_J34
      rw [c_formAt hc h3 hf]
      simp only [Option.bind_some, kopt_some, kfm_t hf, kgd_t]
      rw [c_isInTalk hc.1 hw.2.2.2.1 h3 hf3]
      refine congrArg _ (funext fun x => ?_)
      split
      · rfl
      · refine congrArg _ (funext fun y => ?_)
        split
        · rfl
        · split
          · rfl
          · cases inT α f
            · simp only [Option.bind_some, b2_0, kb2, if_true, Bool.false_eq_true, if_false]
              cases FX0_addRule (6 + f) S 0 a2 a3 a4 a5 <;> rfl
            · simp [b2_1]
    rw [cl]
    have bad : ∀ x y : Int32, (x < 0 ∨ nI (α 1 f 0) ≤ x) ∨ (∃ p, p < α 1 f 0 ∧ x = nI p ∧ (y < 0 ∨ nI (α 3 f p) ≤ y)) ∨ (∃ p v, p < α 1 f 0 ∧ v < α 3 f p ∧ x = nI p ∧ y = nI v) := fun x y => by
      rcases kcase (α 1 f 0) (by omega) x with ⟨p, hp, rfl⟩ | hy
      · rcases kcase (α 3 f p) (by have := (w1.2 p hp).2.2.1; omega) y with ⟨v, hv, rfl⟩ | hv
        · exact Or.inr (Or.inr ⟨p, v, hp, hv, rfl, rfl⟩)
        · exact Or.inr (Or.inl ⟨p, hp, rfl, hv⟩)
      · exact Or.inl hy
    rcases bad a2 a3 with hy | ⟨p, hp, rfl, hy⟩ | ⟨p, v, hp, hv, rfl, rfl⟩
    · refine ⟨-1, S, S, by rw [c_hasValueP hF w1 hy]; rfl, ?_, inv_same rfl hw hc hm⟩
      unfold FX6_bar
      rw [m_isValueP hm.1.1 h3 hm.2.2.2.1 w1 hf hy]; rfl
    · refine ⟨-1, S, S, by rw [c_hasValueV hF w1 hp hy]; rfl, ?_, inv_same rfl hw hc hm⟩
      unfold FX6_bar
      rw [m_isValueV hm.1.1 h3 hm.2.2.2.1 hMF w1 hf hp hy]; rfl
    · rw [c_hasValue hF w1 hp hv]
      simp only [Option.bind_some, o_ne, if_false]
      rcases bad a4 a5 with hy | ⟨q, hq, rfl, hy⟩ | ⟨q, w, hq, hv2, rfl, rfl⟩
      · refine ⟨-1, S, S, by rw [c_hasValueP hF w1 hy]; rfl, ?_, inv_same rfl hw hc hm⟩
        unfold FX6_bar
        rw [m_isValue hm.1.1 h3 hm.2.2.2.1 hMF w1 hf hp hv, m_isValueP hm.1.1 h3 hm.2.2.2.1 w1 hf hy]; rfl
      · refine ⟨-1, S, S, by rw [c_hasValueV hF w1 hq hy]; rfl, ?_, inv_same rfl hw hc hm⟩
        unfold FX6_bar
        rw [m_isValue hm.1.1 h3 hm.2.2.2.1 hMF w1 hf hp hv, m_isValueV hm.1.1 h3 hm.2.2.2.1 hMF w1 hf hq hy]; rfl
      · rw [c_hasValue hF w1 hq hv2]
        simp (disch := omega) only [Option.bind_some, o_ne, if_false, nI_e]
        by_cases e : p = q
        · refine ⟨-2, S, S, by rw [if_pos e], ?_, inv_same rfl hw hc hm⟩
          unfold FX6_bar
          rw [m_isValue hm.1.1 h3 hm.2.2.2.1 hMF w1 hf hp hv, m_isValue hm.1.1 h3 hm.2.2.2.1 hMF w1 hf hq hv2, e]
          simp only [Option.bind_some, o_ne, if_false, if_true]
          rfl
        · refine rul_all (kd := 0) (p := p) (v := v) (q := q) (w := w) hw hc hm hf (by omega) hp hq hv (by have := (w1.2 q hq).2.2.1; omega) (by intro h; omega) (by rw [if_neg e, nI_0]) (B := fun S' => FX6_bar S' (nI f) (nI p) (nI v) (nI q) (nI w)) (fun S' hm => ?_)
          have hMF := hm.2.2.2.2 f hf
          unfold FX6_bar
          rw [m_isValue hm.1.1 h3 hm.2.2.2.1 hMF w1 hf hp hv, m_isValue hm.1.1 h3 hm.2.2.2.1 hMF w1 hf hq hv2]
          simp (disch := omega) only [Option.bind_some, o_ne, if_false, nI_e, e, kb2]
          rw [← li_1]
          cases FX6_rule S' (nI f) 1 (nI p) (nI v) (nI q) (nI w) <;> rfl
  · refine ⟨-1, S, S, ?_, ?_, inv_same rfl hw hc hm⟩
    · unfold FX5_bar
      rw [c_formAtN hc hx]
      rfl
    · unfold FX6_bar
      rw [m_isValueF hm.1.1 h3 hx]
      rfl
theorem st_need : kst_need Inv := fun n S k a1 a2 a3 a4 hk hI => by
  obtain ⟨α, rfl, hw, hc, hm⟩ := hI
  have h3 := hw.1.1
  rcases kcase (α 0 0 0) (by omega) a1 with ⟨f, hf, rfl⟩ | hx
  · have hF := hc.2.2.2.2 f hf
    have hMF := hm.2.2.2.2 f hf
    have hf3 : f < 3 := by omega
    have w1 := (hw.1.2.1 f hf).1
    have hp5 := w1.1
    rcases kcase (α 1 f 0) (by omega) a2 with ⟨p, hp, rfl⟩ | hy
    · rcases kcase (α 3 f p) (by have := (w1.2 p hp).2.2.1; omega) a3 with ⟨v, hv, rfl⟩ | hy
      · rcases kcase (α 1 f 0) (by omega) a4 with ⟨q, hq, rfl⟩ | hy
        · have hk2 := (w1.2 q hq).1
          have cl : FX5_need (α 0 0 0) S (nI f) (nI p) (nI v) (nI q) = if p = q then some (-2, S) else if α 2 f q = 1 then some (-2, S) else if inT α f = true then some (-3, S) else FX0_addRule (6 + f) S (nI 1) (nI p) (nI v) (nI q) (nI 0) := by
            unfold FX5_need FX5_need_J50
            rw [c_formAt hc h3 hf]
            simp only [Option.bind_some, kopt_some, kfm_t hf, kgd_t]
            rw [c_hasValue hF w1 hp hv, c_hasPlace hF w1 hq, c_isWorked hF w1 hq, c_isInTalk hc.1 hw.2.2.2.1 h3 hf3]
            simp (disch := omega) only [Option.bind_some, o_ne, if_false, nI_e, b2_d0]
            split
            · rfl
            · by_cases e2 : α 2 f q = 1
              · rw [if_neg (by simpa using e2), if_pos e2]
              · rw [if_pos e2, if_neg e2]
                cases inT α f
                · simp only [b2_0, kb2, if_true, Bool.false_eq_true, if_false, ← li_1, nI_0]
                  cases FX0_addRule (6 + f) S 1 (nI p) (nI v) (nI q) 0 <;> rfl
                · simp [b2_1]
          have ml : ∀ S' : kS, RM (S' 5) α → FX6_need S' (nI f) (nI p) (nI v) (nI q) = if p = q then some (-2, S') else if α 2 f q = 1 then some (-2, S') else FX6_rule S' (nI f) (nI (1 - 1)) (nI p) (nI v) (nI q) (nI 0) := fun S' hm => by
            have hMF := hm.2.2.2.2 f hf
            unfold FX6_need FX6_need_J43 FX6_need_J59
            rw [m_isValue hm.1.1 h3 hm.2.2.2.1 hMF w1 hf hp hv, m_isPlace hm.1.1 h3 hm.2.2.2.1 w1 hf hq]
            have fe : (nI (α 2 f q) = 1) = (α 2 f q = 1) := by rw [li_1, nI_e (by omega) (by omega)]
            simp (disch := omega) only [Option.bind_some, o_ne, if_false, nI_e, li_5, nI_mul, nI_add, kin_t, kgd_t, kb, kA_nI, hMF.1.1 q hq, fe]
            split
            · rfl
            · split
              · rfl
              · simp only [kb2, Nat.sub_self, nI_0]
                cases FX6_rule S' (nI f) 0 (nI p) (nI v) (nI q) 0 <;> rfl
          rw [cl]
          by_cases e : p = q
          · exact ⟨-2, S, S, by rw [if_pos e], by rw [ml S hm, if_pos e], inv_same rfl hw hc hm⟩
          · by_cases e2 : α 2 f q = 1
            · exact ⟨-2, S, S, by rw [if_neg e, if_pos e2], by rw [ml S hm, if_neg e, if_pos e2], inv_same rfl hw hc hm⟩
            · exact rul_all (kd := 1) (p := p) (v := v) (q := q) (w := 0) hw hc hm hf (by omega) hp hq hv (by omega) (fun _ => e2) (by rw [if_neg e, if_neg e2]) (B := fun S' => FX6_need S' (nI f) (nI p) (nI v) (nI q)) (fun S' hm => by rw [ml S' hm, if_neg e, if_neg e2])
        · refine ⟨-1, S, S, ?_, ?_, inv_same rfl hw hc hm⟩
          · unfold FX5_need
            rw [c_formAt hc h3 hf]
            simp only [Option.bind_some, kopt_some, kfm_t hf, kgd_t]
            rw [c_hasValue hF w1 hp hv, c_hasPlaceN hF w1 hy]
            rfl
          · unfold FX6_need
            rw [m_isValue hm.1.1 h3 hm.2.2.2.1 hMF w1 hf hp hv, m_isPlaceP hm.1.1 h3 hm.2.2.2.1 w1 hf hy]
            rfl
      · refine ⟨-1, S, S, ?_, ?_, inv_same rfl hw hc hm⟩
        · unfold FX5_need
          rw [c_formAt hc h3 hf]
          simp only [Option.bind_some, kopt_some, kfm_t hf, kgd_t]
          rw [c_hasValueV hF w1 hp hy]
          rfl
        · unfold FX6_need
          rw [m_isValueV hm.1.1 h3 hm.2.2.2.1 hMF w1 hf hp hy]; rfl
    · refine ⟨-1, S, S, ?_, ?_, inv_same rfl hw hc hm⟩
      · unfold FX5_need
        rw [c_formAt hc h3 hf]
        simp only [Option.bind_some, kopt_some, kfm_t hf, kgd_t]
        rw [c_hasValueP hF w1 hy]
        rfl
      · unfold FX6_need
        rw [m_isValueP hm.1.1 h3 hm.2.2.2.1 w1 hf hy]; rfl
  · refine ⟨-1, S, S, ?_, ?_, inv_same rfl hw hc hm⟩
    · unfold FX5_need
      rw [c_formAtN hc hx]
      rfl
    · unfold FX6_need
      rw [m_isValueF hm.1.1 h3 hx]
      rfl
