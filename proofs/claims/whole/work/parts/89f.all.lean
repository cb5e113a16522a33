/-! whether all least readings are one row -/
def cnt (α : kα) (f t : Nat) : Nat → Nat
  | 0 => 0
  | r + 1 => if lst α f (TT α f) 0 (TT α f 0 0) r = true ∧ α 19 r 0 = α 0 2 0 ∧ α 18 r 0 = t then cnt α f t r + 1 else cnt α f t r
theorem cnt_0 (α : kα) (f t : Nat) : cnt α f t 0 = 0 := rfl
theorem cnt_s (α : kα) (f t r : Nat) : cnt α f t (r + 1) = if lst α f (TT α f) 0 (TT α f 0 0) r = true ∧ α 19 r 0 = α 0 2 0 ∧ α 18 r 0 = t then cnt α f t r + 1 else cnt α f t r := rfl
theorem cnt_le (α : kα) (f t r : Nat) : cnt α f t r ≤ r := by
  induction r with
  | zero => rw [cnt_0]; omega
  | succ r ih => rw [cnt_s]; split <;> omega
def Oth (α : kα) (f t r : Nat) : Prop := 6 + TT α f 0 1 = TT α f 0 0 ∨ ∃ j, j < r ∧ lst α f (TT α f) 0 (TT α f 0 0) j = true ∧ ¬ (α 19 j 0 = α 0 2 0 ∧ α 18 j 0 = t)
theorem Oth_s {α : kα} {f t r : Nat} : Oth α f t (r + 1) ↔ Oth α f t r ∨ (lst α f (TT α f) 0 (TT α f 0 0) r = true ∧ ¬ (α 19 r 0 = α 0 2 0 ∧ α 18 r 0 = t)) := by
  constructor
  · intro h
    rcases h with h | ⟨j, h1, h2, h3⟩
    · exact Or.inl (Or.inl h)
    · by_cases e : j = r
      · subst e; exact Or.inr ⟨h2, h3⟩
      · exact Or.inl (Or.inr ⟨j, by omega, h2, h3⟩)
  · intro h
    rcases h with h | h
    · rcases h with h | ⟨j, h1, h2, h3⟩
      · exact Or.inl h
      · exact Or.inr ⟨j, by omega, h2, h3⟩
    · exact Or.inr ⟨r, by omega, h.1, h.2⟩
section AL
variable {α : kα} {f t : Nat}
theorem fd_ls (c r : Nat) : fd α f (TT α f) 0 (TT α f 0 0) c (r + 1) = if lst α f (TT α f) 0 (TT α f 0 0) r = true then cb α f (TT α f) 0 r c (fd α f (TT α f) 0 (TT α f 0 0) c r) else fd α f (TT α f) 0 (TT α f 0 0) c r := by
  rw [fd_s]
  unfold lst
  by_cases q : fit α f r 0 = true ∧ α 17 r 0 + TT α f 0 (0 + α 19 r 0) = TT α f 0 0
  · rw [if_pos q, if_pos (decide_eq_true q)]
  · rw [if_neg q, if_neg (by rw [decide_eq_false q]; decide)]
theorem cb_1 (a r w : Nat) : cb α f (TT α f) a r 1 w = min 1000000 (w + TT α f 1 (a + α 19 r 0)) := rfl
theorem ways_no (hG : wfG α f) : ∀ r, r ≤ α 0 3 0 → ¬ Oth α f t r → fd α f (TT α f) 0 (TT α f 0 0) 1 r = cnt α f t r := by
  have h20 := hG.1.1
  intro r
  induction r with
  | zero =>
    intro _ h
    rw [fd_0, if_neg (fun q => h (Or.inl q)), cnt_0]
  | succ r ih =>
    intro hr h
    rw [Oth_s] at h
    have h1 := ih (by omega) (fun q => h (Or.inl q))
    have hc := cnt_le α f t r
    rw [fd_ls, h1, cnt_s]
    by_cases hl : lst α f (TT α f) 0 (TT α f 0 0) r = true
    · have h3 : α 19 r 0 = α 0 2 0 ∧ α 18 r 0 = t := Classical.byContradiction fun q => h (Or.inr ⟨hl, q⟩)
      rw [if_pos hl, if_pos ⟨hl, h3⟩, cb_1, Nat.zero_add, h3.1, TT_L, if_pos rfl]
      omega
    · rw [if_neg hl, if_neg (fun q => hl q.1)]
theorem ways_yes (hG : wfG α f) (h0 : α 0 2 0 ≠ 0) : ∀ r, r ≤ α 0 3 0 → Oth α f t r → min 1000000 (cnt α f t r + 1) ≤ fd α f (TT α f) 0 (TT α f 0 0) 1 r := by
  have h20 := hG.1.1
  have B := fun i h => TT_b hG.1 hG.2.1 hG.2.2.1 hG.2.2.2.1 (α 0 2 0) i h (by omega)
  intro r
  induction r with
  | zero =>
    intro _ h
    rcases h with h | ⟨j, h1, _⟩
    · rw [fd_0, if_pos h, cnt_0]
      have := (B 1 (by omega)).2.1
      show min 1000000 (0 + 1) ≤ TT α f 1 1
      omega
    · omega
  | succ r ih =>
    intro hr h
    have hc := cnt_le α f t r
    rw [fd_ls, cnt_s]
    by_cases hl : lst α f (TT α f) 0 (TT α f 0 0) r = true
    · have hb := (B (0 + α 19 r 0) (fit_d (of_decide_eq_true hl).1).2.1).2.1
      rw [if_pos hl, cb_1]
      by_cases h3 : α 19 r 0 = α 0 2 0 ∧ α 18 r 0 = t
      · rw [if_pos ⟨hl, h3⟩]
        have h1 : Oth α f t r := by
          rcases Oth_s.mp h with q | q
          · exact q
          · exact absurd h3 q.2
        have := ih (by omega) h1
        omega
      · rw [if_neg (fun q => h3 q.2)]
        by_cases h1 : Oth α f t r
        · have := ih (by omega) h1
          omega
        · rw [ways_no hG r (by omega) h1]
          omega
    · rw [if_neg hl, if_neg (fun q => hl q.1)]
      rcases Oth_s.mp h with q | q
      · exact ih (by omega) q
      · exact absurd q.1 hl
theorem cnt_ex : ∀ r, 0 < cnt α f t r ↔ ∃ j, j < r ∧ lst α f (TT α f) 0 (TT α f 0 0) j = true ∧ α 19 j 0 = α 0 2 0 ∧ α 18 j 0 = t := by
  intro r
  induction r with
  | zero =>
    rw [cnt_0]
    exact ⟨fun h => by omega, fun ⟨j, h, _⟩ => by omega⟩
  | succ r ih =>
    rw [cnt_s]
    by_cases q : lst α f (TT α f) 0 (TT α f 0 0) r = true ∧ α 19 r 0 = α 0 2 0 ∧ α 18 r 0 = t
    · rw [if_pos q]
      exact ⟨fun _ => ⟨r, by omega, q⟩, fun _ => by omega⟩
    · rw [if_neg q, ih]
      constructor
      · exact fun ⟨j, h1, h2⟩ => ⟨j, by omega, h2⟩
      · exact fun ⟨j, h1, h2⟩ => ⟨j, by
          by_cases e : j = r
          · subst e; exact absurd h2 q
          · omega, h2⟩
def al (α : kα) (f t : Nat) : Bool := decide (0 < cnt α f t (α 0 3 0) ∧ cnt α f t (α 0 3 0) = TT α f 1 0)
theorem al_iff (hG : wfG α f) (h0 : α 0 2 0 ≠ 0) : al α f t = true ↔ 0 < cnt α f t (α 0 3 0) ∧ ¬ Oth α f t (α 0 3 0) := by
  have h20 := hG.1.1
  have hc := cnt_le α f t (α 0 3 0)
  unfold al
  rw [decide_eq_true_eq, TT_s hG.1 (by omega) (by omega)]
  constructor
  · exact fun ⟨h1, h2⟩ => ⟨h1, fun q => by
      have := ways_yes hG h0 _ (Nat.le_refl _) q
      omega⟩
  · exact fun ⟨h1, h2⟩ => ⟨h1, (ways_no hG _ (Nat.le_refl _) h2).symm⟩
theorem cgo_iff : ∀ (k r c : Nat), cgo α f k r c = t + 1 ↔ (c = t + 1 ∨ (c = 0 ∧ ∃ j, r ≤ j ∧ j < r + k ∧ lst α f (TT α f) 0 (TT α f 0 0) j = true)) ∧ ∀ j, r ≤ j → j < r + k → lst α f (TT α f) 0 (TT α f 0 0) j = true → α 19 j 0 = α 0 2 0 ∧ α 18 j 0 = t := by
  intro k
  induction k with
  | zero =>
    intro r c
    rw [cgo_0]
    constructor
    · exact fun h => ⟨Or.inl h, fun j h1 h2 => by omega⟩
    · intro h
      rcases h.1 with q | ⟨_, j, h1, h2, _⟩
      · exact q
      · omega
  | succ k ih =>
    intro r c
    rw [cgo_s]
    by_cases hl : lst α f (TT α f) 0 (TT α f 0 0) r = true
    · rw [if_pos hl]
      by_cases hb : (c ≠ 0 ∧ c ≠ α 18 r 0 + 1) ∨ α 19 r 0 ≠ α 0 2 0
      · rw [if_pos hb]
        constructor
        · intro h; omega
        · intro h
          have := h.2 r (by omega) (by omega) hl
          rcases h.1 with q | q <;> omega
      · rw [if_neg hb, ih]
        constructor
        · intro h
          have ha : α 18 r 0 = t := by
            rcases h.1 with q | q <;> omega
          refine ⟨?_, fun j h1 h2 h3 => ?_⟩
          · by_cases c0 : c = 0
            · exact Or.inr ⟨c0, r, by omega, by omega, hl⟩
            · exact Or.inl (by omega)
          · by_cases e : j = r
            · subst e; exact ⟨by omega, ha⟩
            · exact h.2 j (by omega) (by omega) h3
        · intro h
          have := h.2 r (by omega) (by omega) hl
          exact ⟨Or.inl (by omega), fun j h1 h2 h3 => h.2 j (by omega) (by omega) h3⟩
    · rw [if_neg hl, ih]
      constructor
      · intro h
        refine ⟨?_, fun j h1 h2 h3 => ?_⟩
        · rcases h.1 with q | ⟨q, j, h1, h2, h3⟩
          · exact Or.inl q
          · exact Or.inr ⟨q, j, by omega, by omega, h3⟩
        · by_cases e : j = r
          · subst e; exact absurd h3 hl
          · exact h.2 j (by omega) (by omega) h3
      · intro h
        refine ⟨?_, fun j h1 h2 h3 => h.2 j (by omega) (by omega) h3⟩
        rcases h.1 with q | ⟨q, j, h1, h2, h3⟩
        · exact Or.inl q
        · refine Or.inr ⟨q, j, ?_, by omega, h3⟩
          by_cases e : j = r
          · subst e; exact absurd h3 hl
          · omega
theorem ans_iff (hG : wfG α f) (h0 : α 0 2 0 ≠ 0) : ans α f = t + 1 ↔ al α f t = true := by
  rw [al_iff hG h0, cnt_ex]
  unfold ans Oth
  by_cases q : TT α f 0 0 = 6 + TT α f 0 1
  · rw [if_pos q]
    exact ⟨fun h => by omega, fun h => absurd (Or.inl q.symm) h.2⟩
  · rw [if_neg q, cgo_iff]
    constructor
    · intro h
      refine ⟨?_, ?_⟩
      · rcases h.1 with h1 | ⟨_, j, _, h2, h3⟩
        · omega
        · exact ⟨j, by omega, h3, h.2 j (by omega) (by omega) h3⟩
      · intro h1
        rcases h1 with h1 | ⟨j, h1, h2, h3⟩
        · omega
        · exact h3 (h.2 j (by omega) (by omega) h2)
    · intro ⟨⟨j, h1, h2, h3⟩, h4⟩
      exact ⟨Or.inr ⟨rfl, j, by omega, by omega, h2⟩, fun i _ hi hl => Classical.byContradiction fun hn => h4 (Or.inr ⟨i, by omega, hl, hn⟩)⟩
theorem ow_16 (hI : wfI α) {r a p : Nat} (hr : r < α 0 3 0) (h : α 18 r 0 ≠ 0) : ∀ i, i ≤ α 19 r 0 → ow α f r a p i = 16 := by
  intro i
  induction i with
  | zero => intro _; rfl
  | succ i ih =>
    intro hi
    rw [ow_s, if_neg (fun q => h (((hI.2 r hr).2.2.2.2.2.2 i (by omega)).2.2 q.1).2.2)]
    exact ih (by omega)
theorem all_16 (hG : wfG α f) (h0 : α 0 2 0 ≠ 0) (ht : t ≠ 0) (h : al α f t = true) {p : Nat} (hp : p < 5) : TT α f (4 + p) 0 = 16 := by
  obtain ⟨h1, h2⟩ := (al_iff hG h0).mp h
  have go : ∀ r, r ≤ α 0 3 0 → ¬ Oth α f t r → fd α f (TT α f) 0 (TT α f 0 0) (4 + p) r = if cnt α f t r = 0 then 0 else 16 := by
    intro r
    induction r with
    | zero =>
      intro _ h
      rw [fd_0, if_neg (fun q => h (Or.inl q)), cnt_0, if_pos rfl]
    | succ r ih =>
      intro hr h
      rw [Oth_s] at h
      have h1 := ih (by omega) (fun q => h (Or.inl q))
      rw [fd_ls, h1]
      by_cases hl : lst α f (TT α f) 0 (TT α f 0 0) r = true
      · have h3 : α 19 r 0 = α 0 2 0 ∧ α 18 r 0 = t := Classical.byContradiction fun q => h (Or.inr ⟨hl, q⟩)
        have ec : cnt α f t (r + 1) = cnt α f t r + 1 := by rw [cnt_s, if_pos ⟨hl, h3⟩]
        rw [if_pos hl, ec, if_neg (show ¬ cnt α f t r + 1 = 0 by omega)]
        have t16 : TT α f (4 + p) (0 + α 19 r 0) = 16 := by rw [Nat.zero_add, h3.1, TT_L, if_neg (by omega), if_pos (by omega)]
        have o16 : ow α f r 0 p (α 19 r 0) = 16 := ow_16 hG.1 (by omega) (by omega) _ (Nat.le_refl _)
        have cx : ∀ w, cb α f (TT α f) 0 r (4 + p) w = w ||| fl 16 16 := fun w => by
          unfold cb
          rw [if_neg (by omega), if_neg (by omega), if_neg (by omega), show 4 + p - 4 = p by omega, t16, o16]
        rw [cx]
        by_cases z : cnt α f t r = 0
        · rw [if_pos z]; decide
        · rw [if_neg z]; decide
      · have ec : cnt α f t (r + 1) = cnt α f t r := by rw [cnt_s, if_neg (fun q => hl q.1)]
        rw [if_neg hl, ec]
  rw [TT_s hG.1 (by omega) (by omega), go _ (Nat.le_refl _) h2, if_neg (by omega)]
theorem m_allL {S : kS} (hD : MD (S 5) α f) (hG : wfG α f) (hN : α 0 0 0 ≤ 3) (ht : t ≤ 2) (h34 : ∀ i, i ≤ α 0 2 0 → (S 5).2 34 i = nI (TT α f 0 i)) (h35 : (S 5).2 35 0 = nI (TT α f 1 0)) : ∀ (k m r : Nat), r + k = α 0 3 0 → k < m → kfix (fun rec (q : Int32 × Int32 × Int32 × Int32) => FX6_isAll_B5 rec S q.1 q.2.1 q.2.2.1 q.2.2.2) m (nI f, nI t, nI (cnt α f t r), nI r) = some (b2 (al α f t)) := by
  have h20 := hG.1.1
  have h8 := hG.2.1.1
  have B := fun i h => TT_b hG.1 hG.2.1 hG.2.2.1 hG.2.2.2.1 (α 0 2 0) i h (by omega)
  have b0 := B 0 (by omega)
  have b00 := b0.1
  have b01 := b0.2.2.1
  intro k
  induction k with
  | zero =>
    intro m r hk hm
    obtain ⟨m, rfl⟩ : ∃ m', m = m' + 1 := ⟨m - 1, by omega⟩
    have e : r = α 0 3 0 := by omega
    have hc := cnt_le α f t r
    subst e
    rw [kfix_s]
    generalize kfix (fun rec (q : Int32 × Int32 × Int32 × Int32) => FX6_isAll_B5 rec S q.1 q.2.1 q.2.2.1 q.2.2.2) m = Rk
    show FX6_isAll_B5 Rk S (nI f) (nI t) (nI (cnt α f t (α 0 3 0))) (nI (α 0 3 0)) = _
    unfold FX6_isAll_B5
    refine (kbif S _ _ hD.1.1 h20 (by omega)).trans ?_
    rw [if_pos (Nat.le_refl _)]
    simp (disch := omega) only [FX6_isAll_J82, FX6_isAll_J83, nI_lz, kin_0, kgd_t, kb, kA_0, h35, nI_e]
    unfold al
    by_cases q1 : cnt α f t (α 0 3 0) = 0
    · rw [if_pos q1, kz_0, decide_eq_false (fun h => by omega)]
      rfl
    · rw [if_neg q1]
      by_cases q2 : cnt α f t (α 0 3 0) = TT α f 1 0
      · rw [if_pos q2, kz_1, decide_eq_true ⟨by omega, q2⟩]
        rfl
      · rw [if_neg q2, kz_0, decide_eq_false (fun h => q2 h.2)]
        rfl
  | succ k ih =>
    intro m r hk hm
    obtain ⟨m, rfl⟩ : ∃ m', m = m' + 1 := ⟨m - 1, by omega⟩
    have hr : r < α 0 3 0 := by omega
    obtain ⟨i1, i2, i3, i4, i5, i6, i7⟩ := hG.1.2 r hr
    have hc := cnt_le α f t r
    have e1 : nI r + 1 = nI (r + 1) := by rw [li_1, nI_add]
    have e0 : nI (cnt α f t r) + 0 = nI (cnt α f t r) := Int32.add_zero _
    have e2 : nI (cnt α f t r) + 1 = nI (cnt α f t r + 1) := by rw [li_1, nI_add]
    have hF := m_isLeast (τ := TT α f) hD hG hN hr (a := 0) (m := TT α f 0 0) (by omega) (fun i h1 h2 => ⟨h34 i h2, by have := (B i h2).1; omega⟩) (h34 0 (by omega)) (by omega)
    rw [nI_0] at hF
    have d5 := hD.2.1.2.2.1 r hr
    have d6 := hD.2.1.2.2.2 r hr
    rw [kfix_s]
    have ihm := ih m (r + 1) (by omega) (by omega)
    clear ih
    generalize kfix (fun rec (q : Int32 × Int32 × Int32 × Int32) => FX6_isAll_B5 rec S q.1 q.2.1 q.2.2.1 q.2.2.2) m = Rk at ihm ⊢
    show FX6_isAll_B5 Rk S (nI f) (nI t) (nI (cnt α f t r)) (nI r) = _
    unfold FX6_isAll_B5
    refine (kbif S _ _ hD.1.1 h20 (by omega)).trans ?_
    rw [if_neg (by omega), hF]
    simp (disch := omega) only [FX6_isAll_J55, FX6_isAll_J56, kb, kin_t, kgd_t, kA_nI, d5, d6, kI_eq, hD.1.2, nI_e, Option.bind_some, e0, e1, e2]
    rw [cnt_s] at ihm
    by_cases q1 : α 19 r 0 = α 0 2 0
    · rw [if_pos q1]
      cases hl : lst α f (TT α f) 0 (TT α f 0 0) r with
      | true =>
        rw [hl] at ihm
        rw [b2_1, if_neg (by decide)]
        by_cases q2 : α 18 r 0 = t
        · rw [if_pos ⟨rfl, q1, q2⟩] at ihm
          rw [if_pos q2]
          exact ihm
        · rw [if_neg (fun h => q2 h.2.2)] at ihm
          rw [if_neg q2]
          exact ihm
      | false =>
        rw [hl, if_neg (fun h => absurd h.1 (by decide))] at ihm
        rw [b2_0, if_pos rfl]
        exact ihm
    · rw [if_neg (fun h => q1 h.2.1)] at ihm
      rw [if_neg q1]
      exact ihm
theorem m_all {S : kS} (hD : MD (S 5) α f) (hG : wfG α f) (hN : α 0 0 0 ≤ 3) (ht : t ≤ 2) (h34 : ∀ i, i ≤ α 0 2 0 → (S 5).2 34 i = nI (TT α f 0 i)) (h35 : (S 5).2 35 0 = nI (TT α f 1 0)) : FX6_isAll S (nI f) (nI t) = some (b2 (al α f t)) := by
  have h20 := hG.1.1
  unfold FX6_isAll FX6_isAll_L5
  have := m_allL hD hG hN ht h34 h35 (α 0 3 0) kfuel 0 (by omega) (by unfold kfuel; omega)
  rw [cnt_0, nI_0] at this
  exact this
end AL
