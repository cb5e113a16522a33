/-! the whole state, and the invariant -/
def RT (u : kO) (α : kα) : Prop := u.1 1 = nI (α 0 0 0) ∧ (u.1 4 = nI (α 0 1 0) ∧ ∀ i, i < α 0 1 0 → u.2 3 i = nI (α 24 i 0)) ∧ (u.1 6 = nI (α 0 2 0) ∧ ∀ i, i < α 0 2 0 → u.2 5 i = nI (α 25 i 0)) ∧ u.1 10 = nI (min 3 (α 0 6 0)) ∧ u.1 11 = nO (α 0 11 0) ∧ u.1 12 = nO (α 0 12 0) ∧ (0 < α 0 12 0 → u.1 13 = nI (α 0 13 0))
def RR (u : kO) (α : kα) : Prop := (u.1 0 = nI (α 0 3 0) ∧ u.1 1 = nI (α 0 4 0)) ∧ ((∀ r, r < α 0 3 0 → u.2 2 r = nI (α 16 r 0)) ∧ (∀ r, r < α 0 3 0 → u.2 3 r = nI (α 17 r 0)) ∧ (∀ r, r < α 0 3 0 → u.2 4 r = nI (α 18 r 0)) ∧ (∀ r, r < α 0 3 0 → u.2 5 r = nI (α 19 r 0))) ∧ ((∀ r i, r < α 0 3 0 → i < α 19 r 0 → u.2 6 (4 * r + i) = nI (α 20 r i)) ∧ (∀ r i, r < α 0 3 0 → i < α 19 r 0 → u.2 7 (4 * r + i) = nI (α 21 r i))) ∧ ((∀ i, i < α 0 4 0 → u.2 6 (4 * α 0 3 0 + i) = nI (α 22 i 0)) ∧ (∀ i, i < α 0 4 0 → u.2 7 (4 * α 0 3 0 + i) = nI (α 23 i 0)))
def RLs (u : kO) (α : kα) : Prop := u.2 2 0 = nI (α 0 7 0) ∧ u.2 5 0 = nI (α 0 8 0) ∧ u.2 4 0 = nI (α 0 9 0) ∧ u.2 3 0 = nI (α 0 10 0)
def RH (u : kO) (α : kα) : Prop := ∃ nx, nx < 10 ∧ u.1 2 = nI nx ∧ u.1 3 = nI (α 0 5 0) ∧ (∀ j x, j < α 0 5 0 → x < 15 → u.2 0 (15 * ((nx + 10 - α 0 5 0 + j) % 10) + x) = nI (α 26 j x) ∧ u.2 1 (15 * ((nx + 10 - α 0 5 0 + j) % 10) + x) = nO (α 27 j x)) ∧ ∀ s f p, s < 10 → α 0 0 0 ≤ f → f < 3 → p < 5 → u.2 0 (15 * s + (5 * f + p)) = 0 ∧ u.2 1 (15 * s + (5 * f + p)) = -1
def RC (S : kS) (α : kα) : Prop := RT (S 0) α ∧ RR (S 1) α ∧ RLs (S 2) α ∧ RH (S 4) α ∧ ∀ f, f < α 0 0 0 → RF (S (6 + f)) α f
def MT (m : kO) (α : kα) : Prop := m.1 1 = nI (α 0 0 0) ∧ (m.1 25 = nI (α 0 1 0) ∧ ∀ i, i < α 0 1 0 → m.2 24 i = nI (α 24 i 0)) ∧ (m.1 33 = nI (α 0 2 0) ∧ ∀ i, i < α 0 2 0 → m.2 32 i = nI (α 25 i 0)) ∧ m.1 31 = nI (α 0 6 0) ∧ m.1 43 = nO (α 0 11 0) ∧ m.1 29 = nO (α 0 12 0) ∧ (0 < α 0 12 0 → m.1 30 = nI (α 0 13 0)) ∧ m.1 39 = nI (α 0 7 0) ∧ m.1 40 = nI (α 0 8 0) ∧ m.1 41 = nI (α 0 9 0) ∧ m.1 42 = nI (α 0 10 0)
def MR (m : kO) (α : kα) : Prop := (m.1 16 = nI (α 0 3 0) ∧ m.1 23 = nI (α 0 4 0)) ∧ ((∀ r, r < α 0 3 0 → m.2 17 r = nI (α 16 r 0)) ∧ (∀ r, r < α 0 3 0 → m.2 18 r = nI (α 17 r 0)) ∧ (∀ r, r < α 0 3 0 → m.2 19 r = nI (α 18 r 0)) ∧ (∀ r, r < α 0 3 0 → m.2 20 r = nI (α 19 r 0))) ∧ ((∀ r i, r < α 0 3 0 → i < α 19 r 0 → m.2 21 (4 * r + i) = nI (α 20 r i)) ∧ (∀ r i, r < α 0 3 0 → i < α 19 r 0 → m.2 22 (4 * r + i) = nI (α 21 r i))) ∧ ((∀ i, i < α 0 4 0 → m.2 21 (80 + i) = nI (α 22 i 0)) ∧ (∀ i, i < α 0 4 0 → m.2 22 (80 + i) = nI (α 23 i 0)))
def MH (m : kO) (α : kα) : Prop := m.1 26 = nI (α 0 5 0) ∧ (∀ j x, j < α 0 5 0 → x < 15 → m.2 27 (15 * j + x) = nI (α 26 j x)) ∧ (∀ j x, j < α 0 5 0 → x < 15 → m.2 28 (15 * j + x) = if α 27 j x = 0 then 0 else 1)
def RM (m : kO) (α : kα) : Prop := MT m α ∧ MR m α ∧ MH m α ∧ MS m α ∧ ∀ f, f < α 0 0 0 → MF m α f
def wfN (α : kα) : Prop := α 0 0 0 ≤ 3 ∧ (∀ f, f < α 0 0 0 → wfF α f) ∧ ∀ f, α 0 0 0 ≤ f → f < 3 → α 1 f 0 = 0 ∧ α 8 f 0 = 0 ∧ ∀ p, p < 5 → α 6 f p = 0 ∧ α 7 f p = 0
def wfI (α : kα) : Prop := α 0 3 0 ≤ 20 ∧ ∀ r, r < α 0 3 0 → α 16 r 0 < α 0 0 0 ∧ 1 ≤ α 17 r 0 ∧ α 17 r 0 ≤ 9 ∧ α 18 r 0 ≤ 2 ∧ 1 ≤ α 19 r 0 ∧ α 19 r 0 ≤ 4 ∧ ∀ i, i < α 19 r 0 → α 20 r i ≤ 2 ∧ α 21 r i < 64 ∧ (α 20 r i = 1 → α 21 r i < α 1 (α 16 r 0) 0 ∧ α 2 (α 16 r 0) (α 21 r i) ≠ 1 ∧ α 18 r 0 = 0)
def wfQ (α : kα) : Prop := α 0 4 0 ≤ 4 ∧ ∀ i, i < α 0 4 0 → α 22 i 0 ≤ 2 ∧ α 23 i 0 < 64 ∧ (α 22 i 0 = 1 → α 23 i 0 < 5)
def wfT (α : kα) : Prop := α 0 1 0 ≤ 3 ∧ (∀ i, i < α 0 1 0 → α 24 i 0 < α 0 0 0) ∧ ∀ i j, i < α 0 1 0 → j < α 0 1 0 → α 24 i 0 = α 24 j 0 → i = j
def wfL (α : kα) : Prop := α 0 2 0 ≤ 8 ∧ ∀ i, i < α 0 2 0 → α 25 i 0 < 64
def wfH (α : kα) : Prop := α 0 5 0 ≤ 10 ∧ ∀ j f p, j < α 0 5 0 → f < 3 → p < 5 → cok α f p (α 26 j (5 * f + p)) (α 27 j (5 * f + p))
/-- the form that is spoken of -/
def top (α : kα) : Nat := α 24 (α 0 1 0 - 1) 0
def wfA (α : kα) : Prop := 0 < α 0 12 0 → 0 < α 0 1 0 ∧ α 0 12 0 - 1 < α 1 (top α) 0 ∧ α 2 (top α) (α 0 12 0 - 1) ≠ 1 ∧ α 7 (top α) (α 0 12 0 - 1) = 0 ∧ α 0 13 0 < α 3 (top α) (α 0 12 0 - 1)
def WF (α : kα) (k : Nat) : Prop := wfN α ∧ wfI α ∧ wfQ α ∧ wfT α ∧ wfL α ∧ wfH α ∧ wfA α ∧ α 0 6 0 ≤ k ∧ α 0 8 0 ≤ 1
def Inv (n : Nat) (S : kS) (k : Nat) : Prop := ∃ α : kα, α 0 0 0 = n ∧ WF α k ∧ RC S α ∧ RM (S 5) α
theorem WF.mono {α : kα} {k : Nat} (h : WF α k) : WF α (k + 1) := ⟨h.1, h.2.1, h.2.2.1, h.2.2.2.1, h.2.2.2.2.1, h.2.2.2.2.2.1, h.2.2.2.2.2.2.1, by have := h.2.2.2.2.2.2.2.1; omega, h.2.2.2.2.2.2.2.2⟩
theorem st_none : kst_none Inv := fun n S k hk hI => by
  obtain ⟨α, h0, hw, hc, hm⟩ := hI
  exact ⟨by rw [← h0]; exact hw.1.1, α, h0, hw.mono, hc, hm⟩
theorem RC.same {S S' : kS} {α : kα} (h : RC S α) (he : ∀ o, o ≠ 5 → S' o = S o) : RC S' α := by
  refine ⟨?_, ?_, ?_, ?_, fun f hf => ?_⟩
  · rw [he 0 (by decide)]; exact h.1
  · rw [he 1 (by decide)]; exact h.2.1
  · rw [he 2 (by decide)]; exact h.2.2.1
  · rw [he 4 (by decide)]; exact h.2.2.2.1
  · rw [he (6 + f) (by omega)]; exact h.2.2.2.2 f hf
/-- both sides leave all as it was -/
theorem inv_same {α : kα} {S : kS} {n k : Nat} (h0 : α 0 0 0 = n) (hw : WF α k) (hc : RC S α) (hm : RM (S 5) α) : Inv n S (k + 1) := ⟨α, h0, hw.mono, hc, hm⟩
theorem c_formAt {α : kα} {S : kS} (hc : RC S α) (h3 : α 0 0 0 ≤ 3) {i : Nat} (hi : i < α 0 0 0) : FX5_formAt (α 0 0 0) S (nI i) = some (some (6 + i)) := by
  unfold FX5_formAt FX5_formAt_J26 FX5_formAt_J27
  simp (disch := omega) only [kb, kI_eq, hc.1.1, nI_neg, li_3, nI_l', kin_t, kgd_t, kfo_t, if_false]
  rw [if_neg (by omega), if_neg (by omega)]
theorem c_formAtN {α : kα} {S : kS} (hc : RC S α) {x : Int32} (hx : x < 0 ∨ nI (α 0 0 0) ≤ x) : FX5_formAt (α 0 0 0) S x = some none := by
  unfold FX5_formAt FX5_formAt_J26 FX5_formAt_J27
  by_cases h : x < 0
  · rw [if_pos h]
  · rw [if_neg h]
    simp only [kb, kI_eq, hc.1.1]
    rw [if_pos (hx.resolve_left h)]
theorem c_isWord (S : kS) {w : Nat} (h : w < 64) : FX5_isWord S (nI w) = some 1 := by
  unfold FX5_isWord FX5_isWord_J14 FX5_isWord_J15
  simp (disch := omega) only [nI_neg, li_64, nI_l', if_false]
  rw [if_neg (by omega)]
  rfl
theorem c_isWordN (S : kS) {x : Int32} (h : x < 0 ∨ nI 64 ≤ x) : FX5_isWord S x = some 0 := by
  unfold FX5_isWord FX5_isWord_J14 FX5_isWord_J15
  by_cases h1 : x < 0
  · rw [if_pos h1]; rfl
  · rw [if_neg h1, if_pos (show (64 : Int32) ≤ x from by rw [li_64]; exact h.resolve_left h1)]; rfl
theorem e63 : (63 : Int32) = nO 64 := by decide +kernel
theorem m_word (S : kS) {w : Nat} (h : w < 64) : FX6_in S (nI w) 0 63 = some 1 := by rw [e63]; exact m_inT S h (by omega)
theorem m_wordN (S : kS) {x : Int32} (h : x < 0 ∨ nI 64 ≤ x) : FX6_in S x 0 63 = some 0 := by rw [e63]; exact m_inF S h (by omega)
/-- a form is in the talk -/
def tgo (α : kα) (f : Nat) : Nat → Nat → Bool
  | 0, _ => false
  | k + 1, i => if α 24 i 0 = f then true else tgo α f k (i + 1)
def inT (α : kα) (f : Nat) : Bool := tgo α f (α 0 1 0) 0
theorem c_tgo {α : kα} {S : kS} (hc : RT (S 0) α) (hw : wfT α) (h3 : α 0 0 0 ≤ 3) {f : Nat} (hf : f < 3) : ∀ (k m i : Nat), i + k = α 0 1 0 → k < m → kfix (fun rec (q : Int32 × Int32) => FX5_isInTalk_B2 rec S q.1 q.2) m (nI f, nI i) = some (b2 (tgo α f k i)) := by
  have hp3 := hw.1
  intro k
  induction k with
  | zero =>
    intro m i hk hm
    obtain ⟨m, rfl⟩ : ∃ m', m = m' + 1 := ⟨m - 1, by omega⟩
    rw [kfix_s]
    generalize kfix (fun rec (q : Int32 × Int32) => FX5_isInTalk_B2 rec S q.1 q.2) m = Rk
    simp (disch := omega) only [FX5_isInTalk_B2, kb, kI_eq, hc.2.1.1, nI_l']
    rw [if_pos (by omega)]
    rfl
  | succ k ih =>
    intro m i hk hm
    obtain ⟨m, rfl⟩ : ∃ m', m = m' + 1 := ⟨m - 1, by omega⟩
    rw [kfix_s]
    have ihm := ih m (i + 1) (by omega) (by omega)
    clear ih
    generalize kfix (fun rec (q : Int32 × Int32) => FX5_isInTalk_B2 rec S q.1 q.2) m = Rk at ihm ⊢
    have hlt : i < α 0 1 0 := by omega
    have := hw.2.1 i hlt
    simp (disch := omega) only [FX5_isInTalk_B2, kb, kI_eq, hc.2.1.1, nI_l', kin_t, kgd_t, kA_nI, hc.2.1.2 i hlt, nI_e, li_1, nI_add]
    rw [if_neg (by omega)]
    unfold tgo
    by_cases h : α 24 i 0 = f
    · rw [if_pos h, if_pos h, ← li_1]; rfl
    · rw [if_neg h, if_neg h]; exact ihm
theorem c_isInTalk {α : kα} {S : kS} (hc : RT (S 0) α) (hw : wfT α) (h3 : α 0 0 0 ≤ 3) {f : Nat} (hf : f < 3) : FX5_isInTalk S (nI f) = some (b2 (inT α f)) := by
  have hp3 := hw.1
  unfold FX5_isInTalk FX5_isInTalk_L2 inT
  have := c_tgo hc hw h3 hf (α 0 1 0) kfuel 0 (by omega) (by unfold kfuel; omega)
  rw [nI_0] at this
  exact this
theorem m_tgo {α : kα} {S : kS} (hc : MT (S 5) α) (hw : wfT α) (h3 : α 0 0 0 ≤ 3) {f : Nat} (hf : f < 3) : ∀ (k m i : Nat) (b : Bool), i + k = α 0 1 0 → k < m → kfix (fun rec (q : Int32 × Int32 × Int32) => FX6_isOpen_B4 rec S q.1 q.2.1 q.2.2) m (nI f, b2 b, nI i) = some (b2 (b || tgo α f k i)) := by
  have hp3 := hw.1
  intro k
  induction k with
  | zero =>
    intro m i b hk hm
    obtain ⟨m, rfl⟩ : ∃ m', m = m' + 1 := ⟨m - 1, by omega⟩
    rw [kfix_s]
    generalize kfix (fun rec (q : Int32 × Int32 × Int32) => FX6_isOpen_B4 rec S q.1 q.2.1 q.2.2) m = Rk
    simp (disch := omega) only [FX6_isOpen_B4, kb, kI_eq, hc.2.1.1, nI_l']
    rw [if_pos (by omega)]
    cases b <;> rfl
  | succ k ih =>
    intro m i b hk hm
    obtain ⟨m, rfl⟩ : ∃ m', m = m' + 1 := ⟨m - 1, by omega⟩
    rw [kfix_s]
    have ihm := fun b => ih m (i + 1) b (by omega) (by omega)
    clear ih
    generalize kfix (fun rec (q : Int32 × Int32 × Int32) => FX6_isOpen_B4 rec S q.1 q.2.1 q.2.2) m = Rk at ihm ⊢
    have hlt : i < α 0 1 0 := by omega
    have := hw.2.1 i hlt
    simp (disch := omega) only [FX6_isOpen_B4, FX6_isOpen_J26, FX6_isOpen_J31, kb, kI_eq, hc.2.1.1, nI_l', kin_t, kgd_t, kA_nI, hc.2.1.2 i hlt, nI_e, li_1, nI_add]
    rw [if_neg (by omega)]
    unfold tgo
    cases b with
    | true =>
      rw [if_neg (by decide)]
      have := ihm true
      rw [b2_1, li_1] at this
      rw [this]
      simp
    | false =>
      rw [if_pos (by decide)]
      by_cases h : α 24 i 0 = f
      · rw [if_pos h, if_pos h]
        have := ihm true
        rw [b2_1, li_1] at this
        rw [this]
        simp
      · rw [if_neg h, if_neg h]
        exact ihm false
theorem m_isOpen {α : kα} {S : kS} (hc : MT (S 5) α) (hw : wfT α) (h3 : α 0 0 0 ≤ 3) {f : Nat} (hf : f < 3) : FX6_isOpen S (nI f) = some (b2 (inT α f)) := by
  have hp3 := hw.1
  unfold FX6_isOpen FX6_isOpen_L4 inT
  have := m_tgo hc hw h3 hf (α 0 1 0) kfuel 0 false (by omega) (by unfold kfuel; omega)
  rw [nI_0] at this
  exact this
theorem c_isSize (S : kS) (x : Int32) : FX5_isSize S x = FX6_in S x 2 4 := by
  rw [m_in]
  unfold FX5_isSize FX5_isSize_J14 FX5_isSize_J15
  by_cases h1 : x < 2
  · rw [if_pos h1, if_pos h1]; rfl
  · rw [if_neg h1, if_neg h1]
    by_cases h2 : (4 : Int32) < x
    · rw [if_pos h2, if_pos h2]; rfl
    · rw [if_neg h2, if_neg h2]; rfl
theorem size_cases (S : kS) (x : Int32) : (∃ z, 2 ≤ z ∧ z ≤ 4 ∧ x = nI z ∧ FX6_in S x 2 4 = some 1) ∨ FX6_in S x 2 4 = some 0 := by
  rw [m_in]
  by_cases h1 : x < 2
  · rw [if_pos h1]; exact Or.inr rfl
  · rw [if_neg h1]
    by_cases h2 : (4 : Int32) < x
    · rw [if_pos h2]; exact Or.inr rfl
    · rw [if_neg h2]
      have h0 : ¬ x < 0 := fun h => h1 (by
        rw [Int32.lt_iff_toInt_lt] at h ⊢
        have e0 : (0 : Int32).toInt = 0 := by decide +kernel
        have e2 : (2 : Int32).toInt = 2 := by decide +kernel
        omega)
      obtain ⟨j, hj, rfl⟩ := nI_of h0
      rw [li_2, nI_t' hj (by omega)] at h1
      rw [li_4, nI_t' (by omega) hj] at h2
      exact Or.inl ⟨j, by omega, by omega, rfl, rfl⟩
