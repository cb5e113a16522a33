/-! the reference's planning -/
theorem nO_ad (a d : Nat) : nI a + nO d + 1 = nI (a + d) := by
  have e : nO d = nI d - 1 := rfl
  rw [e, Int32.add_assoc, Int32.sub_add_cancel, nI_add]
theorem nO_dn (k : Nat) : nI k + (-1) = nO k := by
  have e : nO k = nI k - 1 := rfl
  rw [e, Int32.sub_eq_add_neg]
def eg (α : kα) (f : Nat) : Nat → Nat → Nat
  | 0, acc => acc
  | k + 1, acc => eg α f k (5 * acc + α 7 f k)
theorem eg_s (α : kα) (f k acc : Nat) : eg α f (k + 1) acc = eg α f k (5 * acc + α 7 f k) := rfl
theorem eg_5 (α : kα) (f : Nat) : eg α f 5 0 = encM α f := by
  simp only [eg, encM]
  omega
section STATE
variable {S : kS} {α : kα} {f : Nat}
theorem m_sloop (hS : MS (S 5) α) (hM : MF (S 5) α f) (hw : wfP α f) (hs : wfS α f) (hf : f < 3) : ∀ (k m acc : Nat), k ≤ 5 → k < m → kfix (fun rec (q : Int32 × Int32 × Int32) => FX6_state_B4 rec S q.1 q.2.1 q.2.2) m (nI f, nI acc, nO k) = some (nI (eg α f k acc)) := by
  have h5 := hw.1
  intro k
  induction k with
  | zero =>
    intro m acc hk hm
    obtain ⟨m, rfl⟩ : ∃ m', m = m' + 1 := ⟨m - 1, by omega⟩
    rw [kfix_s]
    generalize kfix (fun rec (q : Int32 × Int32 × Int32) => FX6_state_B4 rec S q.1 q.2.1 q.2.2) m = Rk
    show FX6_state_B4 Rk S (nI f) (nI acc) (nO 0) = _
    unfold FX6_state_B4
    rw [if_pos (by decide)]
    rfl
  | succ k ih =>
    intro m acc hk hm
    obtain ⟨m, rfl⟩ : ∃ m', m = m' + 1 := ⟨m - 1, by omega⟩
    rw [kfix_s]
    have ihm := ih m (5 * acc + α 7 f k) (by omega) (by omega)
    clear ih
    generalize kfix (fun rec (q : Int32 × Int32 × Int32) => FX6_state_B4 rec S q.1 q.2.1 q.2.2) m = Rk at ihm ⊢
    show FX6_state_B4 Rk S (nI f) (nI acc) (nO (k + 1)) = _
    rw [nO_s, eg_s]
    unfold FX6_state_B4 FX6_state_J44 FX6_state_J45
    have c0 := hs k (by omega)
    have e5 : (5 : Int32) * nI acc = nI (5 * acc) := by rw [li_5, nI_mul]
    have n0 : (5 : Int32) * nI acc + (-1) + 1 = nI (5 * acc) := by rw [e5, ← nO_0, nO_ad]; rfl
    have nd : ∀ d, (5 : Int32) * nI acc + nO d + 1 = nI (5 * acc + d) := fun d => by rw [e5, nO_ad]
    rw [if_neg (nI_pos (by omega)), kin_t (show f < 3 from hf) (by omega)]
    simp (disch := omega) only [kgd_t, kb, kA_nI, hS.1 f hf, nI_l', n0, nO_dn]
    by_cases h1 : α 1 f 0 ≤ k
    · rw [if_pos h1, ← ihm, (c0.2 (by omega)).2]
      rfl
    · rw [if_neg h1]
      have hk1 : k < α 1 f 0 := by omega
      have hkd := (hw.2 k hk1).1
      have fe : (nI (α 2 f k) = 1) = (α 2 f k = 1) := by rw [li_1, nI_e (by omega) (by omega)]
      have e1 : (5 : Int32) * nI f + nI k = nI (5 * f + k) := by rw [li_5, nI_mul, nI_add]
      simp (disch := omega) only [e1, kin_t, kgd_t, kA_nI, hM.1.1 k hk1, fe]
      by_cases h2 : α 2 f k = 1
      · rw [if_pos h2, ← ihm, (c0.2 (by omega)).2]
        rfl
      · rw [if_neg h2, m_valueOf hS hM hw hs hf hk1, Option.bind_some]
        have esv : sv α f k = α 7 f k := by unfold sv; rw [if_neg h2]
        rw [esv, nd]
        exact ihm
theorem m_state (hS : MS (S 5) α) (hM : MF (S 5) α f) (hw : wfP α f) (hs : wfS α f) (hf : f < 3) : FX6_state S (nI f) = some (nI (encM α f)) := by
  have := m_sloop hS hM hw hs hf 5 kfuel 0 (by omega) (by unfold kfuel; omega)
  rw [eg_5, nI_0, eO5] at this
  unfold FX6_state FX6_state_L4
  exact this
end STATE
def nV (r : Nat) : Int32 := if r = 0 then -1 else nI r
theorem nV_1 {r : Nat} (h : r ≤ 101) : (nV r = -1) = (r = 0) := by
  unfold nV
  by_cases e : r = 0
  · rw [if_pos e]; simp [e]
  · rw [if_neg e, m1_eq, nI_eO (by omega) (by omega)]; simp [e]
theorem nV_le {r x : Nat} (h : r ≤ 101) (hx : x ≤ 100) : (nI (1 + x) ≤ nV r) = (1 + x ≤ r) := by
  unfold nV
  by_cases e : r = 0
  · rw [if_pos e, e]
    have : ¬ nI (1 + x) ≤ -1 := by
      rw [Int32.le_iff_toInt_le]
      have e1 : (-1 : Int32).toInt = -1 := by decide +kernel
      have e2 := nI_pos (n := 1 + x) (by omega)
      rw [Int32.lt_iff_toInt_lt] at e2
      have e0 : (0 : Int32).toInt = 0 := by decide +kernel
      omega
    simp [this]
  · rw [if_neg e, nI_l' (by omega) (by omega)]
