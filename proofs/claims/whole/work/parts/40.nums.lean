/-! the pure part: numbers -/
theorem nI_mul (a b : Nat) : nI a * nI b = nI (a * b) := (Int32.ofNat_mul a b).symm
def nO (m : Nat) : Int32 := nI m - 1
theorem nO_0 : nO 0 = -1 := by decide +kernel
theorem nO_s (v : Nat) : nO (v + 1) = nI v := nI_pred v
theorem nI_m1 {a : Nat} (h : a < 2147483648) : (nI a = -1) = False := by
  apply propext
  refine ⟨fun e => ?_, False.elim⟩
  have h1 := congrArg Int32.toInt e
  rw [nI_toInt h] at h1
  have h2 : (-1 : Int32).toInt = -1 := by decide +kernel
  omega
theorem m1_nI {a : Nat} (h : a < 2147483648) : (-1 = nI a) = False := by
  apply propext
  exact ⟨fun e => by rw [← nI_m1 h]; exact e.symm, False.elim⟩
theorem nI_e {a b : Nat} (ha : a < 2147483648) (hb : b < 2147483648) : (nI a = nI b) = (a = b) := propext (nI_eq ha hb)
theorem nI_l' {a b : Nat} (ha : a < 2147483648) (hb : b < 2147483648) : (nI a ≤ nI b) = (a ≤ b) := propext (nI_leI ha hb)
theorem nI_t' {a b : Nat} (ha : a < 2147483648) (hb : b < 2147483648) : (nI a < nI b) = (a < b) := propext (nI_ltI ha hb)
theorem nI_m1l {a : Nat} (ha : a < 2147483648) : (nI a ≤ -1) = False := by
  apply propext
  refine ⟨fun h => ?_, False.elim⟩
  rw [Int32.le_iff_toInt_le, nI_toInt ha] at h
  have h2 : (-1 : Int32).toInt = -1 := by decide +kernel
  omega
theorem m1_l {a : Nat} (ha : a < 2147483648) : (-1 ≤ nI a) = True := by
  apply propext
  refine ⟨fun _ => trivial, fun _ => ?_⟩
  rw [Int32.le_iff_toInt_le, nI_toInt ha]
  have h2 : (-1 : Int32).toInt = -1 := by decide +kernel
  omega
theorem m1_t {a : Nat} (ha : a < 2147483648) : (-1 < nI a) = True := by
  apply propext
  refine ⟨fun _ => trivial, fun _ => ?_⟩
  rw [Int32.lt_iff_toInt_lt, nI_toInt ha]
  have h2 : (-1 : Int32).toInt = -1 := by decide +kernel
  omega
theorem nI_m1t {a : Nat} (ha : a < 2147483648) : (nI a < -1) = False := by
  apply propext
  refine ⟨fun h => ?_, False.elim⟩
  rw [Int32.lt_iff_toInt_lt, nI_toInt ha] at h
  have h2 : (-1 : Int32).toInt = -1 := by decide +kernel
  omega
theorem nI_sub {a b : Nat} (h : b ≤ a) : nI a - nI b = nI (a - b) := by
  obtain ⟨c, rfl⟩ : ∃ c, a = c + b := ⟨a - b, by omega⟩
  rw [← nI_add, Nat.add_sub_cancel]
  exact Int32.add_sub_cancel _ _
theorem nI_z {a : Nat} (h : a < 2147483648) : (nI a = 0) = (a = 0) := by
  rw [← nI_0]
  exact nI_e h (by omega)
theorem kA_nI {S : kS} {o k i : Nat} (h : i < 2147483648) : kA S o k (nI i) = (S o).2 k i := by unfold kA; rw [nI_clamp h]
theorem kpA_nI {S : kS} {o k i : Nat} {x : Int32} (h : i < 2147483648) : kpA S o k (nI i) x = kpR S o k (upd ((S o).2 k) i x) := by unfold kpA; rw [nI_clamp h]
theorem kin_t {i n : Nat} (h : i < n) (hn : n < 2147483648) : kin (nI i) n = true := kin_nI h hn
theorem kgd_t {β : Type} (k : Option β) : kgd true k = k := rfl
theorem kz_0 : kz 0 = true := by decide +kernel
theorem kz_1 : kz 1 = true := by decide +kernel
theorem kb2_some {α β γ : Type} (x : α) (y : β) (k : α → β → Option γ) : kb2 (some (x, y)) k = k x y := rfl
theorem kopt_none {β : Type} (a : β) (b : Nat → β) : kopt none a b = a := rfl
theorem kopt_some {β : Type} (o : Nat) (a : β) (b : Nat → β) : kopt (some o) a b = b o := rfl
theorem kfm_t {n i : Nat} (h : i < n) : kfm n (6 + i) = true := by
  simp only [kfm, Bool.and_eq_true]
  exact ⟨Nat.ble_eq_true_of_le (by omega), Nat.ble_eq_true_of_le (by omega)⟩
theorem kfo_t {n i : Nat} (h : i < n) (h31 : i < 2147483648) : kfo n (nI i) = some (6 + i) := by
  unfold kfo
  rw [nI_clamp h31, if_pos h]
theorem kfix_s {α β : Type} (B : (α → Option β) → α → Option β) (m : Nat) (x : α) : kfix B (m + 1) x = B (kfix B m) x := rfl
/-- a number is one of the first n, or not -/
theorem kcase (n : Nat) (hn : n < 2147483648) (f : Int32) : (∃ i, i < n ∧ f = nI i) ∨ (f < 0 ∨ nI n ≤ f) := by
  by_cases h : f < 0
  · exact Or.inr (Or.inl h)
  · obtain ⟨j, hj, rfl⟩ := nI_of h
    by_cases h2 : j < n
    · exact Or.inl ⟨j, h2, rfl⟩
    · exact Or.inr (Or.inr (nI_le (by omega) hj))
/-- reads behind writes -/
theorem kI_pI (S : kS) (o k : Nat) (x : Int32) (o' k' : Nat) : kI (kpI S o k x) o' k' = if o' = o ∧ k' = k then x else kI S o' k' := by
  unfold kI kpI va_up
  by_cases h : o' = o
  · subst h
    by_cases h2 : k' = k <;> simp [h2]
  · simp [h]
theorem kI_pR (S : kS) (o k : Nat) (g : Nat → Int32) (o' k' : Nat) : kI (kpR S o k g) o' k' = kI S o' k' := by
  unfold kI kpR va_up
  by_cases h : o' = o
  · subst h; simp
  · simp [h]
theorem pI_1 (S : kS) (o k : Nat) (x : Int32) (o' k' : Nat) : (kpI S o k x o').1 k' = if o' = o ∧ k' = k then x else (S o').1 k' := kI_pI S o k x o' k'
theorem pR_1 (S : kS) (o k : Nat) (g : Nat → Int32) (o' k' : Nat) : (kpR S o k g o').1 k' = (S o').1 k' := kI_pR S o k g o' k'
theorem pI_2 (S : kS) (o k : Nat) (x : Int32) (o' : Nat) : (kpI S o k x o').2 = (S o').2 := by
  unfold kpI va_up
  by_cases h : o' = o
  · subst h; simp
  · simp [h]
theorem pR_2 (S : kS) (o k : Nat) (g : Nat → Int32) (o' k' : Nat) : (kpR S o k g o').2 k' = if o' = o ∧ k' = k then g else (S o').2 k' := by
  unfold kpR va_up
  by_cases h : o' = o
  · subst h
    by_cases h2 : k' = k <;> simp [h2]
  · simp [h]
theorem pI_ne {S : kS} {o k : Nat} {x : Int32} {o' : Nat} (h : o' ≠ o) : kpI S o k x o' = S o' := va_up_ne _ _ h
theorem pR_ne {S : kS} {o k : Nat} {g : Nat → Int32} {o' : Nat} (h : o' ≠ o) : kpR S o k g o' = S o' := va_up_ne _ _ h
theorem upd_eq (f : Nat → Int32) (k : Nat) (x : Int32) (j : Nat) : upd f k x j = if j = k then x else f j := rfl
theorem kI_eq (S : kS) (o k : Nat) : kI S o k = (S o).1 k := rfl
theorem li_0 : (0 : Int32) = nI 0 := by decide +kernel
theorem li_1 : (1 : Int32) = nI 1 := by decide +kernel
theorem li_2 : (2 : Int32) = nI 2 := by decide +kernel
theorem li_3 : (3 : Int32) = nI 3 := by decide +kernel
theorem li_4 : (4 : Int32) = nI 4 := by decide +kernel
theorem li_5 : (5 : Int32) = nI 5 := by decide +kernel
theorem li_6 : (6 : Int32) = nI 6 := by decide +kernel
theorem li_8 : (8 : Int32) = nI 8 := by decide +kernel
theorem li_9 : (9 : Int32) = nI 9 := by decide +kernel
theorem li_10 : (10 : Int32) = nI 10 := by decide +kernel
theorem li_15 : (15 : Int32) = nI 15 := by decide +kernel
theorem li_16 : (16 : Int32) = nI 16 := by decide +kernel
theorem li_20 : (20 : Int32) = nI 20 := by decide +kernel
theorem li_31 : (31 : Int32) = nI 31 := by decide +kernel
theorem li_63 : (63 : Int32) = nI 63 := by decide +kernel
theorem li_64 : (64 : Int32) = nI 64 := by decide +kernel
theorem li_80 : (80 : Int32) = nI 80 := by decide +kernel
theorem li_100 : (100 : Int32) = nI 100 := by decide +kernel
theorem li_150 : (150 : Int32) = nI 150 := by decide +kernel
theorem li_200 : (200 : Int32) = nI 200 := by decide +kernel
theorem li_3125 : (3125 : Int32) = nI 3125 := by decide +kernel
theorem li_10000 : (10000 : Int32) = nI 10000 := by decide +kernel
theorem li_1000000 : (1000000 : Int32) = nI 1000000 := by decide +kernel
