/-! small arithmetic: division, bits -/
theorem nI_rem {a b : Nat} (ha : a < 2147483648) (hb : b < 2147483648) : nI a - nI a / nI b * nI b = nI (a % b) := by
  apply Int32.toInt_inj.mp
  rw [rem_toInt, nI_toInt ha, nI_toInt hb, nI_toInt (Nat.lt_of_le_of_lt (Nat.mod_le a b) ha)]
  exact (Int.ofNat_tmod a b).symm
theorem sh_1 : ∀ v, v < 5 → (1 : Int32) <<< (nI v &&& 31) = nI (2 ^ v) := by decide +kernel
def low (s : Nat) : Nat := if s % 2 = 1 then 0 else if s % 4 = 2 then 1 else if s % 8 = 4 then 2 else 3
theorem low_lt (s : Nat) : low s < 4 := by
  unfold low
  split
  · omega
  · split
    · omega
    · split <;> omega
theorem low_pow : ∀ v, v < 4 → low (2 ^ v) = v := by decide +kernel
theorem m_lowest (S : kS) {s : Nat} (h : s < 16) (h0 : s ≠ 0) : FX6_lowest S (nI s) = some (nI (low s)) := by
  match s, h, h0 with
  | 1, _, _ => rfl
  | 2, _, _ => rfl
  | 3, _, _ => rfl
  | 4, _, _ => rfl
  | 5, _, _ => rfl
  | 6, _, _ => rfl
  | 7, _, _ => rfl
  | 8, _, _ => rfl
  | 9, _, _ => rfl
  | 10, _, _ => rfl
  | 11, _, _ => rfl
  | 12, _, _ => rfl
  | 13, _, _ => rfl
  | 14, _, _ => rfl
  | 15, _, _ => rfl
  | s + 16, h, _ => omega
theorem c_least4 (o : Nat) (S : kS) {s : Nat} (h : s < 16) (h0 : s ≠ 0) : FX0_leastValue_L8 o S (nI s) 0 = some (nI (low s)) := by
  match s, h, h0 with
  | 1, _, _ => rfl
  | 2, _, _ => rfl
  | 3, _, _ => rfl
  | 4, _, _ => rfl
  | 5, _, _ => rfl
  | 6, _, _ => rfl
  | 7, _, _ => rfl
  | 8, _, _ => rfl
  | 9, _, _ => rfl
  | 10, _, _ => rfl
  | 11, _, _ => rfl
  | 12, _, _ => rfl
  | 13, _, _ => rfl
  | 14, _, _ => rfl
  | 15, _, _ => rfl
  | s + 16, h, _ => omega
theorem pow_le4 {v : Nat} (h : v ≤ 4) : 2 ^ v ≤ 16 := by
  have : ∀ v, v ≤ 4 → 2 ^ v ≤ 16 := by decide +kernel
  exact this v h
theorem pow_lt4 {v : Nat} (h : v < 4) : 2 ^ v < 16 := by
  have : ∀ v, v < 4 → 2 ^ v < 16 := by decide +kernel
  exact this v h
theorem nO_31 {m : Nat} (h : m < 2147483648) (h0 : m ≠ 0) : nO m = nI (m - 1) := by
  obtain ⟨v, rfl⟩ : ∃ v, m = v + 1 := ⟨m - 1, by omega⟩
  rw [nO_s]
  congr 1
theorem nO_m1 {m : Nat} (h : m < 2147483648) : (nO m = -1) = (m = 0) := by
  by_cases h0 : m = 0
  · subst h0; simp [nO_0]
  · rw [nO_31 h h0, nI_m1 (by omega)]
    simp [h0]
theorem nO_e {a b : Nat} (ha : a < 2147483648) (hb : b < 2147483648) : (nO a = nI b) = (a = b + 1) := by
  by_cases h0 : a = 0
  · subst h0
    rw [nO_0, m1_nI hb]
    simp
  · rw [nO_31 ha h0, nI_e (by omega) hb]
    apply propext
    omega
theorem m1_eq : (-1 : Int32) = nO 0 := nO_0.symm
def nN2 : Int32 := -2
def nN3 : Int32 := -3
def nN4 : Int32 := -4
theorem m2_eq : (-2 : Int32) = nN2 := rfl
theorem m3_eq : (-3 : Int32) = nN3 := rfl
theorem m4_eq : (-4 : Int32) = nN4 := rfl
theorem nO_eO {a b : Nat} (ha : a < 2147483648) (hb : b < 2147483648) : (nO a = nO b) = (a = b) := by
  by_cases h0 : b = 0
  · subst h0; rw [nO_0, nO_m1 ha]
  · rw [nO_31 hb h0, nO_e ha (by omega)]
    apply propext
    omega
theorem nI_eO {a b : Nat} (ha : a < 2147483648) (hb : b < 2147483648) : (nI a = nO b) = (b = a + 1) := by
  rw [← nO_e hb ha]
  exact propext ⟨Eq.symm, Eq.symm⟩
theorem nI_neg {a : Nat} (h : a < 2147483648) : (nI a < 0) = False := propext ⟨fun q => nI_pos h q, False.elim⟩
theorem z_t {a : Nat} (h : a < 2147483648) : (0 < nI a) = (0 < a) := by rw [← nI_0, nI_t' (by omega) h]
theorem nI_lz {a : Nat} (h : a < 2147483648) : (nI a ≤ 0) = (a = 0) := by
  rw [← nI_0, nI_l' h (by omega)]
  exact propext ⟨fun q => by omega, fun q => by omega⟩
section FORM2
variable {S : kS} {α : kα} {o f : Nat}
theorem wf_su (hw : wfP α f) (hs : wfS α f) {p : Nat} (hp : p < 5) : α 7 f p ≤ 4 ∧ α 6 f p < 16 ∧ (0 < α 7 f p → α 6 f p = 2 ^ (α 7 f p - 1)) := by
  have h := hs p hp
  by_cases q : p < α 1 f 0 ∧ α 2 f p ≠ 1
  · have h1 := h.1 q
    have h2 := (hw.2 p q.1).2.2.1
    have h3 := pow_le4 h2
    exact ⟨by omega, by omega, h1.2.2⟩
  · have h1 := h.2 q
    exact ⟨by omega, by omega, by omega⟩
theorem sv_le (hw : wfP α f) (hs : wfS α f) {p : Nat} (hp : p < α 1 f 0) : sv α f p ≤ 4 := by
  have h5 := hw.1
  have h3 := hw.2 p hp
  unfold sv
  split
  · split
    · omega
    · have := Nat.mod_lt (α 7 f (α 4 f p) - 1 + (α 7 f (α 5 f p) - 1)) (show 0 < α 3 f p by omega)
      omega
  · exact (wf_su hw hs (by omega)).1
theorem c_sureValue (hF : RF (S o) α f) (hw : wfP α f) (hs : wfS α f) {p : Nat} (hp : p < α 1 f 0) : FX0_sureValue o S (nI p) = some (nO (sv α f p)) := by
  have h5 := hw.1
  have h3 := hw.2 p hp
  unfold FX0_sureValue FX0_sureValue_J66 FX0_sureValue_J88
  rw [c_hasPlace hF hw hp]
  simp (disch := omega) only [Option.bind_some, kb, kA_nI, kin_t, kgd_t, hF.1.2.1 p hp, ↓m1_eq, li_1, nI_e]
  rw [if_neg (by decide)]
  by_cases hk : α 2 f p = 1
  · rw [if_pos hk]
    obtain ⟨ha, hb, hka, hkb⟩ := h3.2.2.2 hk
    have sa := wf_su hw hs (p := α 4 f p) (by omega)
    have sb := wf_su hw hs (p := α 5 f p) (by omega)
    simp (disch := omega) only [hF.1.2.2.2.1 p hp hk, hF.1.2.2.2.2 p hp hk, c_hasPlace hF hw ha, c_hasPlace hF hw hb, Option.bind_some, hF.1.2.2.1 p hp, kA_nI, kin_t, kgd_t, hF.2.1.2, nO_eO, z_t]
    rw [if_neg (by decide), if_neg (by decide), if_pos (by omega)]
    unfold sv
    rw [if_pos hk]
    by_cases h1 : α 7 f (α 4 f p) = 0
    · rw [if_pos h1, if_pos (Or.inl h1)]
    · rw [if_neg h1]
      by_cases h2 : α 7 f (α 5 f p) = 0
      · rw [if_pos h2, if_pos (Or.inr h2)]
      · rw [if_neg h2, if_neg (by omega), nO_31 (by omega) h1, nO_31 (by omega) h2, nI_add, nI_rem (by omega) (by omega), nO_s]
        have : knz (nI (α 3 f p)) = true := by
          unfold knz
          apply decide_eq_true
          exact nI_ne0 (by omega) (by omega)
        rw [this]
        rfl
  · rw [if_neg hk]
    simp (disch := omega) only [hF.2.1.2]
    unfold sv
    rw [if_neg hk]
theorem c_sureValueN (hF : RF (S o) α f) (hw : wfP α f) {x : Int32} (hx : x < 0 ∨ nI (α 1 f 0) ≤ x) : FX0_sureValue o S x = some (-1) := by
  unfold FX0_sureValue
  rw [c_hasPlaceN hF hw hx]
  rfl
def setOf (α : kα) (f p : Nat) : Nat := if α 2 f p = 1 then (if sv α f p = 0 then 0 else 2 ^ (sv α f p - 1)) else α 6 f p
theorem c_setOf (hF : RF (S o) α f) (hw : wfP α f) (hs : wfS α f) {p : Nat} (hp : p < α 1 f 0) : FX0_setOf o S (nI p) = some (nI (setOf α f p)) := by
  have h5 := hw.1
  have hv := sv_le hw hs hp
  unfold FX0_setOf FX0_setOf_J26 FX0_setOf_J45 setOf
  rw [c_isWorked hF hw hp]
  by_cases hk : α 2 f p = 1
  · simp only [hk, decide_true, b2, if_true, Option.bind_some]
    rw [if_neg (by decide), c_sureValue hF hw hs hp]
    simp (disch := omega) only [Option.bind_some, nO_m1]
    by_cases h0 : sv α f p = 0
    · rw [if_pos h0, if_pos h0, nI_0]
    · rw [if_neg h0, if_neg h0, nO_31 (by omega) h0, sh_1 _ (by omega)]
  · simp only [hk, decide_false, b2, Option.bind_some]
    rw [if_pos (by decide), c_hasPlace hF hw hp]
    simp (disch := omega) only [Option.bind_some, kb, kA_nI, kin_t, kgd_t, hF.2.1.1]
    rw [if_neg (by decide), if_neg (by simp)]
theorem c_wgo (hF : RF (S o) α f) (hw : wfP α f) (hs : wfS α f) (hr : wfR α f) {p : Nat} (hp : p < 5) : ∀ (k m r : Nat) (free : Bool), r + k = α 8 f 0 → k < m → kfix (fun rec (q : Int32 × Int32 × Int32) => FX0_isWanted_B24 o rec S q.1 q.2.1 q.2.2) m (nI p, b2 free, nI r) = some (b2 (wgo α f p k r free)) := by
  have h6 := hr.1
  intro k
  induction k with
  | zero =>
    intro m r free hk hm
    obtain ⟨m, rfl⟩ : ∃ m', m = m' + 1 := ⟨m - 1, by omega⟩
    rw [kfix_s]
    simp (disch := omega) only [FX0_isWanted_B24, kb, kI_eq, hF.2.2.1.1, nI_l']
    rw [if_pos (by omega)]
    cases free <;> rfl
  | succ k ih =>
    intro m r free hk hm
    obtain ⟨m, rfl⟩ : ∃ m', m = m' + 1 := ⟨m - 1, by omega⟩
    have hlt : r < α 8 f 0 := by omega
    obtain ⟨r1, r2, r3, r4, r5, r6⟩ := hr.2 r hlt
    have h5 := hw.1
    have h4 := (hw.2 _ r2).2.2.1
    rw [kfix_s]
    have hsv := sv_le hw hs r2
    have ihm := fun free => ih m (r + 1) free (by omega) (by omega)
    clear ih
    generalize kfix (fun rec (q : Int32 × Int32 × Int32) => FX0_isWanted_B24 o rec S q.1 q.2.1 q.2.2) m = Rk at ihm ⊢
    simp (disch := omega) only [FX0_isWanted_B24, FX0_isWanted_J75, kb, kI_eq, hF.2.2.1.1, nI_l', kA_nI, kin_t, kgd_t, hF.2.2.1.2.1 r hlt, hF.2.2.1.2.2.1 r hlt, hF.2.2.1.2.2.2.1 r hlt, hF.2.2.1.2.2.2.2.1 r hlt, c_sureValue hF hw hs r2, Option.bind_some, ↓m1_eq, li_1, nI_e, nO_e, nI_add]
    rw [if_neg (by omega)]
    unfold wgo
    by_cases h9 : α 9 f r = 1
    · rw [if_pos h9]
      by_cases h12 : α 12 f r = p
      · rw [if_pos h12, if_pos (show α 9 f r = 1 ∧ α 12 f r = p from ⟨h9, h12⟩)]
        by_cases hq : sv α f (α 10 f r) = α 11 f r + 1
        · rw [if_pos hq, if_pos hq, ← li_1]; rfl
        · rw [if_neg hq, if_neg hq]
          exact ihm false
      · rw [if_neg h12, if_neg (fun h => h12 h.2)]
        exact ihm free
    · rw [if_neg h9, if_neg (fun h => h9 h.1)]
      exact ihm free
theorem c_isWanted (hF : RF (S o) α f) (hw : wfP α f) (hs : wfS α f) (hr : wfR α f) {p : Nat} (hp : p < α 1 f 0) : FX0_isWanted o S (nI p) = some (b2 (wanted α f p)) := by
  have h5 := hw.1
  have h2 := hw.2 p hp
  have h6 := hr.1
  unfold FX0_isWanted FX0_isWanted_J18 FX0_isWanted_L24 wanted
  rw [c_hasPlace hF hw hp]
  simp (disch := omega) only [Option.bind_some, kb, kA_nI, kin_t, kgd_t, hF.1.2.1 p hp, li_1, nI_e]
  rw [if_neg (by decide)]
  by_cases hk : α 2 f p = 1
  · rw [if_pos hk]; simp [hk, b2]
  · rw [if_neg hk]
    have := c_wgo hF hw hs hr (p := p) (by omega) (α 8 f 0) kfuel 0 true (by omega) (by unfold kfuel; omega)
    rw [nI_0] at this
    simp only [hk, ne_eq, not_false_eq_true, decide_true, Bool.true_and]
    exact this
theorem c_bgo (hF : RF (S o) α f) (hw : wfP α f) (hs : wfS α f) (hr : wfR α f) : ∀ (k m r : Nat), r + k = α 8 f 0 → k < m → kfix (fun rec (q : Int32) => FX0_firstBrokenBar_B2 o rec S q) m (nI r) = some (nO (bgo α f k r)) := by
  have h6 := hr.1
  intro k
  induction k with
  | zero =>
    intro m r hk hm
    obtain ⟨m, rfl⟩ : ∃ m', m = m' + 1 := ⟨m - 1, by omega⟩
    rw [kfix_s]
    simp (disch := omega) only [FX0_firstBrokenBar_B2, kb, kI_eq, hF.2.2.1.1, nI_l']
    rw [if_pos (by omega)]
    unfold bgo
    rw [nO_0]
  | succ k ih =>
    intro m r hk hm
    obtain ⟨m, rfl⟩ : ∃ m', m = m' + 1 := ⟨m - 1, by omega⟩
    have hlt : r < α 8 f 0 := by omega
    obtain ⟨r1, r2, r3, r4, r5, r6⟩ := hr.2 r hlt
    have h5 := hw.1
    have h4 := (hw.2 _ r2).2.2.1
    have hsv := sv_le hw hs r2
    have hsv3 := sv_le hw hs r3
    rw [kfix_s]
    have ihm := ih m (r + 1) (by omega) (by omega)
    clear ih
    generalize kfix (fun rec (q : Int32) => FX0_firstBrokenBar_B2 o rec S q) m = Rk at ihm ⊢
    simp (disch := omega) only [FX0_firstBrokenBar_B2, FX0_firstBrokenBar_J59, kb, kI_eq, hF.2.2.1.1, nI_l', kA_nI, kin_t, kgd_t, hF.2.2.1.2.1 r hlt, hF.2.2.1.2.2.1 r hlt, hF.2.2.1.2.2.2.1 r hlt, hF.2.2.1.2.2.2.2.1 r hlt, hF.2.2.1.2.2.2.2.2 r hlt, c_sureValue hF hw hs r2, c_sureValue hF hw hs r3, Option.bind_some, ↓m1_eq, li_1, nI_z, nO_e, nI_add]
    rw [if_neg (by omega)]
    unfold bgo
    by_cases h9 : α 9 f r = 0
    · rw [if_pos h9]
      by_cases hq : sv α f (α 10 f r) = α 11 f r + 1
      · rw [if_pos hq]
        by_cases hq2 : sv α f (α 12 f r) = α 13 f r + 1
        · rw [if_pos hq2, if_pos ⟨h9, hq, hq2⟩, nO_s]
        · rw [if_neg hq2, if_neg (fun h => hq2 h.2.2)]
          exact ihm
      · rw [if_neg hq, if_neg (fun h => hq h.2.1)]
        exact ihm
    · rw [if_neg h9, if_neg (fun h => h9 h.1)]
      exact ihm
theorem c_broken (hF : RF (S o) α f) (hw : wfP α f) (hs : wfS α f) (hr : wfR α f) : FX0_firstBrokenBar o S = some (nO (broken α f)) := by
  have h6 := hr.1
  unfold FX0_firstBrokenBar FX0_firstBrokenBar_L2 broken
  have := c_bgo hF hw hs hr (α 8 f 0) kfuel 0 (by omega) (by unfold kfuel; omega)
  rw [nI_0] at this
  exact this
end FORM2
