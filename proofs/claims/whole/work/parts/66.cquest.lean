/-! the class's questions -/
theorem q_or : ∀ p, p < 5 → ∀ s, s < 2 ^ p → nI s ||| nI (2 ^ p) = nI (s + 2 ^ p) := by decide +kernel
theorem q_bit : ∀ q, q < 32 → ∀ p, p < 5 → ((nI q >>> (nI p &&& 31)) &&& 1 = 0) = (q / 2 ^ p % 2 = 0) := by
  have h : ∀ q, q < 32 → ∀ p, p < 5 → (((nI q >>> (nI p &&& 31)) &&& 1 = 0) ↔ (q / 2 ^ p % 2 = 0)) := by decide +kernel
  exact fun q hq p hp => propext (h q hq p hp)
theorem q_cnt (S : kS) : ∀ q, q < 32 → FJ6_bitCount_0f7a4 S (nI q) = some (nI (q % 2 + q / 2 % 2 + q / 4 % 2 + q / 8 % 2 + q / 16 % 2)) := by
  have h : ∀ q, q < 32 → FJ6_bitCount_0f7a4 (fun _ => (fun _ => 0, fun _ _ => 0)) (nI q) = some (nI (q % 2 + q / 2 % 2 + q / 4 % 2 + q / 8 % 2 + q / 16 % 2)) := by decide +kernel
  exact h
def qm (α : kα) (f : Nat) : Nat := as1 α f 0 + 2 * as1 α f 1 + 4 * as1 α f 2 + 8 * as1 α f 3 + 16 * as1 α f 4
theorem qm_lt (α : kα) (f : Nat) : qm α f < 32 := by
  have a0 := as1_le α f 0; have a1 := as1_le α f 1; have a2 := as1_le α f 2; have a3 := as1_le α f 3; have a4 := as1_le α f 4
  unfold qm; omega
theorem qm_cnt (α : kα) (f : Nat) : qm α f % 2 + qm α f / 2 % 2 + qm α f / 4 % 2 + qm α f / 8 % 2 + qm α f / 16 % 2 = asks α f := by
  have a0 := as1_le α f 0; have a1 := as1_le α f 1; have a2 := as1_le α f 2; have a3 := as1_le α f 3; have a4 := as1_le α f 4
  unfold qm asks; omega
theorem qm_bit (α : kα) (f : Nat) : ∀ p, p < 5 → qm α f / 2 ^ p % 2 = as1 α f p := by
  have a0 := as1_le α f 0; have a1 := as1_le α f 1; have a2 := as1_le α f 2; have a3 := as1_le α f 3; have a4 := as1_le α f 4
  intro p hp
  unfold qm
  rcases (show p = 0 ∨ p = 1 ∨ p = 2 ∨ p = 3 ∨ p = 4 by omega) with rfl | rfl | rfl | rfl | rfl
  · rw [show 2 ^ 0 = 1 from rfl]; omega
  · rw [show 2 ^ 1 = 2 from rfl]; omega
  · rw [show 2 ^ 2 = 4 from rfl]; omega
  · rw [show 2 ^ 3 = 8 from rfl]; omega
  · rw [show 2 ^ 4 = 16 from rfl]; omega
def qg (α : kα) (f : Nat) : Nat → Nat → Nat → Nat
  | 0, _, s => s
  | k + 1, p, s => qg α f k (p + 1) (s + 2 ^ p * as1 α f p)
theorem qg_s (α : kα) (f k p s : Nat) : qg α f (k + 1) p s = qg α f k (p + 1) (s + 2 ^ p * as1 α f p) := rfl
theorem qg_0 (α : kα) (f p s : Nat) : qg α f 0 p s = s := rfl
theorem qg_qm {α : kα} {f : Nat} (h5 : α 1 f 0 ≤ 5) : qg α f (α 1 f 0) 0 0 = qm α f := by
  have hh : ∀ p, α 1 f 0 ≤ p → as1 α f p = 0 := fun p hp => as1_0 (ask_hi hp)
  unfold qm
  rcases (show α 1 f 0 = 0 ∨ α 1 f 0 = 1 ∨ α 1 f 0 = 2 ∨ α 1 f 0 = 3 ∨ α 1 f 0 = 4 ∨ α 1 f 0 = 5 by omega) with e | e | e | e | e | e
  · rw [e, qg_0, hh 0 (by omega), hh 1 (by omega), hh 2 (by omega), hh 3 (by omega), hh 4 (by omega)]
  · rw [e, qg_s, qg_0, hh 1 (by omega), hh 2 (by omega), hh 3 (by omega), hh 4 (by omega)]; omega
  · rw [e, qg_s, qg_s, qg_0, hh 2 (by omega), hh 3 (by omega), hh 4 (by omega)]; simp only [Nat.zero_add, Nat.reduceAdd]; omega
  · rw [e, qg_s, qg_s, qg_s, qg_0, hh 3 (by omega), hh 4 (by omega)]; simp only [Nat.zero_add, Nat.reduceAdd]; omega
  · rw [e, qg_s, qg_s, qg_s, qg_s, qg_0, hh 4 (by omega)]; simp only [Nat.zero_add, Nat.reduceAdd]; omega
  · rw [e, qg_s, qg_s, qg_s, qg_s, qg_s, qg_0]; simp only [Nat.zero_add, Nat.reduceAdd]; omega
theorem c_qloop {S : kS} {α : kα} {o f : Nat} (hF : RF (S o) α f) (hw : wfP α f) (hs : wfS α f) (hr : wfR α f) : ∀ (k m p s : Nat), p + k = α 1 f 0 → k < m → s < 2 ^ p → kfix (fun rec (q : Int32 × Int32) => FX0_questions_B4 o rec S q.1 q.2) m (nI s, nI p) = some (nI (qg α f k p s)) := by
  have h5 := hw.1
  intro k
  induction k with
  | zero =>
    intro m p s hpk hm hsl
    obtain ⟨m, rfl⟩ : ∃ m', m = m' + 1 := ⟨m - 1, by omega⟩
    rw [kfix_s]
    generalize kfix (fun rec (q : Int32 × Int32) => FX0_questions_B4 o rec S q.1 q.2) m = Rk
    show FX0_questions_B4 o Rk S (nI s) (nI p) = _
    unfold FX0_questions_B4
    simp (disch := omega) only [kb, kI_eq, hF.1.1, nI_l']
    rw [if_pos (by omega), qg_0]
  | succ k ih =>
    intro m p s hpk hm hsl
    obtain ⟨m, rfl⟩ : ∃ m', m = m' + 1 := ⟨m - 1, by omega⟩
    rw [kfix_s, qg_s]
    have hp : p < α 1 f 0 := by omega
    have hpw : 2 ^ (p + 1) = 2 ^ p + 2 ^ p := by rw [Nat.pow_succ]; omega
    have l1 := as1_le α f p
    have hlt : s + 2 ^ p * as1 α f p < 2 ^ (p + 1) := by
      rcases (show as1 α f p = 0 ∨ as1 α f p = 1 by omega) with e | e <;> rw [e] <;> omega
    have ihm := ih m (p + 1) (s + 2 ^ p * as1 α f p) (by omega) (by omega) hlt
    clear ih
    generalize kfix (fun rec (q : Int32 × Int32) => FX0_questions_B4 o rec S q.1 q.2) m = Rk at ihm ⊢
    show FX0_questions_B4 o Rk S (nI s) (nI p) = _
    unfold FX0_questions_B4 FX0_questions_J35
    have ep : nI p + 1 = nI (p + 1) := by rw [li_1, nI_add]
    have hsv := sv_le hw hs hp
    simp (disch := omega) only [kb, kI_eq, hF.1.1, nI_l', show ¬ α 1 f 0 ≤ p by omega, if_false, c_sureValue hF hw hs hp, c_isWanted hF hw hs hr hp, Option.bind_some, nO_m1, ep, sh_1 p (by omega), q_or p (by omega) s hsl]
    cases ha : ask α f p
    · rw [as1_0 ha, Nat.mul_zero, Nat.add_zero] at ihm ⊢
      by_cases h1 : sv α f p = 0
      · rw [if_pos h1]
        cases hwn : wanted α f p
        · rw [if_pos (show b2 false = 0 from rfl)]; exact ihm
        · exfalso
          have hk : α 2 f p ≠ 1 := fun h => by unfold wanted at hwn; simp [h] at hwn
          have h7 : α 7 f p = 0 := by unfold sv at h1; rw [if_neg hk] at h1; exact h1
          unfold ask at ha
          rw [hwn, show decide (p < α 1 f 0) = true from decide_eq_true hp, show decide (α 7 f p = 0) = true from decide_eq_true h7] at ha
          cases ha
      · rw [if_neg h1]; exact ihm
    · obtain ⟨a1, a2, a3⟩ := ask_p ha
      have esv : sv α f p = 0 := by unfold sv; rw [if_neg (ask_w ha)]; exact a2
      rw [as1_1 ha, Nat.mul_one] at ihm ⊢
      rw [if_pos esv, a3, if_neg (show ¬ b2 true = 0 by decide)]
      exact ihm
theorem c_questions {S : kS} {α : kα} {o f : Nat} (hF : RF (S o) α f) (hw : wfP α f) (hs : wfS α f) (hr : wfR α f) : FX0_questions o S = some (nI (qm α f)) := by
  have h5 := hw.1
  have := c_qloop hF hw hs hr (α 1 f 0) kfuel 0 0 (by omega) (by unfold kfuel; omega) (by decide)
  rw [qg_qm h5, nI_0] at this
  unfold FX0_questions FX0_questions_L4
  exact this
