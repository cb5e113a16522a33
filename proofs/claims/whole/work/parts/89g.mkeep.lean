/-! the lines kept, the reference -/
theorem li_135 : (135 : Int32) = nI 135 := by decide +kernel
theorem bt_1 {x : Int32} (h : x = 0 ∨ x = 1) : x &&& 1 = x := by rcases h with h | h <;> rw [h] <;> decide
theorem m_k66 {d : Nat} (hd : d < 10) : ∀ (k m i : Nat) (S : kS), i + k = 15 → k < m → (S 5).1 26 = nI d → (∀ x, x < 15 → (S 5).2 8 x = 0 ∨ (S 5).2 8 x = 1) → ∃ S', kfix (fun rec (q : kS × Int32) => FX6_keep_B66 rec q.1 q.2) m (S, nI i) = some S' ∧ (∀ o, o ≠ 5 → S' o = S o) ∧ (∀ c, (S' 5).1 c = if c = 26 then nI (d + 1) else (S 5).1 c) ∧ (∀ y, (S' 5).2 27 y = if 15 * d + i ≤ y ∧ y < 15 * d + 15 then (S 5).2 7 (y - 15 * d) else (S 5).2 27 y) ∧ (∀ y, (S' 5).2 28 y = if 15 * d + i ≤ y ∧ y < 15 * d + 15 then (S 5).2 8 (y - 15 * d) else (S 5).2 28 y) ∧ ∀ c, c ≠ 27 → c ≠ 28 → (S' 5).2 c = (S 5).2 c := by
  intro k
  induction k with
  | zero =>
    intro m i S hk hm hS hb
    obtain ⟨m, rfl⟩ : ∃ m', m = m' + 1 := ⟨m - 1, by omega⟩
    refine ⟨kpI S 5 26 (nI (d + 1)), ?_, fun o ho => pI_ne ho, fun c => by rw [pI_1]; simp, fun y => by rw [if_neg (by omega)]; rfl, fun y => by rw [if_neg (by omega)]; rfl, fun c _ _ => rfl⟩
    rw [kfix_s]
    generalize kfix (fun rec (q : kS × Int32) => FX6_keep_B66 rec q.1 q.2) m = Rk
    simp (disch := omega) only [FX6_keep_B66, kb, kI_eq, hS, li_15, nI_l', li_1, nI_add]
    rw [if_pos (by omega)]
  | succ k ih =>
    intro m i S hk hm hS hb
    obtain ⟨m, rfl⟩ : ∃ m', m = m' + 1 := ⟨m - 1, by omega⟩
    obtain ⟨S', q1, q2, q3, q4, q5, q6⟩ := ih m (i + 1) (kpR (kpR S 5 27 (upd ((S 5).2 27) (15 * d + i) ((S 5).2 7 i))) 5 28 (upd ((S 5).2 28) (15 * d + i) ((S 5).2 8 i))) (by omega) (by omega) hS hb
    have eb := bt_1 (hb i (by omega))
    clear ih
    refine ⟨S', ?_, fun o ho => by rw [q2 o ho, pR_ne ho, pR_ne ho], q3, fun y => ?_, fun y => ?_, fun c h7 h8 => by rw [q6 c h7 h8, pR_2, if_neg (fun h => h8 h.2), pR_2, if_neg (fun h => h7 h.2)]⟩
    · rw [kfix_s]
      generalize kfix (fun rec (q : kS × Int32) => FX6_keep_B66 rec q.1 q.2) m = Rk at q1 ⊢
      simp (disch := omega) only [FX6_keep_B66, kb, kI_eq, li_15, nI_l', hS, nI_mul, nI_add, kin_t, kgd_t, kA_nI, kpA_nI, pR_1, pR_2, and_false, Nat.reduceEqDiff, if_false, eb]
      rw [if_neg (by omega), li_1, nI_add]
      exact q1
    · rw [q4 y]
      show (if _ then (S 5).2 7 _ else upd ((S 5).2 27) (15 * d + i) _ y) = _
      rw [upd_eq]
      by_cases h1 : 15 * d + (i + 1) ≤ y ∧ y < 15 * d + 15
      · rw [if_pos h1, if_pos (by omega)]
      · rw [if_neg h1]
        by_cases h2 : y = 15 * d + i
        · rw [if_pos h2, if_pos (by omega), h2, show 15 * d + i - 15 * d = i by omega]
        · rw [if_neg h2, if_neg (by omega)]
    · rw [q5 y]
      show (if _ then (S 5).2 8 _ else upd ((S 5).2 28) (15 * d + i) _ y) = _
      rw [upd_eq]
      by_cases h1 : 15 * d + (i + 1) ≤ y ∧ y < 15 * d + 15
      · rw [if_pos h1, if_pos (by omega)]
      · rw [if_neg h1]
        by_cases h2 : y = 15 * d + i
        · rw [if_pos h2, if_pos (by omega), h2, show 15 * d + i - 15 * d = i by omega]
        · rw [if_neg h2, if_neg (by omega)]
theorem k11e (S : kS) (G : kS → Option kS) (Y : Option kS) {v : Int32} (h : (135 : Int32) ≤ v) : (if (135 : Int32) ≤ v then (kb (kI S 5 26) fun x1 => kb (kpI S 5 26 (x1 - (1 : Int32))) fun S1 => G S1) else Y) = G (kpI S 5 26 ((S 5).1 26 - 1)) := by
  rw [if_pos h]
  rfl
theorem k11s (S : kS) (H : kS × Int32 → Option kS) (X : Option kS) {i : Nat} (hi : i < 135) (hb : (S 5).2 28 (i + 15) = 0 ∨ (S 5).2 28 (i + 15) = 1) : (if (135 : Int32) ≤ nI i then X else (kgd (kin (nI i + (15 : Int32)) 150) <| kb (kA S 5 27 (nI i + (15 : Int32))) fun x2 => kgd (kin (nI i) 150) <| kb (kpA S 5 27 (nI i) x2) fun S2 => kgd (kin (nI i + (15 : Int32)) 150) <| kb (kA S2 5 28 (nI i + (15 : Int32))) fun x3 => kgd (kin (nI i) 150) <| kb (kpA S2 5 28 (nI i) (x3 &&& 1)) fun S3 => H (S3, (nI i + (1 : Int32))))) = H (kpR (kpR S 5 27 (upd ((S 5).2 27) i ((S 5).2 27 (i + 15)))) 5 28 (upd ((S 5).2 28) i ((S 5).2 28 (i + 15))), nI (i + 1)) := by
  have hc : ¬ (135 : Int32) ≤ nI i := by rw [li_135, nI_l' (by omega) (by omega)]; omega
  have eb := bt_1 hb
  rw [if_neg hc]
  simp (disch := omega) only [li_15, nI_add, kin_t, kgd_t, kb, kA_nI, kpA_nI, pR_2, and_false, Nat.reduceEqDiff, if_false, eb]
  rw [li_1, nI_add]
theorem m_k11 : ∀ (k m i : Nat) (S : kS), i + k = 135 → k < m → (∀ x, x < 150 → (S 5).2 28 x = 0 ∨ (S 5).2 28 x = 1) → ∃ S', kfix (fun rec (q : kS × Int32) => FX6_keep_B11 rec q.1 q.2) m (S, nI i) = FX6_keep_J64 (kpI S' 5 26 ((S 5).1 26 - 1)) ∧ (∀ o, o ≠ 5 → S' o = S o) ∧ (S' 5).1 = (S 5).1 ∧ (∀ y, (S' 5).2 27 y = if i ≤ y ∧ y < 135 then (S 5).2 27 (y + 15) else (S 5).2 27 y) ∧ (∀ y, (S' 5).2 28 y = if i ≤ y ∧ y < 135 then (S 5).2 28 (y + 15) else (S 5).2 28 y) ∧ ∀ c, c ≠ 27 → c ≠ 28 → (S' 5).2 c = (S 5).2 c := by
  intro k
  induction k with
  | zero =>
    intro m i S hk hm hb
    obtain ⟨m, rfl⟩ : ∃ m', m = m' + 1 := ⟨m - 1, by omega⟩
    refine ⟨S, ?_, fun o ho => rfl, rfl, fun y => by rw [if_neg (by omega)], fun y => by rw [if_neg (by omega)], fun c _ _ => rfl⟩
    rw [kfix_s]
    generalize kfix (fun rec (q : kS × Int32) => FX6_keep_B11 rec q.1 q.2) m = Rk
    show FX6_keep_B11 Rk S (nI i) = _
    unfold FX6_keep_B11
    exact k11e S FX6_keep_J64 _ (by rw [li_135, nI_l' (by omega) (by omega)]; omega)
  | succ k ih =>
    intro m i S hk hm hb
    obtain ⟨m, rfl⟩ : ∃ m', m = m' + 1 := ⟨m - 1, by omega⟩
    have z27 : ∀ y, (kpR (kpR S 5 27 (upd ((S 5).2 27) i ((S 5).2 27 (i + 15)))) 5 28 (upd ((S 5).2 28) i ((S 5).2 28 (i + 15))) 5).2 27 y = if y = i then (S 5).2 27 (i + 15) else (S 5).2 27 y := fun y => rfl
    have z28 : ∀ y, (kpR (kpR S 5 27 (upd ((S 5).2 27) i ((S 5).2 27 (i + 15)))) 5 28 (upd ((S 5).2 28) i ((S 5).2 28 (i + 15))) 5).2 28 y = if y = i then (S 5).2 28 (i + 15) else (S 5).2 28 y := fun y => rfl
    obtain ⟨S', q1, q2, q3, q4, q5, q6⟩ := ih m (i + 1) (kpR (kpR S 5 27 (upd ((S 5).2 27) i ((S 5).2 27 (i + 15)))) 5 28 (upd ((S 5).2 28) i ((S 5).2 28 (i + 15)))) (by omega) (by omega) (fun x hx => by
      rw [z28]
      split
      · exact hb _ (by omega)
      · exact hb x hx)
    clear ih
    refine ⟨S', ?_, fun o ho => by rw [q2 o ho, pR_ne ho, pR_ne ho], q3, fun y => ?_, fun y => ?_, fun c h7 h8 => by rw [q6 c h7 h8, pR_2, if_neg (fun h => h8 h.2), pR_2, if_neg (fun h => h7 h.2)]⟩
    · rw [kfix_s]
      generalize kfix (fun rec (q : kS × Int32) => FX6_keep_B11 rec q.1 q.2) m = Rk at q1 ⊢
      show FX6_keep_B11 Rk S (nI i) = _
      unfold FX6_keep_B11
      exact (k11s S Rk _ (by omega) (hb _ (by omega))).trans q1
    · rw [q4 y, z27, z27]
      by_cases h1 : i + 1 ≤ y ∧ y < 135
      · rw [if_pos h1, if_neg (show ¬ y + 15 = i by omega), if_pos (by omega)]
      · rw [if_neg h1]
        by_cases h2 : y = i
        · rw [if_pos h2, if_pos (by omega), h2]
        · rw [if_neg h2, if_neg (by omega)]
    · rw [q5 y, z28, z28]
      by_cases h1 : i + 1 ≤ y ∧ y < 135
      · rw [if_pos h1, if_neg (show ¬ y + 15 = i by omega), if_pos (by omega)]
      · rw [if_neg h1]
        by_cases h2 : y = i
        · rw [if_pos h2, if_pos (by omega), h2]
        · rw [if_neg h2, if_neg (by omega)]
theorem keepS (S : kS) (L : kS → Int32 → Option kS) (J : kS → Option kS) {d : Nat} (h : (S 5).1 26 = nI d) (hd : d ≤ 10) : (kb (kI S 5 26) fun x1 => if x1 = (10 : Int32) then (L S (0 : Int32)) else (J S)) = if d = 10 then L S 0 else J S := by
  simp (disch := omega) only [kb, kI_eq, h, li_10, nI_e]
theorem m_keep {α : kα} {S : kS} (hH : MH (S 5) α) (hM : MS (S 5) α) (h10 : α 0 5 0 ≤ 10) : ∃ S', FX6_keep S = some S' ∧ (∀ o, o ≠ 5 → S' o = S o) ∧ (∀ c, c ≠ 26 → (S' 5).1 c = (S 5).1 c) ∧ (∀ c, c ≠ 27 → c ≠ 28 → (S' 5).2 c = (S 5).2 c) ∧ MH (S' 5) (αkeep α) := by
  obtain ⟨t1, t2, t3⟩ := hH
  have s7 : ∀ x, x < 15 → (S 5).2 7 x = nI (α 6 (x / 5) (x % 5)) := fun x hx => by
    have := hM.2.2.1 (x / 5) (x % 5) (by omega) (by omega)
    rw [show 5 * (x / 5) + x % 5 = x by omega] at this
    exact this
  have s8 : ∀ x, x < 15 → (S 5).2 8 x = if α 7 (x / 5) (x % 5) = 0 then 0 else 1 := fun x hx => by
    have := hM.2.2.2 (x / 5) (x % 5) (by omega) (by omega)
    rw [show 5 * (x / 5) + x % 5 = x by omega] at this
    exact this
  have b8 : ∀ x, x < 15 → (S 5).2 8 x = 0 ∨ (S 5).2 8 x = 1 := fun x hx => by
    rw [s8 x hx]
    split
    · exact Or.inl rfl
    · exact Or.inr rfl
  unfold FX6_keep
  rw [keepS S FX6_keep_L11 FX6_keep_J64 t1 h10]
  by_cases h : α 0 5 0 = 10
  · rw [if_pos h]
    obtain ⟨S1, a1, a2, a3, a4, a5, a6⟩ := m_k11 135 kfuel 0 S (by omega) (by unfold kfuel; omega) (fun x hx => by
      have := t3 (x / 15) (x % 15) (by omega) (by omega)
      rw [show 15 * (x / 15) + x % 15 = x by omega] at this
      rw [this]
      split
      · exact Or.inl rfl
      · exact Or.inr rfl)
    have e9 : (S 5).1 26 - 1 = nI 9 := by rw [t1, h, sub1, nO_s]
    rw [e9] at a1
    obtain ⟨S', b1, b2', b3, b4, b5, b6⟩ := m_k66 (d := 9) (by omega) 15 kfuel 0 (kpI S1 5 26 (nI 9)) (by omega) (by unfold kfuel; omega) (by rw [pI_1, if_pos ⟨rfl, rfl⟩]) (fun x hx => by rw [pI_2, a6 8 (by omega) (by omega)]; exact b8 x hx)
    rw [pI_2] at b4 b5 b6
    rw [a6 7 (by omega) (by omega)] at b4
    rw [a6 8 (by omega) (by omega)] at b5
    refine ⟨S', ?_, fun o ho => by rw [b2' o ho, pI_ne ho, a2 o ho], fun c hc => by rw [b3 c, if_neg hc, pI_1, if_neg (fun q => hc q.2), a3], fun c h7 h8 => by rw [b6 c h7 h8, a6 c h7 h8], ?_, fun j x hj hx => ?_, fun j x hj hx => ?_⟩
    · unfold FX6_keep_L11
      rw [nI_0] at a1 b1
      refine a1.trans ?_
      unfold FX6_keep_J64 FX6_keep_L66
      exact b1
    · rw [b3, if_pos rfl, αkeep_5, h]
      rfl
    · rw [αkeep_5] at hj
      rw [b4, αkeep_26, if_pos h]
      by_cases e : j = 9
      · rw [if_pos (by omega), if_pos e, show 15 * j + x - 15 * 9 = x by omega]
        exact s7 x hx
      · rw [if_neg (by omega), if_neg e, a4, if_pos (by omega), show 15 * j + x + 15 = 15 * (j + 1) + x by omega]
        exact t2 (j + 1) x (by omega) hx
    · rw [αkeep_5] at hj
      rw [b5, αkeep_27, if_pos h]
      by_cases e : j = 9
      · rw [if_pos (by omega), if_pos e, show 15 * j + x - 15 * 9 = x by omega]
        exact s8 x hx
      · rw [if_neg (by omega), if_neg e, a5, if_pos (by omega), show 15 * j + x + 15 = 15 * (j + 1) + x by omega]
        exact t3 (j + 1) x (by omega) hx
  · rw [if_neg h]
    obtain ⟨S', b1, b2', b3, b4, b5, b6⟩ := m_k66 (d := α 0 5 0) (by omega) 15 kfuel 0 S (by omega) (by unfold kfuel; omega) t1 b8
    refine ⟨S', ?_, b2', fun c hc => by rw [b3 c, if_neg hc], b6, ?_, fun j x hj hx => ?_, fun j x hj hx => ?_⟩
    · unfold FX6_keep_J64 FX6_keep_L66
      rw [nI_0] at b1
      exact b1
    · rw [b3, if_pos rfl, αkeep_5]
      congr 1
      omega
    · rw [αkeep_5] at hj
      rw [b4, αkeep_26, if_neg h]
      by_cases e : j = α 0 5 0
      · rw [if_pos (by omega), if_pos e, e, show 15 * α 0 5 0 + x - 15 * α 0 5 0 = x by omega]
        exact s7 x hx
      · rw [if_neg (by omega), if_neg e]
        exact t2 j x (by omega) hx
    · rw [αkeep_5] at hj
      rw [b5, αkeep_27, if_neg h]
      by_cases e : j = α 0 5 0
      · rw [if_pos (by omega), if_pos e, e, show 15 * α 0 5 0 + x - 15 * α 0 5 0 = x by omega]
        exact s8 x hx
      · rw [if_neg (by omega), if_neg e]
        exact t3 j x (by omega) hx
