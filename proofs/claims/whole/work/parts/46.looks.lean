/-! the steps that only look -/
theorem o_ne : ((1 : Int32) = 0) = False := by simp
theorem kA_0 (S : kS) (o k : Nat) : kA S o k 0 = (S o).2 k 0 := rfl
theorem kin_0 {n : Nat} (h : 0 < n) (hn : n < 2147483648) : kin 0 n = true := by rw [← nI_0]; exact kin_nI h hn
theorem kz_n {a : Nat} (h : a ≤ 1) : kz (nI a) = true := by
  rcases (show a = 0 ∨ a = 1 by omega) with rfl | rfl <;> decide +kernel
theorem c_asNumber (S : kS) {a : Nat} (h : a ≤ 1) : FX5_asNumber S (nI a) = some (nI a) := by
  rcases (show a = 0 ∨ a = 1 by omega) with rfl | rfl <;> rfl
theorem c_asB (S : kS) (b : Bool) : FX5_asNumber S (b2 b) = some (b2 b) := by cases b <;> rfl
theorem st_heard : kst_heard Inv := fun n S k a1 hk hI => by
  obtain ⟨α, rfl, hw, hc, hm⟩ := hI
  have h1 := hw.2.2.2.2.2.2.2.2
  obtain ⟨l1, l2, l3, l4⟩ := hc.2.2.1
  obtain ⟨m1, m2, m3, m4, m5, m6, m7, m8, m9, m10, m11⟩ := hm.1
  have hb := hc.1.2.2.2.2.1
  unfold FX5_heard FX6_heard FX3_leastCost FX3_isHeard FX3_mostPassed FX3_leastReadings
  simp (disch := omega) only [kb, kI_eq, kA_0, kin_0, kgd_t, l1, l2, l3, l4, m5, m8, m9, m10, m11, hb, Option.bind_some, kz_n h1, c_asNumber S h1]
  split
  · exact ⟨_, rfl, rfl, inv_same rfl hw hc hm⟩
  · split
    · exact ⟨_, rfl, rfl, inv_same rfl hw hc hm⟩
    · split
      · exact ⟨_, rfl, rfl, inv_same rfl hw hc hm⟩
      · split
        · exact ⟨_, rfl, rfl, inv_same rfl hw hc hm⟩
        · split
          · exact ⟨_, rfl, rfl, inv_same rfl hw hc hm⟩
          · exact ⟨_, rfl, rfl, inv_same rfl hw hc hm⟩
theorem c_uppermost {α : kα} {S : kS} (hc : RT (S 0) α) (hw : wfT α) : FX5_uppermost S = some (if α 0 1 0 = 0 then -1 else nI (top α)) := by
  have hp3 := hw.1
  unfold FX5_uppermost FX5_uppermost_J22
  simp (disch := omega) only [kb, kI_eq, hc.2.1.1, nI_lz]
  by_cases h : α 0 1 0 = 0
  · rw [if_pos h, if_pos h]
  · rw [if_neg h, if_neg h]
    simp (disch := omega) only [li_1, nI_sub, kin_t, kgd_t, kA_nI, hc.2.1.2, top]
theorem m_top {α : kα} {S : kS} (hc : MT (S 5) α) (hw : wfT α) (h : ¬ α 0 1 0 = 0) : kA S 5 24 (nI (α 0 1 0) - 1) = nI (top α) ∧ kin (nI (α 0 1 0) - 1) 3 = true := by
  have hp3 := hw.1
  simp (disch := omega) only [li_1, nI_sub, kin_t, kA_nI, hc.2.1.2, top, and_self]
theorem h_size {α : kα} {S : kS} (hc : RH (S 4) α) : FX1_size S = some (nI (α 0 5 0)) := by
  obtain ⟨nx, -, -, h, -⟩ := hc
  unfold FX1_size
  simp only [kb, kI_eq, h]
theorem st_count : kst_count Inv := fun n S k a1 hk hI => by
  obtain ⟨α, rfl, hw, hc, hm⟩ := hI
  obtain ⟨t1, t2, t3, t4, t5, t6, t7⟩ := hc.1
  obtain ⟨m1, m2, m3, m4, m5, m6, m7, m8, m9, m10, m11⟩ := hm.1
  have hu := hw.2.2.2.2.2.2.2.1
  have hT := hw.2.2.2.1
  have hp3 := hT.1
  have e2 : ∀ b : Bool, FX5_count_J71 S (b2 b) = some (b2 b) := fun b => by unfold FX5_count_J71; rw [c_asB]; rfl
  have e20 := e2 false
  have e21 := e2 true
  rw [b2_0] at e20
  rw [b2_1] at e21
  unfold FX5_count FX6_count FX4_itemCount FX4_rowCount FX6_count_J75 FX6_count_J89
  simp (disch := omega) only [kb, kI_eq, t1, t2.1, t3.1, t4, m1, m2.1, m3.1, m4, hm.2.2.1.1, hm.2.1.1.1, hm.2.1.1.2, hc.2.1.1.1, hc.2.1.1.2, c_uppermost hc.1 hT, h_size hc.2.2.2.1, Option.bind_some, e20, e21, li_3, nI_t', nI_z]
  split
  · exact ⟨_, rfl, rfl, inv_same rfl hw hc hm⟩
  split
  · by_cases h : α 0 1 0 = 0
    · rw [if_pos h, if_pos h]
      exact ⟨_, rfl, rfl, inv_same rfl hw hc hm⟩
    · rw [if_neg h, if_neg h, (m_top hm.1 hT h).1, (m_top hm.1 hT h).2]
      exact ⟨_, rfl, rfl, inv_same rfl hw hc hm⟩
  split
  · by_cases h : α 0 6 0 < 3
    · rw [if_pos (by omega), if_pos h]
      exact ⟨_, rfl, rfl, inv_same rfl hw hc hm⟩
    · rw [if_neg (by omega), if_neg h]
      exact ⟨_, rfl, rfl, inv_same rfl hw hc hm⟩
  split
  · exact ⟨_, rfl, rfl, inv_same rfl hw hc hm⟩
  split
  · exact ⟨_, rfl, rfl, inv_same rfl hw hc hm⟩
  split
  · exact ⟨_, rfl, rfl, inv_same rfl hw hc hm⟩
  split
  · exact ⟨_, rfl, rfl, inv_same rfl hw hc hm⟩
  split
  · exact ⟨_, rfl, rfl, inv_same rfl hw hc hm⟩
  · exact ⟨_, rfl, rfl, inv_same rfl hw hc hm⟩
theorem st_about : kst_about Inv := fun n S k a1 a2 a3 hk hI => by
  obtain ⟨α, rfl, hw, hc, hm⟩ := hI
  have hN := hw.1
  unfold FX5_about FX6_about
  rcases kcase (α 0 0 0) (by have := hN.1; omega) a1 with ⟨f, hf, rfl⟩ | hx
  · have hF := hc.2.2.2.2 f hf
    obtain ⟨w1, w2, w3, w4⟩ := hN.2.1 f hf
    have hMF := hm.2.2.2.2 f hf
    have hf3 : f < 3 := by have := hN.1; omega
    rw [c_formAt hc hN.1 hf]
    simp only [Option.bind_some, kopt_some, kfm_t hf, kgd_t]
    rcases kcase (α 1 f 0) (by have := w1.1; omega) a2 with ⟨p, hp, rfl⟩ | hy
    · have h5 := w1.1
      have hs := sv_le w1 w2 hp
      have hkd := (w1.2 p hp).1
      rw [c_hasPlace hF w1 hp, m_isPlace hm.1.1 hN.1 hm.2.2.2.1 w1 hf hp]
      simp (disch := omega) only [Option.bind_some, li_5, nI_mul, nI_add, o_ne, if_false]
      rw [m_valueOf hm.2.2.2.1 hMF w1 w2 hf3 hp, c_setOf hF w1 w2 hp, c_sureValue hF w1 w2 hp, c_isWanted hF w1 w2 w3 hp, c_kindOf hF w1 hp, c_sizeOf hF w1 hp, m_isWanted hm.2.2.2.1 hMF w1 w2 w3 hf3 hp]
      simp (disch := omega) only [Option.bind_some, kb, kA_nI, kin_t, kgd_t, hMF.1.1 p hp, hMF.1.2.1 p hp, hm.2.2.2.1.2.2.1 f p hf3, c_asB, FX6_about_J95, FX6_about_J107, FX6_about_J122, FX5_about_J82, nO_m1]
      split
      · simp (disch := omega) only [li_1, nI_e]
        unfold setOf
        by_cases hk1 : α 2 f p = 1
        · rw [if_pos hk1, if_pos hk1]
          by_cases h0 : sv α f p = 0
          · rw [if_pos h0, if_pos h0]
            exact ⟨_, rfl, rfl, inv_same rfl hw hc hm⟩
          · rw [if_neg h0, if_neg h0, nO_31 (by omega) h0, ← li_1, sh_1 _ (by omega)]
            exact ⟨_, rfl, rfl, inv_same rfl hw hc hm⟩
        · rw [if_neg hk1, if_neg hk1]
          exact ⟨_, rfl, rfl, inv_same rfl hw hc hm⟩
      split
      · by_cases h0 : sv α f p = 0
        · rw [if_pos h0, if_pos h0]
          exact ⟨_, rfl, rfl, inv_same rfl hw hc hm⟩
        · rw [if_neg h0, if_neg h0]
          exact ⟨_, rfl, rfl, inv_same rfl hw hc hm⟩
      split
      · cases wanted α f p <;> exact ⟨_, rfl, rfl, inv_same rfl hw hc hm⟩
      split
      · exact ⟨_, rfl, rfl, inv_same rfl hw hc hm⟩
      split
      · exact ⟨_, rfl, rfl, inv_same rfl hw hc hm⟩
      · exact ⟨_, rfl, rfl, inv_same rfl hw hc hm⟩
    · rw [c_hasPlaceN hF w1 hy, m_isPlaceP hm.1.1 hN.1 hm.2.2.2.1 w1 hf hy]
      exact ⟨_, rfl, rfl, inv_same rfl hw hc hm⟩
  · rw [c_formAtN hc hx, m_isPlaceF hm.1.1 hN.1 hx]
    exact ⟨_, rfl, rfl, inv_same rfl hw hc hm⟩
/-- the least word that says a value, and one more -/
def lgo (α : kα) (f p v : Nat) : Nat → Nat → Nat
  | 0, _ => 0
  | k + 1, w => if α 14 f w = p + 1 ∧ α 15 f w = v then w + 1 else lgo α f p v k (w + 1)
theorem c_lgo {α : kα} {S : kS} {o f : Nat} (hF : RF (S o) α f) (hw : wfP α f) (hW : wfW α f) {p v : Nat} (hp : p < 5) (hv : v < 4) : ∀ (k m w : Nat), w + k = 64 → k < m → kfix (fun rec (q : Int32 × Int32 × Int32) => FX0_leastWord_B2 o rec S q.1 q.2.1 q.2.2) m (nI p, nI v, nI w) = some (nO (lgo α f p v k w)) := by
  have h5 := hw.1
  intro k
  induction k with
  | zero =>
    intro m w hk hm
    obtain ⟨m, rfl⟩ : ∃ m', m = m' + 1 := ⟨m - 1, by omega⟩
    rw [kfix_s]
    generalize kfix (fun rec (q : Int32 × Int32 × Int32) => FX0_leastWord_B2 o rec S q.1 q.2.1 q.2.2) m = Rk
    simp (disch := omega) only [FX0_leastWord_B2, li_64, nI_l']
    rw [if_pos (by omega)]
    unfold lgo
    rw [nO_0]
  | succ k ih =>
    intro m w hk hm
    obtain ⟨m, rfl⟩ : ∃ m', m = m' + 1 := ⟨m - 1, by omega⟩
    rw [kfix_s]
    have ihm := ih m (w + 1) (by omega) (by omega)
    clear ih
    generalize kfix (fun rec (q : Int32 × Int32 × Int32) => FX0_leastWord_B2 o rec S q.1 q.2.1 q.2.2) m = Rk at ihm ⊢
    have hlt : w < 64 := by omega
    have hww := hW w hlt
    simp (disch := omega) only [FX0_leastWord_B2, FX0_leastWord_J30, ↓m1_eq, li_64, li_1, nI_l', nI_add, kb, kA_nI, kin_t, kgd_t, hF.2.2.2.1 w hlt, nO_e]
    rw [if_neg (by omega)]
    unfold lgo
    by_cases h1 : α 14 f w = p + 1
    · have hv2 := hww.2 (by omega)
      have hsz := (hw.2 (α 14 f w - 1) (by omega)).2.2.1
      rw [if_pos h1, hF.2.2.2.2 w hlt (by omega)]
      simp (disch := omega) only [nI_e]
      by_cases h2 : α 15 f w = v
      · rw [if_pos h2, if_pos (show α 14 f w = p + 1 ∧ α 15 f w = v from ⟨h1, h2⟩), nO_s]
      · rw [if_neg h2, if_neg (fun h => h2 h.2)]; exact ihm
    · rw [if_neg h1, if_neg (fun h => h1 h.1)]; exact ihm
theorem m_lgo {α : kα} {S : kS} {f : Nat} (hM : MF (S 5) α f) (hw : wfP α f) (hW : wfW α f) (hf : f < 3) {p v : Nat} (hp : p < 5) (hv : v < 4) : ∀ (k m w : Nat), w + k = 64 → k < m → kfix (fun rec (q : Int32 × Int32 × Int32 × Int32) => FX6_said_B15 rec S q.1 q.2.1 q.2.2.1 q.2.2.2) m (nI f, nI p, nI v, nI w) = some (nO (lgo α f p v k w)) := by
  have h5 := hw.1
  intro k
  induction k with
  | zero =>
    intro m w hk hm
    obtain ⟨m, rfl⟩ : ∃ m', m = m' + 1 := ⟨m - 1, by omega⟩
    rw [kfix_s]
    generalize kfix (fun rec (q : Int32 × Int32 × Int32 × Int32) => FX6_said_B15 rec S q.1 q.2.1 q.2.2.1 q.2.2.2) m = Rk
    simp (disch := omega) only [FX6_said_B15, li_64, nI_l']
    rw [if_pos (by omega)]
    unfold lgo
    rw [nO_0]
  | succ k ih =>
    intro m w hk hm
    obtain ⟨m, rfl⟩ : ∃ m', m = m' + 1 := ⟨m - 1, by omega⟩
    rw [kfix_s]
    have ihm := ih m (w + 1) (by omega) (by omega)
    clear ih
    generalize kfix (fun rec (q : Int32 × Int32 × Int32 × Int32) => FX6_said_B15 rec S q.1 q.2.1 q.2.2.1 q.2.2.2) m = Rk at ihm ⊢
    have hlt : w < 64 := by omega
    have hww := hW w hlt
    simp (disch := omega) only [FX6_said_B15, ↓m1_eq, li_64, li_1, li_4, nI_l', nI_mul, nI_add, kb, kA_nI, kin_t, kgd_t, hM.2.2 w hlt]
    rw [if_neg (by omega)]
    unfold lgo
    by_cases h0 : α 14 f w = 0
    · rw [if_pos h0, if_neg (show ¬ (α 14 f w = p + 1 ∧ α 15 f w = v) by omega)]
      simp (disch := omega) only [nO_e]
      rw [if_neg (by omega)]
      exact ihm
    · have hv2 := hww.2 (by omega)
      have hsz := (hw.2 (α 14 f w - 1) (by omega)).2.2.1
      rw [if_neg h0]
      simp (disch := omega) only [nI_e]
      by_cases h2 : α 14 f w = p + 1 ∧ α 15 f w = v
      · rw [if_pos (by omega), if_pos h2, nO_s]
      · rw [if_neg (by omega), if_neg h2]; exact ihm
theorem st_said : kst_said Inv := fun n S k a1 a2 a3 hk hI => by
  obtain ⟨α, rfl, hw, hc, hm⟩ := hI
  have hN := hw.1
  unfold FX5_said FX5_said_J22 FX6_said
  rcases kcase (α 0 0 0) (by have := hN.1; omega) a1 with ⟨f, hf, rfl⟩ | hx
  · have hF := hc.2.2.2.2 f hf
    obtain ⟨w1, w2, w3, w4⟩ := hN.2.1 f hf
    have hMF := hm.2.2.2.2 f hf
    have hf3 : f < 3 := by have := hN.1; omega
    rw [c_formAt hc hN.1 hf]
    simp only [Option.bind_some, kopt_some, kfm_t hf, kgd_t]
    rcases kcase (α 1 f 0) (by have := w1.1; omega) a2 with ⟨p, hp, rfl⟩ | hy
    · have h5 := w1.1
      have hz := (w1.2 p hp).2.2.1
      rcases kcase (α 3 f p) (by omega) a3 with ⟨v, hv, rfl⟩ | hy
      · rw [c_hasValue hF w1 hp hv, m_isValue hm.1.1 hN.1 hm.2.2.2.1 hMF w1 hf hp hv]
        simp only [Option.bind_some, o_ne, if_false]
        unfold FX0_leastWord FX0_leastWord_L2 FX6_said_L15
        have e1 := c_lgo hF w1 w4 (p := p) (v := v) (by omega) (by omega) 64 kfuel 0 (by omega) (by unfold kfuel; omega)
        have e2 := m_lgo hMF w1 w4 hf3 (p := p) (v := v) (by omega) (by omega) 64 kfuel 0 (by omega) (by unfold kfuel; omega)
        rw [nI_0] at e1 e2
        rw [e1, e2]
        exact ⟨_, rfl, rfl, inv_same rfl hw hc hm⟩
      · rw [c_hasValueV hF w1 hp hy, m_isValueV hm.1.1 hN.1 hm.2.2.2.1 hMF w1 hf hp hy]
        exact ⟨_, rfl, rfl, inv_same rfl hw hc hm⟩
    · rw [c_hasValueP hF w1 hy, m_isValueP hm.1.1 hN.1 hm.2.2.2.1 w1 hf hy]
      exact ⟨_, rfl, rfl, inv_same rfl hw hc hm⟩
  · rw [c_formAtN hc hx, m_isValueF hm.1.1 hN.1 hx]
    exact ⟨_, rfl, rfl, inv_same rfl hw hc hm⟩
