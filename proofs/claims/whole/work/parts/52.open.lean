/-! open, form -/
theorem tgo_no {α : kα} {f i : Nat} (h : inT α f = false) (hi : i < α 0 1 0) : α 24 i 0 ≠ f := fun e => by
  have := tgo_in (α := α) (f := f) (α 0 1 0) 0 i (by omega) (by omega) e
  unfold inT at h
  rw [this] at h
  cases h
theorem few {α : kα} (w : wfT α) (h3 : α 0 0 0 ≤ 3) {f : Nat} (hf : f < α 0 0 0) (h : inT α f = false) : α 0 1 0 < 3 := by
  rcases Nat.lt_or_ge (α 0 1 0) 3 with q | q
  · exact q
  · have a0 := tgo_no (i := 0) h (by omega)
    have a1 := tgo_no (i := 1) h (by omega)
    have a2 := tgo_no (i := 2) h (by omega)
    have b0 := w.2.1 0 (by omega)
    have b1 := w.2.1 1 (by omega)
    have b2 := w.2.1 2 (by omega)
    have c0 : α 24 0 0 ≠ α 24 1 0 := fun e => by have := w.2.2 0 1 (by omega) (by omega) e; omega
    have c1 : α 24 0 0 ≠ α 24 2 0 := fun e => by have := w.2.2 0 2 (by omega) (by omega) e; omega
    have c2 : α 24 1 0 ≠ α 24 2 0 := fun e => by have := w.2.2 1 2 (by omega) (by omega) e; omega
    omega
theorem m_oloop {f : Nat} (hf : f < 3) : ∀ (k m i : Nat) (S : kS), i + k = 5 → k < m → ∃ S', kfix (fun rec (q : kS × Int32 × Int32) => FX6_open_B43 rec q.1 q.2.1 q.2.2) m (S, nI f, nI i) = some ((S 5).1 25, S') ∧ (∀ o, o ≠ 5 → S' o = S o) ∧ (∀ c, (S' 5).1 c = if c = 29 then -1 else if c = 26 then 0 else (S 5).1 c) ∧ (∀ x, (S' 5).2 7 x = if 5 * f + i ≤ x ∧ x < 5 * f + 5 then 0 else (S 5).2 7 x) ∧ (∀ x, (S' 5).2 8 x = if 5 * f + i ≤ x ∧ x < 5 * f + 5 then 0 else (S 5).2 8 x) ∧ ∀ c, c ≠ 7 → c ≠ 8 → (S' 5).2 c = (S 5).2 c := by
  have e01 : (0 : Int32) &&& 1 = 0 := by decide
  intro k
  induction k with
  | zero =>
    intro m i S hk hm
    obtain ⟨m, rfl⟩ : ∃ m', m = m' + 1 := ⟨m - 1, by omega⟩
    refine ⟨kpI (kpI S 5 26 0) 5 29 (-1), ?_, ?_, ?_, ?_, ?_, ?_⟩
    · rw [kfix_s]
      generalize kfix (fun rec (q : kS × Int32 × Int32) => FX6_open_B43 rec q.1 q.2.1 q.2.2) m = Rk
      simp (disch := omega) only [FX6_open_B43, kb, li_5, nI_l']
      rw [if_pos (by omega)]
      rfl
    · intro o ho
      rw [pI_ne ho, pI_ne ho]
    · intro c
      rw [pI_1, pI_1]
      simp
    · intro x
      rw [if_neg (by omega)]
      rfl
    · intro x
      rw [if_neg (by omega)]
      rfl
    · intro c _ _
      rfl
  | succ k ih =>
    intro m i S hk hm
    obtain ⟨m, rfl⟩ : ∃ m', m = m' + 1 := ⟨m - 1, by omega⟩
    obtain ⟨S', q1, q2, q3, q4, q5, q6⟩ := ih m (i + 1) (kpR (kpR S 5 7 (upd ((S 5).2 7) (5 * f + i) 0)) 5 8 (upd ((S 5).2 8) (5 * f + i) 0)) (by omega) (by omega)
    refine ⟨S', ?_, ?_, q3, ?_, ?_, ?_⟩
    · rw [kfix_s]
      generalize kfix (fun rec (q : kS × Int32 × Int32) => FX6_open_B43 rec q.1 q.2.1 q.2.2) m = Rk at q1 ⊢
      simp (disch := omega) only [FX6_open_B43, kb, li_5, nI_l', nI_mul, nI_add, kin_t, kgd_t, kpA_nI, e01, li_1]
      rw [if_neg (by omega)]
      exact q1
    · intro o ho
      rw [q2 o ho, pR_ne ho, pR_ne ho]
    · intro x
      rw [q4 x]
      show (if _ then 0 else upd ((S 5).2 7) (5 * f + i) 0 x) = _
      rw [upd_eq]
      by_cases h1 : 5 * f + (i + 1) ≤ x ∧ x < 5 * f + 5
      · rw [if_pos h1, if_pos (by omega)]
      · rw [if_neg h1]
        by_cases h2 : x = 5 * f + i
        · rw [if_pos h2, if_pos (by omega)]
        · rw [if_neg h2, if_neg (by omega)]
    · intro x
      rw [q5 x]
      show (if _ then 0 else upd ((S 5).2 8) (5 * f + i) 0 x) = _
      rw [upd_eq]
      by_cases h1 : 5 * f + (i + 1) ≤ x ∧ x < 5 * f + 5
      · rw [if_pos h1, if_pos (by omega)]
      · rw [if_neg h1]
        by_cases h2 : x = 5 * f + i
        · rw [if_pos h2, if_pos (by omega)]
        · rw [if_neg h2, if_neg (by omega)]
    · intro c h7 h8
      rw [q6 c h7 h8, pR_2, if_neg (fun h => h8 h.2), pR_2, if_neg (fun h => h7 h.2)]
def αopen (α : kα) (f : Nat) : kα := au (au (au (au (ac (ac α 6 (fun i j => if i = f then 0 else α 6 i j)) 7 (fun i j => if i = f then 0 else α 7 i j)) 24 (α 0 1 0) 0 f) 0 1 0 (α 0 1 0 + 1)) 0 5 0 0) 0 12 0 0
theorem αopen_6 {α : kα} {f i j : Nat} : αopen α f 6 i j = if i = f then 0 else α 6 i j := rfl
theorem αopen_7 {α : kα} {f i j : Nat} : αopen α f 7 i j = if i = f then 0 else α 7 i j := rfl
theorem αopen_24 {α : kα} {f i : Nat} : αopen α f 24 i 0 = if i = α 0 1 0 then f else α 24 i 0 := by
  show au _ 24 (α 0 1 0) 0 f 24 i 0 = _
  rw [au_eq]
  by_cases h : i = α 0 1 0 <;> simp [h, ac_eq]
theorem αopen_ne {α : kα} {f g : Nat} (hg : g ≠ f) (c j : Nat) (h1 : 1 ≤ c) (h2 : c ≤ 15) : αopen α f c g j = α c g j := by
  unfold αopen
  rw [au_eq, if_neg (by omega), au_eq, if_neg (by omega), au_eq, if_neg (by omega), au_eq, if_neg (by omega), ac_eq]
  by_cases h : c = 7
  · rw [if_pos h, if_neg hg, h]
  · rw [if_neg h, ac_eq]
    by_cases h : c = 6
    · rw [if_pos h, if_neg hg, h]
    · rw [if_neg h]
theorem st_open : kst_open Inv := fun n S k a1 hk hI => by
  obtain ⟨α, rfl, hw, hc, hm⟩ := hI
  have h3 := hw.1.1
  rcases kcase (α 0 0 0) (by omega) a1 with ⟨f, hf, rfl⟩ | hx
  · have hF := hc.2.2.2.2 f hf
    have hf3 : f < 3 := by omega
    by_cases hT : inT α f = true
    · refine ⟨-3, S, S, ?_, ?_, inv_same rfl hw hc hm⟩
      · unfold FX5_open FX5_open_J28
        rw [c_formAt hc h3 hf]
        simp only [Option.bind_some, kopt_some, kfm_t hf, kgd_t]
        rw [c_isInTalk hc.1 hw.2.2.2.1 h3 hf3, hT]
        rfl
      · unfold FX6_open
        rw [m_isForm hm.1.1 h3 hf, m_isOpen hm.1 hw.2.2.2.1 h3 hf3, hT]
        rfl
    · have hT : inT α f = false := by simpa using hT
      have h2 := few hw.2.2.2.1 h3 hf hT
      obtain ⟨w1, w2, w3, w4, w5, w6, w7, w8, w9⟩ := hw
      have hp : α 0 1 0 < 2147483648 := by omega
      let S1 : kS := kpI (kpI (kpI (kpI (kpR (kpR (kpR S (6 + f) 5 (kfill 5 0 ((S (6 + f)).2 5))) (6 + f) 6 (kfill 5 (-1) ((S (6 + f)).2 6))) 0 3 (upd ((S 0).2 3) (α 0 1 0) (nI f))) 0 4 (nI (α 0 1 0 + 1))) 4 3 0) 0 12 (-1)) 0 13 (-1)
      have x5 : S1 5 = S 5 := by
        show kpI (kpI (kpI (kpI (kpR (kpR (kpR S (6 + f) 5 _) (6 + f) 6 _) 0 3 _) 0 4 _) 4 3 0) 0 12 (-1)) 0 13 (-1) 5 = S 5
        rw [pI_ne (by omega), pI_ne (by omega), pI_ne (by omega), pI_ne (by omega), pR_ne (by omega), pR_ne (by omega), pR_ne (by omega)]
      have hm1 : RM (S1 5) α := by rw [x5]; exact hm
      let S2 : kS := kpI (kpR S1 5 24 (upd ((S1 5).2 24) (α 0 1 0) (nI f))) 5 25 (nI (α 0 1 0 + 1))
      obtain ⟨S3, q1, q2, q3, q4, q5, q6⟩ := m_oloop hf3 5 kfuel 0 S2 (by omega) (by unfold kfuel; omega)
      have y0 : S1 0 = ((fun c => if c = 13 then -1 else if c = 12 then -1 else if c = 4 then nI (α 0 1 0 + 1) else (S 0).1 c), fun c => if c = 3 then upd ((S 0).2 3) (α 0 1 0) (nI f) else (S 0).2 c) := by
        refine Prod.ext (funext fun c => ?_) (funext fun c => ?_)
        · show (kpI (kpI (kpI (kpI (kpR (kpR (kpR S (6 + f) 5 _) (6 + f) 6 _) 0 3 _) 0 4 _) 4 3 0) 0 12 (-1)) 0 13 (-1) 0).1 c = _
          simp only [pI_1, pR_1, true_and, show ¬ (0 = 4) by omega, false_and, if_false]
        · show (kpI (kpI (kpI (kpI (kpR (kpR (kpR S (6 + f) 5 _) (6 + f) 6 _) 0 3 _) 0 4 _) 4 3 0) 0 12 (-1)) 0 13 (-1) 0).2 c = _
          simp only [pI_2, pR_2, true_and, show ¬ (0 = 6 + f) by omega, false_and, if_false]
      have yo : ∀ o, o ≠ 0 → o ≠ 4 → o ≠ 6 + f → S1 o = S o := fun o h0 h4 h6 => by
        show kpI (kpI (kpI (kpI (kpR (kpR (kpR S (6 + f) 5 _) (6 + f) 6 _) 0 3 _) 0 4 _) 4 3 0) 0 12 (-1)) 0 13 (-1) o = S o
        rw [pI_ne h0, pI_ne h0, pI_ne h4, pI_ne h0, pR_ne h0, pR_ne h6, pR_ne h6]
      have y6 : S1 (6 + f) = ((S (6 + f)).1, fun c => if c = 6 then kfill 5 (-1) ((S (6 + f)).2 6) else if c = 5 then kfill 5 0 ((S (6 + f)).2 5) else (S (6 + f)).2 c) := by
        show kpI (kpI (kpI (kpI (kpR (kpR (kpR S (6 + f) 5 _) (6 + f) 6 _) 0 3 _) 0 4 _) 4 3 0) 0 12 (-1)) 0 13 (-1) (6 + f) = _
        rw [pI_ne (by omega), pI_ne (by omega), pI_ne (by omega), pI_ne (by omega), pR_ne (by omega)]
        refine Prod.ext (funext fun c => ?_) (funext fun c => ?_)
        · simp only [pR_1]
        · simp only [pR_2, true_and]
      have y4 : S1 4 = ((fun c => if c = 3 then 0 else (S 4).1 c), (S 4).2) := by
        show kpI (kpI (kpI (kpI (kpR (kpR (kpR S (6 + f) 5 _) (6 + f) 6 _) 0 3 _) 0 4 _) 4 3 0) 0 12 (-1)) 0 13 (-1) 4 = _
        rw [pI_ne (by omega), pI_ne (by omega)]
        refine Prod.ext (funext fun c => ?_) ?_
        · simp only [pI_1, pR_1, true_and, show ¬ (4 = 0) by omega, false_and, if_false]
        · rw [pI_2, pI_ne (by omega), pR_ne (by omega), pR_ne (by omega), pR_ne (by omega)]
      have z1 : ∀ c, (S2 5).1 c = if c = 25 then nI (α 0 1 0 + 1) else (S 5).1 c := fun c => by
        show (kpI (kpR S1 5 24 _) 5 25 _ 5).1 c = _
        rw [pI_1, pR_1, x5]
        simp
      have z2 : ∀ c, (S2 5).2 c = if c = 24 then upd ((S 5).2 24) (α 0 1 0) (nI f) else (S 5).2 c := fun c => by
        show (kpI (kpR S1 5 24 _) 5 25 _ 5).2 c = _
        rw [pI_2, pR_2, x5]
        simp
      have M1 : ∀ c, (S3 5).1 c = if c = 29 then -1 else if c = 26 then 0 else if c = 25 then nI (α 0 1 0 + 1) else (S 5).1 c := fun c => by rw [q3, z1]
      have M2 : ∀ c, c ≠ 7 → c ≠ 8 → (S3 5).2 c = if c = 24 then upd ((S 5).2 24) (α 0 1 0) (nI f) else (S 5).2 c := fun c h7 h8 => by rw [q6 c h7 h8, z2]
      refine ⟨nI (α 0 1 0 + 1), S1, S3, ?_, ?_, ?_⟩
      · unfold FX5_open FX5_turnPage FX1_clear FX5_forgetConfirm FX0_empty
        rw [c_formAt hc h3 hf]
        simp only [Option.bind_some, kopt_some, kfm_t hf, kgd_t]
        rw [c_isInTalk hc.1 w4 h3 hf3, hT]
        have e0 : ∀ g, (kpR S (6 + f) 5 g (6 + f)).2 6 = (S (6 + f)).2 6 := fun g => by rw [pR_2, if_neg (by omega)]
        have r0 : ∀ g h, kpR (kpR S (6 + f) 5 g) (6 + f) 6 h 0 = S 0 := fun g h => by rw [pR_ne (by omega), pR_ne (by omega)]
        simp (disch := omega) only [Option.bind_some, b2_0, if_true, kb, kI_eq, hc.1.2.1.1, li_3, nI_t', h2, e0, r0, kin_t, kgd_t, kpA_nI, pR_1, pI_1, and_false, and_true, false_and, Nat.reduceEqDiff, if_false, and_self, li_1, nI_add, show ¬ (0 = 4) by omega]
        rfl
      · unfold FX6_open FX6_open_L43
        rw [m_isForm hm1.1.1 h3 hf, m_isOpen hm1.1 w4 h3 hf3, hT]
        simp (disch := omega) only [Option.bind_some, o_ne, if_false, b2_0, if_true, kb, kI_eq, hm1.1.2.1.1, kin_t, kgd_t, kpA_nI, pR_1, li_1, nI_add]
        rw [nI_0, z1 25, if_pos rfl] at q1
        exact q1
      · refine inv_fin (α := αopen α f) rfl ⟨⟨w1.1, fun g hg => ?_, fun g hg1 hg2 => ?_⟩, w2, w3, ⟨?_, fun i hi => ?_, fun i j hi hj => ?_⟩, w5, ⟨Nat.zero_le _, fun j f p hj => absurd hj (Nat.not_lt_zero _)⟩, fun h => absurd h (Nat.not_lt_zero _), by show α 0 6 0 ≤ k + 1; omega, w9⟩ (S1 := S1) ⟨?_, ?_, ?_, ?_, fun g hg => ?_⟩ (fun o ho => ?_) ⟨?_, ?_, ?_, ?_, fun g hg => ?_⟩
        · have hg : g < α 0 0 0 := hg
          by_cases e : g = f
          · subst e
            obtain ⟨p1, p2, p3, p4⟩ := w1.2.1 g hg
            refine ⟨p1, fun p hp => ?_, p3, p4⟩
            rw [αopen_6, αopen_7, if_pos rfl, if_pos rfl]
            exact ⟨fun h => ⟨Nat.two_pow_pos _, Nat.zero_le _, fun h => absurd h (Nat.not_lt_zero _)⟩, fun _ => ⟨rfl, rfl⟩⟩
          · exact (w1.2.1 g hg).congr (fun c j h1 h2 => αopen_ne e c j h1 h2)
        · have hg1 : α 0 0 0 ≤ g := hg1
          have := w1.2.2 g hg1 hg2
          have e : g ≠ f := by omega
          rw [αopen_ne e 1 0 (by omega) (by omega), αopen_ne e 8 0 (by omega) (by omega)]
          refine ⟨this.1, this.2.1, fun p hp => ?_⟩
          rw [αopen_ne e 6 p (by omega) (by omega), αopen_ne e 7 p (by omega) (by omega)]
          exact this.2.2 p hp
        · show α 0 1 0 + 1 ≤ 3; omega
        · have hi : i < α 0 1 0 + 1 := hi
          rw [αopen_24]
          show _ < α 0 0 0
          by_cases e : i = α 0 1 0
          · rw [if_pos e]; exact hf
          · rw [if_neg e]; exact w4.2.1 i (by omega)
        · have hi : i < α 0 1 0 + 1 := hi
          have hj : j < α 0 1 0 + 1 := hj
          rw [αopen_24, αopen_24]
          by_cases e : i = α 0 1 0
          · rw [if_pos e]
            by_cases e' : j = α 0 1 0
            · intro _; omega
            · rw [if_neg e']
              exact fun h => absurd h.symm (tgo_no hT (by omega))
          · rw [if_neg e]
            by_cases e' : j = α 0 1 0
            · rw [if_pos e']
              exact fun h => absurd h (tgo_no hT (by omega))
            · rw [if_neg e']
              exact w4.2.2 i j (by omega) (by omega)
        · obtain ⟨t1, t2, t3, t4, t5, t6, t7⟩ := hc.1
          rw [y0]
          refine ⟨t1, ⟨rfl, fun i hi => ?_⟩, t3, t4, t5, nO_0.symm, fun h => absurd h (Nat.not_lt_zero _)⟩
          have hi : i < α 0 1 0 + 1 := hi
          show upd ((S 0).2 3) (α 0 1 0) (nI f) i = _
          rw [upd_eq, αopen_24]
          by_cases e : i = α 0 1 0
          · rw [if_pos e, if_pos e]
          · rw [if_neg e, if_neg e]; exact t2.2 i (by omega)
        · rw [yo 1 (by omega) (by omega) (by omega)]; exact hc.2.1
        · rw [yo 2 (by omega) (by omega) (by omega)]; exact hc.2.2.1
        · obtain ⟨nx, h1, h2, h3, h4, h5⟩ := hc.2.2.2.1
          rw [y4]
          exact ⟨nx, h1, h2, nI_0.symm, fun j x hj => absurd hj (Nat.not_lt_zero _), h5⟩
        · have hg : g < α 0 0 0 := hg
          by_cases e : g = f
          · subst e
            obtain ⟨p1, p2, p3⟩ := hF
            rw [y6]
            refine ⟨p1, ⟨fun p hp => ?_, fun p hp => ?_⟩, p3⟩
            · rw [αopen_6, if_pos rfl]
              show kfill 5 0 ((S (6 + g)).2 5) p = _
              unfold kfill
              rw [if_pos hp, nI_0]
            · rw [αopen_7, if_pos rfl]
              show kfill 5 (-1) ((S (6 + g)).2 6) p = _
              unfold kfill
              rw [if_pos hp, nO_0]
          · rw [yo (6 + g) (by omega) (by omega) (by omega)]
            exact (hc.2.2.2.2 g hg).congr (fun c j h1 h2 => αopen_ne e c j h1 h2)
        · rw [q2 o ho]
          show kpI (kpR S1 5 24 _) 5 25 _ o = S1 o
          rw [pI_ne ho, pR_ne ho]
        · obtain ⟨t1, t2, t3, t4, t5, t6, t7, t8⟩ := hm.1
          unfold MT
          simp only [M1]
          rw [M2 24 (by omega) (by omega), M2 32 (by omega) (by omega)]
          refine ⟨t1, ⟨rfl, fun i hi => ?_⟩, t3, t4, t5, nO_0.symm, fun h => absurd h (Nat.not_lt_zero _), t8⟩
          have hi : i < α 0 1 0 + 1 := hi
          show upd ((S 5).2 24) (α 0 1 0) (nI f) i = _
          rw [upd_eq, αopen_24]
          by_cases e : i = α 0 1 0
          · rw [if_pos e, if_pos e]
          · rw [if_neg e, if_neg e]; exact t2.2 i (by omega)
        · unfold MR
          simp only [M1]
          rw [M2 17 (by omega) (by omega), M2 18 (by omega) (by omega), M2 19 (by omega) (by omega), M2 20 (by omega) (by omega), M2 21 (by omega) (by omega), M2 22 (by omega) (by omega)]
          exact hm.2.1
        · unfold MH
          simp only [M1]
          exact ⟨nI_0.symm, fun j x hj => absurd hj (Nat.not_lt_zero _), fun j x hj => absurd hj (Nat.not_lt_zero _)⟩
        · obtain ⟨t1, t2, t3, t4⟩ := hm.2.2.2.1
          unfold MS
          rw [M2 2 (by omega) (by omega), M2 9 (by omega) (by omega)]
          refine ⟨t1, t2, fun g p hg hp => ?_, fun g p hg hp => ?_⟩
          · rw [q4, z2 7, αopen_6]
            by_cases e : g = f
            · rw [if_pos (by omega), if_pos e, nI_0]
            · rw [if_neg (by omega), if_neg e]
              exact t3 g p hg hp
          · rw [q5, z2 8, αopen_7]
            by_cases e : g = f
            · rw [if_pos (by omega), if_pos e, if_pos rfl]
            · rw [if_neg (by omega), if_neg e]
              exact t4 g p hg hp
        · have hg : g < α 0 0 0 := hg
          unfold MF
          rw [M2 3 (by omega) (by omega), M2 4 (by omega) (by omega), M2 5 (by omega) (by omega), M2 6 (by omega) (by omega), M2 10 (by omega) (by omega), M2 11 (by omega) (by omega), M2 12 (by omega) (by omega), M2 13 (by omega) (by omega), M2 14 (by omega) (by omega), M2 15 (by omega) (by omega)]
          exact hm.2.2.2.2 g hg
  · refine ⟨-1, S, S, ?_, ?_, inv_same rfl hw hc hm⟩
    · unfold FX5_open
      rw [c_formAtN hc hx]
      rfl
    · unfold FX6_open
      rw [m_isFormN hm.1.1 h3 hx]
      rfl
