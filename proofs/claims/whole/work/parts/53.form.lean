/-! form; the start -/
theorem m_floop {n : Nat} (hn : n < 3) : ∀ (k m i : Nat) (S : kS), i + k = 64 → k < m → (S 5).1 1 = nI n → ∃ S', kfix (fun rec (q : kS × Int32) => FX6_form_B13 rec q.1 q.2) m (S, nI i) = some (nI n, S') ∧ (∀ o, o ≠ 5 → S' o = S o) ∧ (∀ c, (S' 5).1 c = if c = 1 then nI (n + 1) else (S 5).1 c) ∧ (∀ x, (S' 5).2 15 x = if 64 * n + i ≤ x ∧ x < 64 * n + 64 then -1 else (S 5).2 15 x) ∧ ∀ c, c ≠ 15 → (S' 5).2 c = (S 5).2 c := by
  intro k
  induction k with
  | zero =>
    intro m i S hk hm hS
    obtain ⟨m, rfl⟩ : ∃ m', m = m' + 1 := ⟨m - 1, by omega⟩
    refine ⟨kpI S 5 1 (nI (n + 1)), ?_, ?_, ?_, ?_, ?_⟩
    · rw [kfix_s]
      generalize kfix (fun rec (q : kS × Int32) => FX6_form_B13 rec q.1 q.2) m = Rk
      simp (disch := omega) only [FX6_form_B13, kb, kI_eq, li_64, nI_l', hS, li_1, nI_add, pI_1, and_self, if_true]
      rw [if_pos (by omega), nI_sub (by omega)]
      rfl
    · intro o ho
      rw [pI_ne ho]
    · intro c
      rw [pI_1]
      simp
    · intro x
      rw [if_neg (by omega)]
      rfl
    · intro c _
      rfl
  | succ k ih =>
    intro m i S hk hm hS
    obtain ⟨m, rfl⟩ : ∃ m', m = m' + 1 := ⟨m - 1, by omega⟩
    obtain ⟨S', q1, q2, q3, q4, q6⟩ := ih m (i + 1) (kpR S 5 15 (upd ((S 5).2 15) (64 * n + i) (-1))) (by omega) (by omega) hS
    refine ⟨S', ?_, ?_, q3, ?_, ?_⟩
    · rw [kfix_s]
      generalize kfix (fun rec (q : kS × Int32) => FX6_form_B13 rec q.1 q.2) m = Rk at q1 ⊢
      simp (disch := omega) only [FX6_form_B13, kb, kI_eq, li_64, nI_l', hS, nI_mul, nI_add, kin_t, kgd_t, kpA_nI, li_1]
      rw [if_neg (by omega)]
      exact q1
    · intro o ho
      rw [q2 o ho, pR_ne ho]
    · intro x
      rw [q4 x]
      show (if _ then -1 else upd ((S 5).2 15) (64 * n + i) (-1) x) = _
      rw [upd_eq]
      by_cases h1 : 64 * n + (i + 1) ≤ x ∧ x < 64 * n + 64
      · rw [if_pos h1, if_pos (by omega)]
      · rw [if_neg h1]
        by_cases h2 : x = 64 * n + i
        · rw [if_pos h2, if_pos (by omega)]
        · rw [if_neg h2, if_neg (by omega)]
    · intro c h
      rw [q6 c h, pR_2, if_neg (fun h' => h h'.2)]
def αform (α : kα) : kα := au (ac α 14 (fun i j => if i = α 0 0 0 then 0 else α 14 i j)) 0 0 0 (α 0 0 0 + 1)
theorem αform_ne {α : kα} {g : Nat} (hg : g ≠ α 0 0 0) (c j : Nat) (h1 : 1 ≤ c) (h2 : c ≤ 15) : αform α c g j = α c g j := by
  unfold αform
  rw [au_eq, if_neg (by omega), ac_eq]
  by_cases h : c = 14
  · rw [if_pos h, if_neg hg, h]
  · rw [if_neg h]
theorem αform_14 {α : kα} (j : Nat) : αform α 14 (α 0 0 0) j = 0 := by
  show (if α 0 0 0 = α 0 0 0 then 0 else _) = 0
  rw [if_pos rfl]
theorem st_form : kst_form Inv := fun n S k hk hI => by
  obtain ⟨α, rfl, hw, hc, hm⟩ := hI
  have h3 := hw.1.1
  by_cases hn : α 0 0 0 = 3
  · refine Or.inl ⟨hn, ?_, S, ?_, inv_same rfl hw hc hm⟩
    · show (S 0).1 1 = 3
      rw [hc.1.1, hn]; rfl
    · unfold FX6_form
      simp only [kb, kI_eq, hm.1.1, hn]
      rfl
  · have hn : α 0 0 0 < 3 := by omega
    have x0 : kNew (α 0 0 0) S 0 = ((fun c => if c = 1 then nI (α 0 0 0 + 1) else (S 0).1 c), (S 0).2) := by
      unfold kNew
      rw [va_up_ne _ _ (by omega)]
      refine Prod.ext (funext fun c => ?_) ?_
      · rw [pI_1, li_1, nI_add]; simp
      · rw [pI_2]
    have xo : ∀ o, o ≠ 0 → o ≠ 6 + α 0 0 0 → kNew (α 0 0 0) S o = S o := fun o h0 h6 => by
      unfold kNew
      rw [va_up_ne _ _ h6, pI_ne h0]
    have x6 : kNew (α 0 0 0) S (6 + α 0 0 0) = kU0 := by unfold kNew; rw [va_up_self]
    obtain ⟨S', q1, q2, q3, q4, q6⟩ := m_floop hn 64 kfuel 0 (kNew (α 0 0 0) S) (by omega) (by unfold kfuel; omega) (by rw [xo 5 (by omega) (by omega)]; exact hm.1.1)
    rw [xo 5 (by omega) (by omega)] at q3 q4 q6
    refine Or.inr ⟨hn, hc.1.1, S', ?_, ?_⟩
    · unfold FX6_form FX6_form_L13
      simp (disch := omega) only [kb, kI_eq, xo 5 (show 5 ≠ 0 by omega) (show 5 ≠ 6 + α 0 0 0 by omega), hm.1.1, li_3, nI_e]
      rw [if_neg (by omega), ← nI_0]
      exact q1
    · obtain ⟨w1, w2, w3, w4, w5, w6, w7, w8, w9⟩ := hw
      obtain ⟨z1, z8, z67⟩ := w1.2.2 (α 0 0 0) (Nat.le_refl _) hn
      refine inv_fin (α := αform α) rfl ⟨⟨?_, fun g hg => ?_, fun g hg1 hg2 => ?_⟩, ⟨w2.1, fun r hr => ?_⟩, w3, ⟨w4.1, fun i hi => ?_, w4.2.2⟩, w5, w6, w7, by show α 0 6 0 ≤ k + 1; omega, w9⟩ (S1 := kNew (α 0 0 0) S) ⟨?_, ?_, ?_, ?_, fun g hg => ?_⟩ q2 ⟨?_, ?_, ?_, ?_, fun g hg => ?_⟩
      · show α 0 0 0 + 1 ≤ 3; omega
      · have hg : g < α 0 0 0 + 1 := hg
        by_cases e : g = α 0 0 0
        · subst e
          refine ⟨⟨?_, fun p hp => ?_⟩, fun p hp => ?_, ⟨?_, fun r hr => ?_⟩, fun w hw => ?_⟩
          · show α 1 (α 0 0 0) 0 ≤ 5; omega
          · have hp : p < α 1 (α 0 0 0) 0 := hp
            omega
          · obtain ⟨h6, h7⟩ := z67 p hp
            show cok (αform α) (α 0 0 0) p (α 6 (α 0 0 0) p) (α 7 (α 0 0 0) p)
            rw [h6, h7]
            refine ⟨fun h => ?_, fun _ => ⟨rfl, rfl⟩⟩
            have h1 : p < α 1 (α 0 0 0) 0 := h.1
            omega
          · show α 8 (α 0 0 0) 0 ≤ 6; omega
          · have hr : r < α 8 (α 0 0 0) 0 := hr
            omega
          · rw [αform_14]
            exact ⟨Nat.zero_le _, fun h => absurd h (Nat.not_lt_zero _)⟩
        · exact (w1.2.1 g (by omega)).congr (fun c j h1 h2 => αform_ne e c j h1 h2)
      · have hg1 : α 0 0 0 + 1 ≤ g := hg1
        exact w1.2.2 g (by omega) hg2
      · have hr : r < α 0 3 0 := hr
        obtain ⟨u1, u2⟩ := w2.2 r hr
        exact ⟨Nat.lt_succ_of_lt u1, u2⟩
      · exact Nat.lt_succ_of_lt (w4.2.1 i hi)
      · rw [x0]
        obtain ⟨t1, t2⟩ := hc.1
        exact ⟨rfl, t2⟩
      · rw [xo 1 (by omega) (by omega)]; exact hc.2.1
      · rw [xo 2 (by omega) (by omega)]; exact hc.2.2.1
      · rw [xo 4 (by omega) (by omega)]
        obtain ⟨nx, h1, h2, h3, h4, h5⟩ := hc.2.2.2.1
        refine ⟨nx, h1, h2, h3, h4, fun s f p hs hf => ?_⟩
        have hf : α 0 0 0 + 1 ≤ f := hf
        exact h5 s f p hs (by omega)
      · have hg : g < α 0 0 0 + 1 := hg
        by_cases e : g = α 0 0 0
        · subst e
          rw [x6]
          refine ⟨⟨?_, fun p hp => ?_, fun p hp => ?_, fun p hp => ?_, fun p hp => ?_⟩, ⟨fun p hp => ?_, fun p hp => ?_⟩, ⟨?_, fun p hp => ?_, fun p hp => ?_, fun p hp => ?_, fun p hp => ?_, fun p hp => ?_⟩, fun w hw => ?_, fun w hw h => ?_⟩
          · show (0 : Int32) = nI (α 1 (α 0 0 0) 0)
            rw [z1, nI_0]
          · have hp : p < α 1 (α 0 0 0) 0 := hp
            omega
          · have hp : p < α 1 (α 0 0 0) 0 := hp
            omega
          · have hp : p < α 1 (α 0 0 0) 0 := hp
            omega
          · have hp : p < α 1 (α 0 0 0) 0 := hp
            omega
          · show (0 : Int32) = nI (α 6 (α 0 0 0) p)
            rw [(z67 p hp).1, nI_0]
          · show kfill 5 (-1) (fun _ => 0) p = nO (α 7 (α 0 0 0) p)
            unfold kfill
            rw [(z67 p hp).2, if_pos hp, nO_0]
          · show (0 : Int32) = nI (α 8 (α 0 0 0) 0)
            rw [z8, nI_0]
          · have hp : p < α 8 (α 0 0 0) 0 := hp
            omega
          · have hp : p < α 8 (α 0 0 0) 0 := hp
            omega
          · have hp : p < α 8 (α 0 0 0) 0 := hp
            omega
          · have hp : p < α 8 (α 0 0 0) 0 := hp
            omega
          · have hp : p < α 8 (α 0 0 0) 0 := hp
            omega
          · rw [αform_14]
            show kfill 64 (-1) (fun _ => 0) w = nO 0
            unfold kfill
            rw [if_pos hw, nO_0]
          · rw [αform_14] at h
            exact absurd h (Nat.not_lt_zero _)
        · rw [xo (6 + g) (by omega) (by omega)]
          exact (hc.2.2.2.2 g (by omega)).congr (fun c j h1 h2 => αform_ne e c j h1 h2)
      · unfold MT
        simp only [q3]
        rw [q6 24 (by omega), q6 32 (by omega)]
        obtain ⟨t1, t2⟩ := hm.1
        exact ⟨rfl, t2⟩
      · unfold MR
        simp only [q3]
        rw [q6 17 (by omega), q6 18 (by omega), q6 19 (by omega), q6 20 (by omega), q6 21 (by omega), q6 22 (by omega)]
        exact hm.2.1
      · unfold MH
        simp only [q3]
        rw [q6 27 (by omega), q6 28 (by omega)]
        exact hm.2.2.1
      · unfold MS
        rw [q6 2 (by omega), q6 9 (by omega), q6 7 (by omega), q6 8 (by omega)]
        exact hm.2.2.2.1
      · have hg : g < α 0 0 0 + 1 := hg
        unfold MF
        rw [q6 3 (by omega), q6 4 (by omega), q6 5 (by omega), q6 6 (by omega), q6 10 (by omega), q6 11 (by omega), q6 12 (by omega), q6 13 (by omega), q6 14 (by omega)]
        by_cases e : g = α 0 0 0
        · subst e
          refine ⟨⟨fun p hp => ?_, fun p hp => ?_, fun p hp => ?_, fun p hp => ?_⟩, ⟨fun p hp => ?_, fun p hp => ?_, fun p hp => ?_, fun p hp => ?_, fun p hp => ?_⟩, fun w hw => ?_⟩
          · have hp : p < α 1 (α 0 0 0) 0 := hp
            omega
          · have hp : p < α 1 (α 0 0 0) 0 := hp
            omega
          · have hp : p < α 1 (α 0 0 0) 0 := hp
            omega
          · have hp : p < α 1 (α 0 0 0) 0 := hp
            omega
          · have hp : p < α 8 (α 0 0 0) 0 := hp
            omega
          · have hp : p < α 8 (α 0 0 0) 0 := hp
            omega
          · have hp : p < α 8 (α 0 0 0) 0 := hp
            omega
          · have hp : p < α 8 (α 0 0 0) 0 := hp
            omega
          · have hp : p < α 8 (α 0 0 0) 0 := hp
            omega
          · rw [αform_14, if_pos rfl, q4, if_pos (by omega)]
        · obtain ⟨p1, p2, p3⟩ := hm.2.2.2.2 g (by omega)
          refine ⟨p1, p2, fun w hw => ?_⟩
          rw [q4, if_neg (by omega), αform_ne e 14 w (by omega) (by omega), αform_ne e 15 w (by omega) (by omega)]
          exact p3 w hw
theorem kS0_fill (x : Nat) (h : x < 150) : kfill 150 (-1) (fun _ => 0) x = (-1 : Int32) := by unfold kfill; rw [if_pos h]
theorem inv_start : Inv 0 kS0 0 := by
  refine ⟨fun _ _ _ => 0, rfl, ⟨⟨Nat.zero_le _, fun f hf => absurd hf (Nat.not_lt_zero _), fun f _ _ => ⟨rfl, rfl, fun p _ => ⟨rfl, rfl⟩⟩⟩, ⟨Nat.zero_le _, fun r hr => absurd hr (Nat.not_lt_zero _)⟩, ⟨Nat.zero_le _, fun r hr => absurd hr (Nat.not_lt_zero _)⟩, ⟨Nat.zero_le _, fun r hr => absurd hr (Nat.not_lt_zero _), fun i j hi => absurd hi (Nat.not_lt_zero _)⟩, ⟨Nat.zero_le _, fun r hr => absurd hr (Nat.not_lt_zero _)⟩, ⟨Nat.zero_le _, fun j f p hr => absurd hr (Nat.not_lt_zero _)⟩, fun h => absurd h (Nat.not_lt_zero _), Nat.zero_le _, Nat.zero_le _⟩, ⟨?_, ?_, ?_, ?_, fun f hf => absurd hf (Nat.not_lt_zero _)⟩, ⟨?_, ?_, ?_, ?_, fun f hf => absurd hf (Nat.not_lt_zero _)⟩⟩
  · exact ⟨nI_0.symm, ⟨nI_0.symm, fun i hi => absurd hi (Nat.not_lt_zero _)⟩, ⟨nI_0.symm, fun i hi => absurd hi (Nat.not_lt_zero _)⟩, nI_0.symm, nO_0.symm, nO_0.symm, fun h => absurd h (Nat.not_lt_zero _)⟩
  · exact ⟨⟨nI_0.symm, nI_0.symm⟩, ⟨fun r hr => absurd hr (Nat.not_lt_zero _), fun r hr => absurd hr (Nat.not_lt_zero _), fun r hr => absurd hr (Nat.not_lt_zero _), fun r hr => absurd hr (Nat.not_lt_zero _)⟩, ⟨fun r i hr => absurd hr (Nat.not_lt_zero _), fun r i hr => absurd hr (Nat.not_lt_zero _)⟩, ⟨fun r hr => absurd hr (Nat.not_lt_zero _), fun r hr => absurd hr (Nat.not_lt_zero _)⟩⟩
  · exact ⟨nI_0.symm, nI_0.symm, nI_0.symm, nI_0.symm⟩
  · exact ⟨0, by omega, nI_0.symm, nI_0.symm, fun j x hj => absurd hj (Nat.not_lt_zero _), fun s f p hs _ hf hp => ⟨rfl, kS0_fill _ (by omega)⟩⟩
  · exact ⟨nI_0.symm, ⟨nI_0.symm, fun i hi => absurd hi (Nat.not_lt_zero _)⟩, ⟨nI_0.symm, fun i hi => absurd hi (Nat.not_lt_zero _)⟩, nI_0.symm, nO_0.symm, nO_0.symm, fun h => absurd h (Nat.not_lt_zero _), nI_0.symm, nI_0.symm, nI_0.symm, nI_0.symm⟩
  · exact ⟨⟨nI_0.symm, nI_0.symm⟩, ⟨fun r hr => absurd hr (Nat.not_lt_zero _), fun r hr => absurd hr (Nat.not_lt_zero _), fun r hr => absurd hr (Nat.not_lt_zero _), fun r hr => absurd hr (Nat.not_lt_zero _)⟩, ⟨fun r i hr => absurd hr (Nat.not_lt_zero _), fun r i hr => absurd hr (Nat.not_lt_zero _)⟩, ⟨fun r hr => absurd hr (Nat.not_lt_zero _), fun r hr => absurd hr (Nat.not_lt_zero _)⟩⟩
  · exact ⟨nI_0.symm, fun j x hj => absurd hj (Nat.not_lt_zero _), fun j x hj => absurd hj (Nat.not_lt_zero _)⟩
  · exact ⟨fun _ _ => nI_0.symm, fun _ _ => nI_0.symm, fun _ _ _ _ => nI_0.symm, fun _ _ _ _ => rfl⟩
