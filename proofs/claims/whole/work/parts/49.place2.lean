/-! place, worked -/
theorem inv_add {α : kα} {S S1 S2 : kS} {f kd z a b k : Nat} (hw : WF α k) (hc : RC S α) (hm : RM (S 5) α) (hf : f < α 0 0 0) (hT : inT α f = false) (h5 : α 1 f 0 < 5) (hk : kd ≤ 2) (hz : 2 ≤ z ∧ z ≤ 4) (hab : kd = 1 → a < α 1 f 0 ∧ b < α 1 f 0 ∧ α 2 f a ≠ 1 ∧ α 2 f b ≠ 1)
    (q0 : ∀ o', o' ≠ 6 + f → S1 o' = S o') (q1 : (S1 (6 + f)).1 0 = nI (α 1 f 0 + 1)) (q7 : (S1 (6 + f)).1 7 = (S (6 + f)).1 7) (qa : (S1 (6 + f)).2 1 = upd ((S (6 + f)).2 1) (α 1 f 0) (nI kd)) (qb : (S1 (6 + f)).2 2 = upd ((S (6 + f)).2 2) (α 1 f 0) (nI z)) (qc : (S1 (6 + f)).2 3 = upd ((S (6 + f)).2 3) (α 1 f 0) (nI a)) (qd : (S1 (6 + f)).2 4 = upd ((S (6 + f)).2 4) (α 1 f 0) (nI b)) (qe : ∀ k, 5 ≤ k → (S1 (6 + f)).2 k = (S (6 + f)).2 k)
    (t0 : ∀ o', o' ≠ 5 → S2 o' = S1 o') (t1 : (S2 5).1 = (S 5).1) (t2 : (S2 5).2 2 = upd ((S 5).2 2) f (nI (α 1 f 0 + 1))) (t3 : (S2 5).2 3 = upd ((S 5).2 3) (5 * f + α 1 f 0) (nI kd)) (t4 : (S2 5).2 4 = upd ((S 5).2 4) (5 * f + α 1 f 0) (nI z))
    (t5 : ∀ x, (kd = 1 → x = 5 * f + α 1 f 0 → (S2 5).2 5 x = nI (5 * f + a)) ∧ (x ≠ 5 * f + α 1 f 0 → (S2 5).2 5 x = (S 5).2 5 x)) (t6 : ∀ x, (kd = 1 → x = 5 * f + α 1 f 0 → (S2 5).2 6 x = nI (5 * f + b)) ∧ (x ≠ 5 * f + α 1 f 0 → (S2 5).2 6 x = (S 5).2 6 x))
    (t7 : (S2 5).2 7 = upd ((S 5).2 7) (5 * f + α 1 f 0) 0) (t8 : (S2 5).2 8 = upd ((S 5).2 8) (5 * f + α 1 f 0) 0) (t9 : ∀ k, 9 ≤ k → (S2 5).2 k = (S 5).2 k) : Inv (α 0 0 0) S2 (k + 1) := by
  have h3 := hw.1.1
  have hcell := (hw.1.2.1 f hf).2.1 (α 1 f 0) h5
  have hz0 := hcell.2 (by omega)
  refine inv_fin (α := αadd α f kd z a b) rfl (wf_add hw hf hT h5 hk hz hab) (S1 := S1) ⟨?_, ?_, ?_, ?_, fun g hg => ?_⟩ t0 ⟨?_, ?_, ?_, ?_, fun g hg => ?_⟩
  · rw [q0 0 (by omega)]; exact hc.1
  · rw [q0 1 (by omega)]; exact hc.2.1
  · rw [q0 2 (by omega)]; exact hc.2.2.1
  · rw [q0 4 (by omega)]; exact hc.2.2.2.1
  · have hg : g < α 0 0 0 := hg
    by_cases e : g = f
    · subst e
      exact RF_add (hc.2.2.2.2 g hg) q1 q7 qa qb qc qd qe
    · rw [q0 (6 + g) (by omega)]
      exact (hc.2.2.2.2 g hg).congr (fun c j _ _ => αadd_ne e c j)
  · unfold MT; rw [t1, t9 24 (by omega), t9 32 (by omega)]; exact hm.1
  · unfold MR; rw [t1, t9 17 (by omega), t9 18 (by omega), t9 19 (by omega), t9 20 (by omega), t9 21 (by omega), t9 22 (by omega)]; exact hm.2.1
  · unfold MH; rw [t1, t9 27 (by omega), t9 28 (by omega)]; exact hm.2.2.1
  · obtain ⟨m1, m2, m3, m4⟩ := hm.2.2.2.1
    refine ⟨fun g hg => ?_, fun g hg => ?_, fun g p hg hp => ?_, fun g p hg hp => ?_⟩
    · rw [t2, upd_eq]
      by_cases e : g = f
      · subst e; rw [if_pos rfl, αadd_1]
      · rw [if_neg e, αadd_ne e]; exact m1 g hg
    · rw [t9 9 (by omega)]; exact m2 g hg
    · rw [t7, upd_eq]
      show _ = nI (α 6 g p)
      by_cases e : 5 * g + p = 5 * f + α 1 f 0
      · rw [if_pos e, show g = f by omega, show p = α 1 f 0 by omega, hz0.1, nI_0]
      · rw [if_neg e]; exact m3 g p hg hp
    · rw [t8, upd_eq]
      show _ = if α 7 g p = 0 then 0 else 1
      by_cases e : 5 * g + p = 5 * f + α 1 f 0
      · rw [if_pos e, show g = f by omega, show p = α 1 f 0 by omega, hz0.2, if_pos rfl]
      · rw [if_neg e]; exact m4 g p hg hp
  · have hg : g < α 0 0 0 := hg
    exact MF_add (hm.2.2.2.2 g hg) h5 (hw.1.2.1 g hg).1.1 t3 t4 t5 t6 (fun k hk => t9 k (by omega))
theorem c_addPlaceF {α : kα} {S : kS} {o f : Nat} (hF : RF (S o) α f) (h5 : α 1 f 0 = 5) (x y z w : Int32) : FX0_addPlace o S x y z w = some (-4, S) := by
  unfold FX0_addPlace
  simp only [kb, kI_eq, hF.1.1, h5]
  rfl
theorem c_placeJ {α : kα} {S : kS} {f : Nat} (hw : wfT α) (hc : RC S α) (h3 : α 0 0 0 ≤ 3) (hf : f < α 0 0 0) {x : Int32} (hx : x = 0 ∨ x = 2) (y : Int32) : FX5_place (α 0 0 0) S (nI f) x y = FX5_place_J23 (α 0 0 0) S (nI f) x y (6 + f) := by
  unfold FX5_place
  rw [c_formAt hc h3 hf]
  simp only [Option.bind_some, kopt_some, kfm_t hf, kgd_t]
  rcases hx with rfl | rfl
  · rfl
  · rfl
theorem m_placeJ {α : kα} {S : kS} {f : Nat} (hc : RM (S 5) α) (h3 : α 0 0 0 ≤ 3) (hf : f < α 0 0 0) {x : Int32} (hx : x = 0 ∨ x = 2) (y : Int32) : FX6_place S (nI f) x y = FX6_place_J19 S (nI f) x y := by
  unfold FX6_place
  rw [m_isForm hc.1.1 h3 hf]
  simp only [Option.bind_some, o_ne, if_false]
  rcases hx with rfl | rfl
  · rfl
  · rfl
theorem st_place : kst_place Inv := fun n S k a1 a2 a3 hk hI => by
  obtain ⟨α, rfl, hw, hc, hm⟩ := hI
  have h3 := hw.1.1
  rcases kcase (α 0 0 0) (by omega) a1 with ⟨f, hf, rfl⟩ | hx
  · have hF := hc.2.2.2.2 f hf
    have hf3 : f < 3 := by omega
    have w1 := (hw.1.2.1 f hf).1
    have hp5 := w1.1
    by_cases hx : a2 = 0 ∨ a2 = 2
    · obtain ⟨kd, hkd, rfl, hk1⟩ : ∃ kd, kd ≤ 2 ∧ a2 = nI kd ∧ kd ≠ 1 := by
        rcases hx with rfl | rfl
        · exact ⟨0, by omega, rfl, by omega⟩
        · exact ⟨2, by omega, rfl, by omega⟩
      rw [c_placeJ hw.2.2.2.1 hc h3 hf hx]
      rcases size_cases S a3 with ⟨z, hz1, hz2, rfl, hin⟩ | hin
      · by_cases hT : inT α f = true
        · refine ⟨-3, S, S, ?_, ?_, inv_same rfl hw hc hm⟩
          · unfold FX5_place_J23
            rw [c_isSize, hin, Option.bind_some, c_isInTalk hc.1 hw.2.2.2.1 h3 hf3, hT]
            rfl
          · rw [m_placeJ hm h3 hf hx]
            unfold FX6_place_J19
            rw [hin, Option.bind_some, m_isOpen hm.1 hw.2.2.2.1 h3 hf3, hT]
            rfl
        · have hT : inT α f = false := by simpa using hT
          by_cases h5 : α 1 f 0 < 5
          · obtain ⟨S1, c0, c1, c2, c3, c4, c5, c6, c7, c8⟩ := c_addPlace (S := S) hF h5 (nI kd) (nI z) 0 0
            have e5 : S1 5 = S 5 := c1 5 (by omega)
            have hm1 : RM (S1 5) α := by rw [e5]; exact hm
            obtain ⟨S2, d0, d1, d2, d3, d4, d5, d6, d7, d8⟩ := m_comes (S := S1) hm1.2.2.2.1 hf3 h5 (nI kd) (nI z)
            refine ⟨nI (α 1 f 0), S1, S2, ?_, ?_, ?_⟩
            · unfold FX5_place_J23
              rw [c_isSize, hin, Option.bind_some, c_isInTalk hc.1 hw.2.2.2.1 h3 hf3, hT, c0]
              rfl
            · rw [m_placeJ hm1 h3 hf hx]
              unfold FX6_place_J19
              have hin1 : FX6_in S1 (nI z) 2 4 = some 1 := by rw [m_in] at hin ⊢; exact hin
              rw [hin1, Option.bind_some, m_isOpen hm1.1 hw.2.2.2.1 h3 hf3, hT, d0]
              simp (disch := omega) only [Option.bind_some, o_ne, if_false, b2_0, if_true, kin_t, kgd_t, kb, kA_nI, hm1.2.2.2.1.1 f hf3, li_5, nI_e, show ¬ α 1 f 0 = 5 by omega, kb2_some]
              rfl
            · rw [e5] at d2 d3 d4 d5 d6 d7 d8
              exact inv_add (a := 0) (b := 0) hw hc hm hf hT h5 hkd ⟨hz1, hz2⟩ (fun e => absurd e hk1) c1 c2 c3 c4 c5 (by rw [c6, nI_0]) (by rw [c7, nI_0]) c8 d1 d2 d3 d4 d5 (fun x => ⟨fun e => absurd e hk1, fun _ => by rw [d8 5 (by omega) (by omega) (by omega) (by omega) (by omega)]⟩) (fun x => ⟨fun e => absurd e hk1, fun _ => by rw [d8 6 (by omega) (by omega) (by omega) (by omega) (by omega)]⟩) d6 d7 (fun k hk => d8 k (by omega) (by omega) (by omega) (by omega) (by omega))
          · have h5 : α 1 f 0 = 5 := by omega
            refine ⟨-4, S, S, ?_, ?_, inv_same rfl hw hc hm⟩
            · unfold FX5_place_J23
              rw [c_isSize, hin, Option.bind_some, c_isInTalk hc.1 hw.2.2.2.1 h3 hf3, hT, c_addPlaceF hF h5]
              rfl
            · rw [m_placeJ hm h3 hf hx]
              unfold FX6_place_J19 FX6_place_J64
              rw [hin, Option.bind_some, m_isOpen hm.1 hw.2.2.2.1 h3 hf3, hT]
              simp (disch := omega) only [Option.bind_some, o_ne, if_false, b2_0, if_true, kin_t, kgd_t, kb, kA_nI, hm.2.2.2.1.1 f hf3, h5, li_5]
      · refine ⟨-2, S, S, ?_, ?_, inv_same rfl hw hc hm⟩
        · unfold FX5_place_J23
          rw [c_isSize, hin]
          rfl
        · rw [m_placeJ hm h3 hf hx]
          unfold FX6_place_J19
          rw [hin]
          rfl
    · refine ⟨-2, S, S, ?_, ?_, inv_same rfl hw hc hm⟩
      · unfold FX5_place
        rw [c_formAt hc h3 hf]
        simp only [Option.bind_some, kopt_some, kfm_t hf, kgd_t]
        rw [if_neg (fun e => hx (Or.inl e)), if_neg (fun e => hx (Or.inr e))]
        rfl
      · unfold FX6_place
        rw [m_isForm hm.1.1 h3 hf]
        simp only [Option.bind_some, o_ne, if_false]
        rw [if_neg (fun e => hx (Or.inl e)), if_neg (fun e => hx (Or.inr e))]
        rfl
  · refine ⟨-1, S, S, ?_, ?_, inv_same rfl hw hc hm⟩
    · unfold FX5_place
      rw [c_formAtN hc hx]
      rfl
    · unfold FX6_place
      rw [m_isFormN hm.1.1 h3 hx]
      rfl
theorem b2_d0 {P : Prop} [Decidable P] : (b2 (decide P) = 0) = ¬ P := by
  by_cases h : P <;> simp [h, b2]
theorem st_worked : kst_worked Inv := fun n S k a1 a2 a3 a4 hk hI => by
  obtain ⟨α, rfl, hw, hc, hm⟩ := hI
  have h3 := hw.1.1
  rcases kcase (α 0 0 0) (by omega) a1 with ⟨f, hf, rfl⟩ | hx
  · have hF := hc.2.2.2.2 f hf
    have hMF := hm.2.2.2.2 f hf
    have hf3 : f < 3 := by omega
    have w1 := (hw.1.2.1 f hf).1
    have hp5 := w1.1
    rcases kcase (α 1 f 0) (by omega) a3 with ⟨p, hp, rfl⟩ | hy
    · rcases kcase (α 1 f 0) (by omega) a4 with ⟨q, hq, rfl⟩ | hy
      · have k1 := (w1.2 p hp).1
        have k2 := (w1.2 q hq).1
        have cl : ∀ S' : kS, RC S' α → FX5_worked (α 0 0 0) S' (nI f) a2 (nI p) (nI q) = ((FX6_in S' a2 2 4).bind fun x3 => if x3 = 0 then some (-2, S') else if α 2 f p = 1 then some (-2, S') else if α 2 f q = 1 then some (-2, S') else if inT α f = true then some (-3, S') else FX0_addPlace (6 + f) S' 1 a2 (nI p) (nI q)) := fun S' hc => by
          have hF := hc.2.2.2.2 f hf
          unfold FX5_worked FX5_worked_J59
          rw [c_formAt hc h3 hf]
          simp only [Option.bind_some, kopt_some, kfm_t hf, kgd_t]
          rw [c_hasPlace hF w1 hp, c_hasPlace hF w1 hq, c_isSize, c_isWorked hF w1 hp, c_isWorked hF w1 hq, c_isInTalk hc.1 hw.2.2.2.1 h3 hf3]
          simp only [Option.bind_some, o_ne, if_false, b2_d0]
          refine congrArg _ (funext fun x => ?_)
          split
          · rfl
          · by_cases e1 : α 2 f p = 1
            · rw [if_neg (by simpa using e1), if_pos e1]
            · rw [if_pos e1, if_neg e1]
              by_cases e2 : α 2 f q = 1
              · rw [if_neg (by simpa using e2), if_pos e2]
              · rw [if_pos e2, if_neg e2]
                cases inT α f
                · simp only [b2_0, kb2, if_true, Bool.false_eq_true, if_false]
                  cases FX0_addPlace (6 + f) S' 1 a2 (nI p) (nI q) <;> rfl
                · simp [b2_1]
        have ml : ∀ S' : kS, RM (S' 5) α → FX6_worked S' (nI f) a2 (nI p) (nI q) = ((FX6_in S' a2 2 4).bind fun x3 => if x3 = 0 then some (-2, S') else if α 2 f p = 1 then some (-2, S') else if α 2 f q = 1 then some (-2, S') else if inT α f = true then some (-3, S') else if α 1 f 0 = 5 then some (-4, S') else (kb2 (FX6_comes S' (nI f) (1 : Int32) a2) fun x8 S1 => kgd (kin (((5 : Int32) * nI f) + x8) 15) <| kb (kpA S1 5 5 (((5 : Int32) * nI f) + x8) (((5 : Int32) * nI f) + nI p)) fun S2 => kgd (kin (((5 : Int32) * nI f) + x8) 15) <| kb (kpA S2 5 6 (((5 : Int32) * nI f) + x8) (((5 : Int32) * nI f) + nI q)) fun S3 => some (x8, S3))) := fun S' hm => by
          have hMF := hm.2.2.2.2 f hf
          unfold FX6_worked FX6_worked_J59
          rw [m_isPlace hm.1.1 h3 hm.2.2.2.1 w1 hf hp, m_isPlace hm.1.1 h3 hm.2.2.2.1 w1 hf hq, m_isOpen hm.1 hw.2.2.2.1 h3 hf3]
          simp only [Option.bind_some, o_ne, if_false]
          refine congrArg _ (funext fun x => ?_)
          have e15 : kin ((5 : Int32) * nI f + nI p) 15 = true := by rw [li_5, nI_mul, nI_add]; exact kin_t (by omega) (by omega)
          have f15 : kin ((5 : Int32) * nI f + nI q) 15 = true := by rw [li_5, nI_mul, nI_add]; exact kin_t (by omega) (by omega)
          have ea : kA S' 5 3 ((5 : Int32) * nI f + nI p) = nI (α 2 f p) := by rw [li_5, nI_mul, nI_add, kA_nI (by omega)]; exact hMF.1.1 p hp
          have fa : kA S' 5 3 ((5 : Int32) * nI f + nI q) = nI (α 2 f q) := by rw [li_5, nI_mul, nI_add, kA_nI (by omega)]; exact hMF.1.1 q hq
          have ee : (nI (α 2 f p) = 1) = (α 2 f p = 1) := by rw [li_1, nI_e (by omega) (by omega)]
          have fe : (nI (α 2 f q) = 1) = (α 2 f q = 1) := by rw [li_1, nI_e (by omega) (by omega)]
          have pe : (nI (α 1 f 0) = 5) = (α 1 f 0 = 5) := by rw [li_5, nI_e (by omega) (by omega)]
          simp (disch := omega) only [e15, f15, ea, fa, kgd_t, kb, ee, fe, kin_t, kA_nI, hm.2.2.2.1.1 f hf3, pe]
          split
          · rfl
          · split
            · rfl
            · split
              · rfl
              · cases inT α f
                · simp [b2_0]
                · simp [b2_1]
        rw [cl S hc]
        rcases size_cases S a2 with ⟨z, hz1, hz2, rfl, hin⟩ | hin
        · rw [hin, Option.bind_some, if_neg (by decide)]
          by_cases e1 : α 2 f p = 1
          · exact ⟨-2, S, S, by rw [if_pos e1], by rw [ml S hm, hin, Option.bind_some, if_neg (by decide), if_pos e1], inv_same rfl hw hc hm⟩
          · by_cases e2 : α 2 f q = 1
            · exact ⟨-2, S, S, by rw [if_neg e1, if_pos e2], by rw [ml S hm, hin, Option.bind_some, if_neg (by decide), if_neg e1, if_pos e2], inv_same rfl hw hc hm⟩
            · by_cases hT : inT α f = true
              · exact ⟨-3, S, S, by rw [if_neg e1, if_neg e2, if_pos hT], by rw [ml S hm, hin, Option.bind_some, if_neg (by decide), if_neg e1, if_neg e2, if_pos hT], inv_same rfl hw hc hm⟩
              · by_cases h5 : α 1 f 0 = 5
                · exact ⟨-4, S, S, by rw [if_neg e1, if_neg e2, if_neg hT, c_addPlaceF hF h5], by rw [ml S hm, hin, Option.bind_some, if_neg (by decide), if_neg e1, if_neg e2, if_neg hT, if_pos h5], inv_same rfl hw hc hm⟩
                · have h5' : α 1 f 0 < 5 := by omega
                  obtain ⟨S1, c0, c1, c2, c3, c4, c5, c6, c7, c8⟩ := c_addPlace (S := S) hF h5' 1 (nI z) (nI p) (nI q)
                  have x5 : S1 5 = S 5 := c1 5 (by omega)
                  have hm1 : RM (S1 5) α := by rw [x5]; exact hm
                  obtain ⟨S2, d0, d1, d2, d3, d4, d5, d6, d7, d8⟩ := m_comes (S := S1) hm1.2.2.2.1 hf3 h5' 1 (nI z)
                  have hin1 : FX6_in S1 (nI z) 2 4 = some 1 := by rw [m_in] at hin ⊢; exact hin
                  refine ⟨nI (α 1 f 0), S1, kpR (kpR S2 5 5 (upd ((S2 5).2 5) (5 * f + α 1 f 0) (nI (5 * f + p)))) 5 6 (upd ((S2 5).2 6) (5 * f + α 1 f 0) (nI (5 * f + q))), ?_, ?_, ?_⟩
                  · rw [if_neg e1, if_neg e2, if_neg hT, c0]
                  · rw [ml S1 hm1, hin1, Option.bind_some, if_neg (by decide), if_neg e1, if_neg e2, if_neg hT, if_neg h5, d0]
                    simp (disch := omega) only [kb2_some, li_5, nI_mul, nI_add, kin_t, kgd_t, kpA_nI, kb, pR_2, and_false, Nat.reduceEqDiff, if_false]
                  · rw [x5] at d2 d3 d4 d5 d6 d7 d8
                    refine inv_add (S1 := S1) (a := p) (b := q) (kd := 1) hw hc hm hf (by simpa using hT) h5' (by omega) ⟨hz1, hz2⟩ (fun _ => ⟨hp, hq, e1, e2⟩) c1 c2 c3 (by rw [c4]; rfl) c5 c6 c7 c8 (fun o ho => by rw [pR_ne ho, pR_ne ho]; exact d1 o ho) ?_ ?_ ?_ ?_ ?_ ?_ ?_ ?_ ?_
                    · rw [← d2]; rfl
                    · rw [← d3]; rfl
                    · rw [← li_1, ← d4]; rfl
                    · rw [← d5]; rfl
                    · intro x
                      rw [pR_2, if_neg (by omega), pR_2, if_pos ⟨rfl, rfl⟩, upd_eq]
                      refine ⟨fun _ e => by rw [if_pos e], fun e => ?_⟩
                      rw [if_neg e, d8 5 (by omega) (by omega) (by omega) (by omega) (by omega)]
                    · intro x
                      rw [pR_2, if_pos ⟨rfl, rfl⟩, upd_eq]
                      refine ⟨fun _ e => by rw [if_pos e], fun e => ?_⟩
                      rw [if_neg e, d8 6 (by omega) (by omega) (by omega) (by omega) (by omega)]
                    · rw [← d6]; rfl
                    · rw [← d7]; rfl
                    · intro k hk
                      rw [pR_2, if_neg (by omega), pR_2, if_neg (by omega)]
                      exact d8 k (by omega) (by omega) (by omega) (by omega) (by omega)
        · refine ⟨-2, S, S, ?_, ?_, inv_same rfl hw hc hm⟩
          · rw [hin]; rfl
          · rw [ml S hm, hin]; rfl
      · refine ⟨-1, S, S, ?_, ?_, inv_same rfl hw hc hm⟩
        · unfold FX5_worked
          rw [c_formAt hc h3 hf]
          simp only [Option.bind_some, kopt_some, kfm_t hf, kgd_t]
          rw [c_hasPlace hF w1 hp, c_hasPlaceN hF w1 hy]
          rfl
        · unfold FX6_worked
          rw [m_isPlace hm.1.1 h3 hm.2.2.2.1 w1 hf hp, m_isPlaceP hm.1.1 h3 hm.2.2.2.1 w1 hf hy]
          rfl
    · refine ⟨-1, S, S, ?_, ?_, inv_same rfl hw hc hm⟩
      · unfold FX5_worked
        rw [c_formAt hc h3 hf]
        simp only [Option.bind_some, kopt_some, kfm_t hf, kgd_t]
        rw [c_hasPlaceN hF w1 hy]
        rfl
      · unfold FX6_worked
        rw [m_isPlaceP hm.1.1 h3 hm.2.2.2.1 w1 hf hy]
        rfl
  · refine ⟨-1, S, S, ?_, ?_, inv_same rfl hw hc hm⟩
    · unfold FX5_worked
      rw [c_formAtN hc hx]
      rfl
    · unfold FX6_worked
      rw [m_isPlaceF hm.1.1 h3 hx]
      rfl
