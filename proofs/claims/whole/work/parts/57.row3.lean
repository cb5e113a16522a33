/-! row -/
theorem c_lackE {α : kα} {S : kS} {f : Nat} (hR : RR (S 1) α) (hQ : wfQ α) (hI : α 0 3 0 ≤ 20) (hF : RF (S (6 + f)) α f) (hw : wfP α f) : FX4_itemsLackPlace (6 + f) S = some (b2 (lk α f (α 0 4 0) 0)) := by
  have := c_lack hR hQ hI hF hw (α 0 4 0) kfuel 0 (by omega) (by have := hQ.1; unfold kfuel; omega)
  rw [nI_0] at this
  unfold FX4_itemsLackPlace FX4_itemsLackPlace_L2
  exact this
theorem c_nworkedE {α : kα} {S : kS} {f : Nat} (hR : RR (S 1) α) (hQ : wfQ α) (hI : α 0 3 0 ≤ 20) (hF : RF (S (6 + f)) α f) (hw : wfP α f) (hl : ∀ j, j < α 0 4 0 → α 22 j 0 = 1 → α 23 j 0 < α 1 f 0) : FX4_itemsNameWorked (6 + f) S = some (b2 (wk α f false (α 0 4 0) 0)) := by
  have := c_nworked hR hQ hI hF hw hl (α 0 4 0) kfuel 0 (by omega) (by have := hQ.1; unfold kfuel; omega)
  rw [nI_0] at this
  unfold FX4_itemsNameWorked FX4_itemsNameWorked_L2
  exact this
theorem c_nplaceE {α : kα} {S : kS} {f : Nat} (hR : RR (S 1) α) (hQ : wfQ α) (hI : α 0 3 0 ≤ 20) : FX4_itemsNamePlace S = some (b2 (wk α f true (α 0 4 0) 0)) := by
  have := c_nplace (f := f) hR hQ hI (α 0 4 0) kfuel 0 (by omega) (by have := hQ.1; unfold kfuel; omega)
  rw [nI_0] at this
  unfold FX4_itemsNamePlace FX4_itemsNamePlace_L2
  exact this
theorem m_rowE {α : kα} {S : kS} {f : Nat} (hM : RM (S 5) α) (hQ : wfQ α) (h3 : α 0 0 0 ≤ 3) (hf : f < α 0 0 0) (hw : wfP α f) (x y : Int32) (b : Bool) (hb : (FX6_in S x 1 9).bind (fun x2 => if x2 = 0 then FX6_row_J29 S (nI f) x y else ((FX6_in S y 0 2).bind fun x3 => if x3 = 0 then FX6_row_J29 S (nI f) x y else FX6_row_J34 S (nI f) x y 0)) = FX6_row_J34 S (nI f) x y (b2 b)) : FX6_row S (nI f) x y = if lk α f (α 0 4 0) 0 = true then some (-1, S) else if (b || wk α f (decide (y ≠ 0)) (α 0 4 0) 0) = true then some (-2, S) else rowT FX6_row_L202 S (nI f) x y := by
  have := m_rloop hM hQ h3 hf hw x y (decide (y ≠ 0)) (by simp) (α 0 4 0) kfuel 0 b (by omega) (by have := hQ.1; unfold kfuel; omega)
  rw [nI_0] at this
  unfold FX6_row
  rw [m_isForm hM.1.1 h3 hf, Option.bind_some, if_neg (by decide), hb]
  unfold FX6_row_J34 FX6_row_L39
  exact this
theorem lt_bit {S : kS} {x y : Int32} (h : x < 1 ∨ 9 < x ∨ y < 0 ∨ ¬ y ≤ 2) {A B : Option (Int32 × kS)} : (FX6_in S x 1 9).bind (fun x2 => if x2 = 0 then A else ((FX6_in S y 0 2).bind fun x3 => if x3 = 0 then A else B)) = A := by
  rw [m_in, m_in, Option.bind_some, Option.bind_some]
  by_cases h1 : x < 1
  · rw [if_pos h1, if_pos (show (0 : Int32) = 0 from rfl)]
  rw [if_neg h1]
  by_cases h2 : (9 : Int32) < x
  · rw [if_pos h2, if_pos (show (0 : Int32) = 0 from rfl)]
  rw [if_neg h2, if_neg (show ¬ (1 : Int32) = 0 by decide)]
  by_cases h3 : y < 0
  · rw [if_pos h3, if_pos (show (0 : Int32) = 0 from rfl)]
  rw [if_neg h3]
  have h4 : (2 : Int32) < y := by
    have h := ((h.resolve_left h1).resolve_left h2).resolve_left h3
    rw [Int32.lt_iff_toInt_lt]
    rw [Int32.le_iff_toInt_le] at h
    omega
  rw [if_pos h4, if_pos (show (0 : Int32) = 0 from rfl)]
theorem lt_bitG {S : kS} {c t : Nat} (h1 : 1 ≤ c) (h9 : c ≤ 9) (h2 : t ≤ 2) {A B : Option (Int32 × kS)} : (FX6_in S (nI c) 1 9).bind (fun x2 => if x2 = 0 then A else ((FX6_in S (nI t) 0 2).bind fun x3 => if x3 = 0 then A else B)) = B := by
  rw [m_in, m_in, Option.bind_some, Option.bind_some]
  have e1 : ¬ nI c < 1 := by rw [li_1, nI_t' (by omega) (by omega)]; omega
  have e2 : ¬ 9 < nI c := by rw [li_9, nI_t' (by omega) (by omega)]; omega
  have e3 : ¬ nI t < 0 := nI_pos (by omega)
  have e4 : ¬ 2 < nI t := by rw [li_2, nI_t' (by omega) (by omega)]; omega
  rw [if_neg e1, if_neg e2, if_neg (show ¬ (1 : Int32) = 0 by decide), if_neg e3, if_neg e4, if_neg (show ¬ (1 : Int32) = 0 by decide)]
theorem b2_tf (b : Bool) : (b2 b = 0) = (b = false) := by cases b <;> simp [b2]
theorem st_row : kst_row Inv := fun n S k a1 a2 a3 hk hI => by
  obtain ⟨α, rfl, hw, hc, hm⟩ := hI
  have h3 := hw.1.1
  rcases kcase (α 0 0 0) (by omega) a1 with ⟨f, hf, rfl⟩ | hx
  · have hF := hc.2.2.2.2 f hf
    have w1 := (hw.1.2.1 f hf).1
    have hQ := hw.2.2.1
    have hI := hw.2.1.1
    have cl : FX5_row (α 0 0 0) S (nI f) a2 a3 = if lk α f (α 0 4 0) 0 = true then some (-1, S) else if (a2 < 1 ∨ 9 < a2 ∨ a3 < 0 ∨ ¬ a3 ≤ 2) then some (-2, S) else if wk α f (decide (a3 ≠ 0)) (α 0 4 0) 0 = true then some (-2, S) else FX4_addRow S (nI f) a2 a3 := by
      unfold FX5_row FX5_row_J78 FX5_row_J75 FX5_row_J46 FX5_row_J24
      rw [c_formAt hc h3 hf]
      simp only [Option.bind_some, kopt_some, kfm_t hf, kgd_t]
      rw [c_lackE hc.2.1 hQ hI hF w1, Option.bind_some]
      by_cases e : lk α f (α 0 4 0) 0 = true
      · rw [if_neg (show ¬ b2 (lk α f (α 0 4 0) 0) = 0 by rw [e]; decide), if_pos e]
      · have hl : ∀ j, j < α 0 4 0 → α 22 j 0 = 1 → α 23 j 0 < α 1 f 0 := fun j hj => lk_no (α 0 4 0) 0 (by simpa using e) j (by omega) (by omega)
        rw [if_pos (show b2 (lk α f (α 0 4 0) 0) = 0 by rw [b2_tf]; simpa using e), if_neg e, c_nworkedE hc.2.1 hQ hI hF w1 hl, c_nplaceE (f := f) hc.2.1 hQ hI]
        simp only [Option.bind_some, b2_tf]
        have ha : (kb2 (FX4_addRow S (nI f) a2 a3) fun x1 S1 => some (x1, S1)) = FX4_addRow S (nI f) a2 a3 := by
          unfold kb2
          cases FX4_addRow S (nI f) a2 a3 <;> rfl
        rw [ha]
        by_cases h1 : a2 < 1
        · rw [if_pos h1, if_pos (Or.inl h1)]
        by_cases h2 : (9 : Int32) < a2
        · rw [if_neg h1, if_pos h2, if_pos (Or.inr (Or.inl h2))]
        by_cases h3 : a3 < 0
        · rw [if_neg h1, if_neg h2, if_pos h3, if_pos (Or.inr (Or.inr (Or.inl h3)))]
        by_cases h4 : a3 ≤ 2
        · rw [if_neg h1, if_neg h2, if_neg h3, if_pos h4, if_neg (show ¬ (a2 < 1 ∨ 9 < a2 ∨ a3 < 0 ∨ ¬ a3 ≤ 2) from fun h => h.elim h1 (fun h => h.elim h2 (fun h => h.elim h3 (fun h => h h4))))]
          by_cases h5 : a3 = 0
          · rw [if_pos h5, show decide (a3 ≠ 0) = false by simp [h5]]
            cases wk α f false (α 0 4 0) 0 <;> rfl
          · rw [if_neg h5, show decide (a3 ≠ 0) = true by simp [h5]]
            cases hh : wk α f false (α 0 4 0) 0
            · rw [if_pos rfl]
              cases wk α f true (α 0 4 0) 0 <;> rfl
            · rw [wk_mono _ _ hh, if_pos rfl]
              rfl
        · rw [if_neg h1, if_neg h2, if_neg h3, if_neg h4, if_pos (Or.inr (Or.inr (Or.inr h4)))]
    rw [cl]
    by_cases e : lk α f (α 0 4 0) 0 = true
    · refine ⟨-1, S, S, by rw [if_pos e], ?_, inv_same rfl hw hc hm⟩
      rcases row_num a2 a3 with ⟨c, t, h1, h2, h4, rfl, rfl⟩ | hb
      · rw [m_rowE hm hQ h3 hf w1 (nI c) (nI t) false (lt_bitG h1 h2 h4), if_pos e]
      · rw [m_rowE hm hQ h3 hf w1 a2 a3 true (lt_bit hb), if_pos e]
    · rw [if_neg e]
      rcases row_num a2 a3 with ⟨c, t, h1, h2, h4, rfl, rfl⟩ | hb
      · have hgood : ¬ (nI c < 1 ∨ 9 < nI c ∨ nI t < 0 ∨ ¬ nI t ≤ 2) := by
          rw [li_1, li_9, li_2, nI_t' (by omega) (by omega), nI_t' (by omega) (by omega), nI_neg (by omega), nI_l' (by omega) (by omega)]
          simp
          omega
        rw [if_neg hgood]
        have ml : ∀ S' : kS, RM (S' 5) α → FX6_row S' (nI f) (nI c) (nI t) = if wk α f (decide (nI t ≠ 0)) (α 0 4 0) 0 = true then some (-2, S') else rowT FX6_row_L202 S' (nI f) (nI c) (nI t) := fun S' hm => by
          rw [m_rowE hm hQ h3 hf w1 (nI c) (nI t) false (lt_bitG h1 h2 h4), if_neg e, Bool.false_or]
        by_cases ew : wk α f (decide (nI t ≠ 0)) (α 0 4 0) 0 = true
        · exact ⟨-2, S, S, by rw [if_pos ew], by rw [ml S hm, if_pos ew], inv_same rfl hw hc hm⟩
        · rw [if_neg ew]
          have hq4 := hQ.1
          by_cases hq0 : α 0 4 0 = 0
          · refine ⟨-3, S, S, c_addRow0 (by rw [hc.2.1.1.2, hq0, nI_0]) _ _ _, ?_, inv_same rfl hw hc hm⟩
            rw [ml S hm, if_neg ew, rowT_0 _ (by rw [hm.2.1.1.2, hq0, nI_0])]
          · by_cases hR : α 0 3 0 = 20
            · refine ⟨-4, S, S, c_addRow20 hc.2.1.1.2 (by omega) hq4 (by rw [hc.2.1.1.1, hR]; decide +kernel) _ _ _, ?_, inv_same rfl hw hc hm⟩
              rw [ml S hm, if_neg ew, rowT_20 _ hm.2.1.1.2 (by omega) hq4 (by rw [hm.2.1.1.1, hR]; decide +kernel)]
            · have hR : α 0 3 0 < 20 := by omega
              have cr := c_addRow (S := S) hc.2.1.1.2 hc.2.1.1.1 (by omega) hq4 hR (nI f) (nI c) (nI t)
              generalize hS1 : kpI (kpI (kpR (kpR (kpR (kpR S 1 2 (upd ((S 1).2 2) (α 0 3 0) (nI f))) 1 3 (upd ((S 1).2 3) (α 0 3 0) (nI c))) 1 4 (upd ((S 1).2 4) (α 0 3 0) (nI t))) 1 5 (upd ((S 1).2 5) (α 0 3 0) (nI (α 0 4 0)))) 1 1 0) 1 0 (nI (α 0 3 0 + 1)) = S1 at cr
              have x5 : S1 5 = S 5 := by
                rw [← hS1, pI_ne (by omega), pI_ne (by omega), pR_ne (by omega), pR_ne (by omega), pR_ne (by omega), pR_ne (by omega)]
              have hm1 : RM (S1 5) α := by rw [x5]; exact hm
              have rt := rowT_go FX6_row_L202 (S := S1) hm1.2.1.1.2 hm1.2.1.1.1 (by omega) hq4 hR (nI f) (nI c) (nI t)
              obtain ⟨S2, q1, q2, q3, q4, q5, q6⟩ := m_cloop hR hq4 (α 0 4 0) kfuel 0 (kpR (kpR (kpR (kpR S1 5 17 (upd ((S1 5).2 17) (α 0 3 0) (nI f))) 5 18 (upd ((S1 5).2 18) (α 0 3 0) (nI c))) 5 19 (upd ((S1 5).2 19) (α 0 3 0) (nI t))) 5 20 (upd ((S1 5).2 20) (α 0 3 0) (nI (α 0 4 0)))) (by omega) (by unfold kfuel; omega) hm1.2.1.1.2 hm1.2.1.1.1
              refine ⟨nI (α 0 3 0), S1, S2, cr, ?_, ?_⟩
              · rw [ml S1 hm1, if_neg ew, rt]
                unfold FX6_row_L202
                rw [nI_0] at q1
                exact q1
              · have lkf : lk α f (α 0 4 0) 0 = false := by simpa using e
                have wkf : wk α f (decide (nI t ≠ 0)) (α 0 4 0) 0 = false := by simpa using ew
                refine inv_row (f := f) (c := c) (t := t) hw hc hm hf ⟨h1, h2⟩ h4 (by omega) hR (fun i hi h22 => ?_) hS1.symm (fun o ho => ?_) (fun c => ?_) (fun x => ?_) (fun x => ?_) ?_ ?_ ?_ ?_ (fun c hc => ?_)
                · have w := wk_no (α 0 4 0) 0 wkf i (by omega) (by omega) h22
                  refine ⟨lk_no (α 0 4 0) 0 lkf i (by omega) (by omega) h22, w.2, ?_⟩
                  have w' := w.1
                  simp only [ne_eq, decide_not, Bool.not_eq_false', decide_eq_true_eq] at w'
                  rw [nI_z (by omega)] at w'
                  exact w'
                · rw [q2 o ho, pR_ne ho, pR_ne ho, pR_ne ho, pR_ne ho]
                · rw [q3, pR_1, pR_1, pR_1, pR_1, x5]
                · rw [q4 x, ← x5]; rfl
                · rw [q5 x, ← x5]; rfl
                · rw [q6 17 (by omega) (by omega), ← x5]; rfl
                · rw [q6 18 (by omega) (by omega), ← x5]; rfl
                · rw [q6 19 (by omega) (by omega), ← x5]; rfl
                · rw [q6 20 (by omega) (by omega), ← x5]; rfl
                · rw [q6 c (by omega) (by omega), pR_2, if_neg (by omega), pR_2, if_neg (by omega), pR_2, if_neg (by omega), pR_2, if_neg (by omega), x5]
      · refine ⟨-2, S, S, by rw [if_pos hb], ?_, inv_same rfl hw hc hm⟩
        rw [m_rowE hm hQ h3 hf w1 a2 a3 true (lt_bit hb), if_neg e, Bool.true_or, if_pos rfl]
  · refine ⟨-1, S, S, ?_, ?_, inv_same rfl hw hc hm⟩
    · unfold FX5_row
      rw [c_formAtN hc hx]
      rfl
    · unfold FX6_row
      rw [m_isFormN hm.1.1 h3 hx, Option.bind_some, if_pos rfl]
