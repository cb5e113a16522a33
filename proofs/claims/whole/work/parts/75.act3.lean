/-! act: the step -/
theorem st_act : kst_act Inv := fun n S k hk hI => by
  obtain ⟨α, rfl, hw, hc, hm⟩ := hI
  have h3 := hw.1.1
  have hT := hw.2.2.2.1
  have hp3 := hT.1
  by_cases h0 : α 0 1 0 = 0
  · refine ⟨-3, S, S, ?_, ?_, inv_same rfl hw hc hm⟩
    · unfold FX5_act
      rw [c_uppermost hc.1 hT, if_pos h0, Option.bind_some, c_formAtN hc (Or.inl (by decide))]
      rfl
    · unfold FX6_act
      rw [ma_shape FX6_act_L31 S (nI (α 0 1 0)) hm.1.2.1.1, if_pos (by rw [h0, nI_0])]
  · have hf : top α < α 0 0 0 := hT.2.1 _ (by omega)
    have hf3 : top α < 3 := by omega
    obtain ⟨w1, w2, w3, w4⟩ := hw.1.2.1 _ hf
    have h5 := w1.1
    generalize hfe : top α = f at hf hf3 w1 w2 w3 w4 h5
    have hF := hc.2.2.2.2 f hf
    generalize hS1 : kpI (kpI S 0 12 (-1)) 0 13 (-1) = S1
    have x1 : ∀ o, o ≠ 0 → S1 o = S o := fun o ho => by rw [← hS1, pI_ne ho, pI_ne ho]
    have x01 : ∀ c, (S1 0).1 c = if c = 13 then -1 else if c = 12 then -1 else (S 0).1 c := fun c => by rw [← hS1, pI_1, pI_1]; simp
    have x02 : (S1 0).2 = (S 0).2 := by rw [← hS1, pI_2, pI_2]
    have hF1 : RF (S1 (6 + f)) α f := by rw [x1 _ (by omega)]; exact hF
    have hm1 : RM (S1 5) α := by rw [x1 5 (by omega)]; exact hm
    have hq := c_questions hF1 w1 w2 w3
    have hcf := c_toConfirm hF1 w1 w2 w3
    have cl : FX5_act (α 0 0 0) S = if asks α f = 0 then some (0, S1) else if cf α f (α 1 f 0) 0 = 0 then (kb2 (FX2_placeToAsk (6 + f) S1) fun x4 S2 => some (((200 : Int32) + ((10 : Int32) * x4)), S2)) else (kb (kpI S1 0 12 (nO (cf α f (α 1 f 0) 0))) fun S3 => (FX0_leastValue (6 + f) S3 (nO (cf α f (α 1 f 0) 0))).bind fun x5 => kb (kpI S3 0 13 x5) fun S4 => kb (kI S4 0 12) fun x6 => kb (kI S4 0 13) fun x7 => some ((((100 : Int32) + ((10 : Int32) * x6)) + x7), S4)) := by
      have hcl : cf α f (α 1 f 0) 0 ≤ 5 := by
        rcases Nat.decEq (cf α f (α 1 f 0) 0) 0 with e | e
        · have := (cf_yes _ _ e).1; omega
        · omega
      have hfc : FX5_forgetConfirm S = some S1 := by rw [← hS1]; rfl
      have hql := qm_lt α f
      unfold FX5_act
      rw [c_uppermost hc.1 hT, if_neg h0, Option.bind_some, hfe, c_formAt hc h3 hf]
      simp only [Option.bind_some, kopt_some, kfm_t hf, kgd_t, hfc, hq, hcf]
      by_cases e : asks α f = 0
      · rw [if_pos e, if_pos (by rw [nI_z (by omega), qm_0]; exact e)]
      · rw [if_neg e, if_neg (by rw [nI_z (by omega), qm_0]; exact e)]
        by_cases e2 : cf α f (α 1 f 0) 0 = 0
        · rw [if_pos e2, if_pos (by rw [nO_m1 (by omega)]; exact e2)]
        · rw [if_neg e2, if_neg (by rw [nO_m1 (by omega)]; exact e2)]
    rw [cl]
    by_cases e : asks α f = 0
    · rw [if_pos e]
      refine ⟨0, S1, kpI S1 5 29 (-1), rfl, ?_, ?_⟩
      · rw [m_actE hw hm1 h0, hfe, if_pos (cf_asks h5 e), if_pos e]
      · refine inv_act (S := S1) (S1 := S) (p := 0) (v := 0) hw hc hm1 (fun h => absurd h (Nat.not_lt_zero _)) (fun o h5 h0 => by rw [pI_ne h5]; exact x1 o h0) (fun c h12 h13 => by rw [pI_ne (by omega), x01, if_neg h13, if_neg h12]) (by rw [pI_ne (by omega)]; exact x02) (by rw [pI_ne (by omega), x01, nO_0]; rfl) (fun h => absurd h (Nat.not_lt_zero _)) (fun c h _ => by rw [pI_1, if_neg (fun q => h q.2)]) (fun c _ _ _ => by rw [pI_2]) (by unfold MS; rw [pI_2]; exact hm1.2.2.2.1) (by rw [pI_1, if_pos ⟨rfl, rfl⟩, nO_0]) (fun h => absurd h (Nat.not_lt_zero _))
    · rw [if_neg e]
      by_cases e2 : cf α f (α 1 f 0) 0 = 0
      · rw [if_pos e2]
        obtain ⟨S2, a1, a2⟩ := c_toAsk hF1 w1 w3 w2
        have hm2 : RM (S2 5) α := by rw [a2.1 5 (by omega) (by omega)]; exact hm1
        obtain ⟨S3, b1, b2⟩ := m_forget (S := kpI S2 5 29 (-1)) (α := α) (f := f) (by unfold MS; rw [pI_2]; exact hm2.2.2.2.1)
        obtain ⟨S4, c1, c2⟩ := m_askloop (S0 := kpI S2 5 29 (-1)) (by unfold MF; rw [pI_2]; exact hm2.2.2.2.2 f hf) w1 w3 w2 hf3 (α 1 f 0) kfuel 0 0 0 10000 S3 (by omega) (by unfold kfuel; omega) (by omega) (by omega) rfl b2
        refine ⟨200 + 10 * nO (bst α f (α 1 f 0) 0 0 0), S2, S4, by rw [a1, kb2_some], ?_, ?_⟩
        · rw [m_actE hw hm2 h0, hfe, if_pos e2, if_neg e, b1, Option.bind_some]
          unfold FX6_act_L159
          rw [nI_0, nO_0, show nI 10000 = 10000 by decide +kernel] at c1
          exact c1
        · have hRC : RC (va_up S2 0 (S 0)) α := by
            refine ⟨by rw [va_up_self]; exact hc.1, ?_, ?_, ?_, fun g hg => ?_⟩
            · rw [va_up_ne _ _ (by omega), a2.1 1 (by omega) (by omega), x1 1 (by omega)]; exact hc.2.1
            · rw [va_up_ne _ _ (by omega), a2.1 2 (by omega) (by omega), x1 2 (by omega)]; exact hc.2.2.1
            · rw [va_up_ne _ _ (by omega), a2.1 4 (by omega) (by omega), x1 4 (by omega)]; exact hc.2.2.2.1
            · rw [va_up_ne _ _ (by omega)]
              by_cases eg : g = f
              · subst eg; exact PC_RF a2 (sameB_refl _ _) hF1
              · rw [a2.1 (6 + g) (by omega) (by omega), x1 _ (by omega)]; exact hc.2.2.2.2 g hg
          have y0 : S4 0 = S1 0 := by rw [c2.1 0 (by omega), pI_ne (by omega), a2.1 0 (by omega) (by omega)]
          refine inv_act (S := S2) (S1 := va_up S2 0 (S 0)) (p := 0) (v := 0) hw hRC hm2 (fun h => absurd h (Nat.not_lt_zero _)) (fun o h5 h0 => by rw [c2.1 o h5, pI_ne h5, va_up_ne _ _ h0]) (fun c h12 h13 => by rw [y0, x01, if_neg h13, if_neg h12, va_up_self]) (by rw [y0, x02, va_up_self]) (by rw [y0, x01, nO_0]; rfl) (fun h => absurd h (Nat.not_lt_zero _)) (fun c h _ => by rw [c2.2.1, pI_1, if_neg (fun q => h q.2)]) (fun c h7 h8 h44 => by rw [c2.2.2.1 c h7 h8 h44, pI_2]) c2.2.2.2.1 (by rw [c2.2.1, pI_1, if_pos ⟨rfl, rfl⟩, nO_0]) (fun h => absurd h (Nat.not_lt_zero _))
      · rw [if_neg e2]
        obtain ⟨q1, q2⟩ := cf_yes _ _ e2
        generalize hcv : cf α f (α 1 f 0) 0 = c at *
        obtain ⟨p, rfl⟩ : ∃ p, c = p + 1 := ⟨c - 1, by omega⟩
        rw [Nat.add_sub_cancel] at q2
        unfold cfd at q2
        simp only [Bool.and_eq_true, decide_eq_true_eq] at q2
        obtain ⟨ha, h6, h2⟩ := q2
        obtain ⟨p1, p7, _⟩ := ask_p ha
        have pk := ask_w ha
        have hz := w1.2 p p1
        have hs6 := (w2 p (by omega)).1 ⟨p1, pk⟩
        have h16 := (wf_su w1 w2 (show p < 5 by omega)).2.1
        have hlow := low_sz (α 3 f p) (by omega) (α 6 f p) hs6.1 h6
        have hso : setOf α f p = α 6 f p := by unfold setOf; rw [if_neg pk]
        have hF3 : RF (kpI S1 0 12 (nI p) (6 + f)) α f := by rw [pI_ne (by omega)]; exact hF1
        have hlv : FX0_leastValue (6 + f) (kpI S1 0 12 (nI p)) (nI p) = some (nI (low (α 6 f p))) := by
          unfold FX0_leastValue
          rw [c_setOf hF3 w1 w2 p1, Option.bind_some, hso]
          exact c_least4 _ _ h16 h6
        generalize hS2 : kpI (kpI S1 0 12 (nI p)) 0 13 (nI (low (α 6 f p))) = S2
        have y5 : S2 5 = S1 5 := by rw [← hS2, pI_ne (by omega), pI_ne (by omega)]
        have hm2 : RM (S2 5) α := by rw [y5]; exact hm1
        refine ⟨100 + 10 * nI p + nI (low (α 6 f p)), S2, kpI (kpI (kpI S2 5 29 (-1)) 5 29 (nI p)) 5 30 (nI (low (α 6 f p))), ?_, ?_, ?_⟩
        · rw [nO_s]
          simp only [kb, hlv, Option.bind_some, hS2]
          rw [← hS2]
          rfl
        · have := m_actE hw hm2 h0
          rw [hfe, hcv, if_neg (by omega), Nat.add_sub_cancel] at this
          exact this
        · have z0 : ∀ c, (S2 0).1 c = if c = 13 then nI (low (α 6 f p)) else if c = 12 then nI p else (S1 0).1 c := fun c => by rw [← hS2, pI_1, pI_1]; simp
          refine inv_act (S := S2) (S1 := S) (p := p + 1) (v := low (α 6 f p)) hw hc hm2 (fun _ => by rw [hfe, Nat.add_sub_cancel]; exact ⟨by omega, p1, pk, p7, hlow⟩) (fun o h5 h0 => by rw [pI_ne h5, pI_ne h5, pI_ne h5, ← hS2, pI_ne h0, pI_ne h0]; exact x1 o h0) (fun c h12 h13 => by rw [pI_ne (by omega), pI_ne (by omega), pI_ne (by omega), z0, if_neg h13, if_neg h12, x01, if_neg h13, if_neg h12]) (by rw [pI_ne (by omega), pI_ne (by omega), pI_ne (by omega), ← hS2, pI_2, pI_2]; exact x02) (by rw [pI_ne (by omega), pI_ne (by omega), pI_ne (by omega), z0, nO_s]; rfl) (fun _ => by rw [pI_ne (by omega), pI_ne (by omega), pI_ne (by omega), z0]; rfl) (fun c h h' => by rw [pI_1, if_neg (fun q => h' q.2), pI_1, if_neg (fun q => h q.2), pI_1, if_neg (fun q => h q.2)]) (fun c _ _ _ => by rw [pI_2, pI_2, pI_2]) (by unfold MS; rw [pI_2, pI_2, pI_2]; exact hm2.2.2.2.1) (by rw [pI_1, if_neg (by omega), pI_1, if_pos ⟨rfl, rfl⟩, nO_s]) (fun _ => by rw [pI_1, if_pos ⟨rfl, rfl⟩])
