/-! word, close, open -/
def αword (α : kα) (f p v w : Nat) : kα := au (au α 14 f w (p + 1)) 15 f w v
theorem αword_ne {α : kα} {f p v w g : Nat} (hg : g ≠ f) (c j : Nat) : αword α f p v w c g j = α c g j := by
  unfold αword
  simp [au_eq, hg]
theorem αword_14 {α : kα} {f p v w : Nat} (j : Nat) : αword α f p v w 14 f j = if j = w then p + 1 else α 14 f j := by
  unfold αword
  simp [au_eq]
theorem αword_15 {α : kα} {f p v w : Nat} (j : Nat) : αword α f p v w 15 f j = if j = w then v else α 15 f j := by
  unfold αword
  simp [au_eq]
theorem inv_word {α : kα} {S : kS} {f p v w k : Nat} (hw : WF α k) (hc : RC S α) (hm : RM (S 5) α) (hf : f < α 0 0 0) (hp : p < α 1 f 0) (hv : v < α 3 f p) (hk : α 2 f p ≠ 1) (hw6 : w < 64) {S1 S2 : kS} (e1 : S1 = kpR (kpR S (6 + f) 13 (upd ((S (6 + f)).2 13) w (nI p))) (6 + f) 14 (upd ((S (6 + f)).2 14) w (nI v))) (e2 : S2 = kpR S1 5 15 (upd ((S1 5).2 15) (64 * f + w) (nI (4 * p + v)))) : Inv (α 0 0 0) S2 (k + 1) := by
  subst e1
  subst e2
  have h3 := hw.1.1
  have x5 : kpR (kpR S (6 + f) 13 (upd ((S (6 + f)).2 13) w (nI p))) (6 + f) 14 (upd ((S (6 + f)).2 14) w (nI v)) 5 = S 5 := by rw [pR_ne (by omega), pR_ne (by omega)]
  obtain ⟨w1, w2, w3, w4, w5, w6, w7, w8, w9⟩ := hw
  refine inv_fin (α := αword α f p v w) rfl ⟨⟨w1.1, fun g hg => ?_, w1.2.2⟩, w2, w3, w4, w5, w6, w7, by show α 0 6 0 ≤ k + 1; omega, w9⟩ (S1 := kpR (kpR S (6 + f) 13 (upd ((S (6 + f)).2 13) w (nI p))) (6 + f) 14 (upd ((S (6 + f)).2 14) w (nI v))) ⟨?_, ?_, ?_, ?_, fun g hg => ?_⟩ (fun o ho => by rw [pR_ne ho]) ?_
  · have hg : g < α 0 0 0 := hg
    by_cases e : g = f
    · subst e
      obtain ⟨p1, p2, p3, p4⟩ := w1.2.1 g hg
      refine ⟨p1, p2, p3, fun j hj => ?_⟩
      rw [αword_14, αword_15]
      show _ ≤ α 1 g 0 ∧ (_ → α 2 g _ ≠ 1 ∧ _ < α 3 g _)
      by_cases e : j = w
      · simp only [if_pos e, Nat.add_sub_cancel]
        exact ⟨hp, fun _ => ⟨hk, hv⟩⟩
      · simp only [if_neg e]
        exact p4 j hj
    · exact (w1.2.1 g hg).congr (fun c j _ _ => αword_ne e c j)
  · rw [pR_ne (by omega), pR_ne (by omega)]; exact hc.1
  · rw [pR_ne (by omega), pR_ne (by omega)]; exact hc.2.1
  · rw [pR_ne (by omega), pR_ne (by omega)]; exact hc.2.2.1
  · rw [pR_ne (by omega), pR_ne (by omega)]; exact hc.2.2.2.1
  · have hg : g < α 0 0 0 := hg
    by_cases e : g = f
    · subst e
      obtain ⟨p1, p2, p3, p4, p5⟩ := hc.2.2.2.2 g hg
      have o1 : ∀ c, c ≠ 13 → c ≠ 14 → (kpR (kpR S (6 + g) 13 (upd ((S (6 + g)).2 13) w (nI p))) (6 + g) 14 (upd ((S (6 + g)).2 14) w (nI v)) (6 + g)).2 c = (S (6 + g)).2 c := fun c h1 h2 => by
        rw [pR_2, if_neg (fun h => h2 h.2), pR_2, if_neg (fun h => h1 h.2)]
      unfold RF
      rw [o1 1 (by omega) (by omega), o1 2 (by omega) (by omega), o1 3 (by omega) (by omega), o1 4 (by omega) (by omega), o1 5 (by omega) (by omega), o1 6 (by omega) (by omega), o1 8 (by omega) (by omega), o1 9 (by omega) (by omega), o1 10 (by omega) (by omega), o1 11 (by omega) (by omega), o1 12 (by omega) (by omega), pR_1, pR_1, pR_1, pR_1]
      refine ⟨p1, p2, p3, fun j hj => ?_, fun j hj => ?_⟩
      · rw [pR_2, if_neg (by omega), pR_2, if_pos ⟨rfl, rfl⟩, upd_eq, αword_14]
        by_cases e : j = w
        · rw [if_pos e, if_pos e, nO_s]
        · rw [if_neg e, if_neg e]; exact p4 j hj
      · rw [pR_2, if_pos ⟨rfl, rfl⟩, upd_eq, αword_14, αword_15]
        by_cases e : j = w
        · rw [if_pos e, if_pos e, if_pos e]; intro _; rfl
        · rw [if_neg e, if_neg e, if_neg e]; exact p5 j hj
    · rw [pR_ne (by omega), pR_ne (by omega)]
      exact (hc.2.2.2.2 g hg).congr (fun c j _ _ => αword_ne e c j)
  · have o1 : ∀ c, c ≠ 15 → (kpR (kpR (kpR S (6 + f) 13 (upd ((S (6 + f)).2 13) w (nI p))) (6 + f) 14 (upd ((S (6 + f)).2 14) w (nI v))) 5 15 (upd ((kpR (kpR S (6 + f) 13 (upd ((S (6 + f)).2 13) w (nI p))) (6 + f) 14 (upd ((S (6 + f)).2 14) w (nI v)) 5).2 15) (64 * f + w) (nI (4 * p + v))) 5).2 c = (S 5).2 c := fun c hc => by
      rw [pR_2, if_neg (fun h => hc h.2), x5]
    have o15 : (kpR (kpR (kpR S (6 + f) 13 (upd ((S (6 + f)).2 13) w (nI p))) (6 + f) 14 (upd ((S (6 + f)).2 14) w (nI v))) 5 15 (upd ((kpR (kpR S (6 + f) 13 (upd ((S (6 + f)).2 13) w (nI p))) (6 + f) 14 (upd ((S (6 + f)).2 14) w (nI v)) 5).2 15) (64 * f + w) (nI (4 * p + v))) 5).2 15 = upd ((S 5).2 15) (64 * f + w) (nI (4 * p + v)) := by
      rw [pR_2, if_pos ⟨rfl, rfl⟩, x5]
    have on : ∀ c, (kpR (kpR (kpR S (6 + f) 13 (upd ((S (6 + f)).2 13) w (nI p))) (6 + f) 14 (upd ((S (6 + f)).2 14) w (nI v))) 5 15 (upd ((kpR (kpR S (6 + f) 13 (upd ((S (6 + f)).2 13) w (nI p))) (6 + f) 14 (upd ((S (6 + f)).2 14) w (nI v)) 5).2 15) (64 * f + w) (nI (4 * p + v))) 5).1 c = (S 5).1 c := fun c => by
      rw [pR_1, x5]
    generalize (kpR (kpR (kpR S (6 + f) 13 (upd ((S (6 + f)).2 13) w (nI p))) (6 + f) 14 (upd ((S (6 + f)).2 14) w (nI v))) 5 15 (upd ((kpR (kpR S (6 + f) 13 (upd ((S (6 + f)).2 13) w (nI p))) (6 + f) 14 (upd ((S (6 + f)).2 14) w (nI v)) 5).2 15) (64 * f + w) (nI (4 * p + v))) 5) = M at o1 o15 on
    refine ⟨?_, ?_, ?_, ?_, fun g hg => ?_⟩
    · unfold MT; simp only [on]; rw [o1 24 (by omega), o1 32 (by omega)]; exact hm.1
    · unfold MR; simp only [on]; rw [o1 17 (by omega), o1 18 (by omega), o1 19 (by omega), o1 20 (by omega), o1 21 (by omega), o1 22 (by omega)]; exact hm.2.1
    · unfold MH; simp only [on]; rw [o1 27 (by omega), o1 28 (by omega)]; exact hm.2.2.1
    · unfold MS; rw [o1 2 (by omega), o1 9 (by omega), o1 7 (by omega), o1 8 (by omega)]; exact hm.2.2.2.1
    · have hg : g < α 0 0 0 := hg
      obtain ⟨p1, p2, p3⟩ := hm.2.2.2.2 g hg
      unfold MF
      rw [o1 3 (by omega), o1 4 (by omega), o1 5 (by omega), o1 6 (by omega), o1 10 (by omega), o1 11 (by omega), o1 12 (by omega), o1 13 (by omega), o1 14 (by omega), o15]
      refine ⟨p1, p2, fun j hj => ?_⟩
      rw [upd_eq]
      by_cases e : g = f
      · subst e
        rw [αword_14, αword_15]
        by_cases e : j = w
        · rw [if_pos (by omega), if_pos e, if_pos e, if_neg (by omega), Nat.add_sub_cancel]
        · rw [if_neg (by omega), if_neg e, if_neg e]; exact p3 j hj
      · rw [if_neg (by omega), αword_ne e, αword_ne e]; exact p3 j hj
theorem st_word : kst_word Inv := fun n S k a1 a2 a3 a4 hk hI => by
  obtain ⟨α, rfl, hw, hc, hm⟩ := hI
  have h3 := hw.1.1
  rcases kcase (α 0 0 0) (by omega) a1 with ⟨f, hf, rfl⟩ | hx
  · have hF := hc.2.2.2.2 f hf
    have hMF := hm.2.2.2.2 f hf
    have hf3 : f < 3 := by omega
    have w1 := (hw.1.2.1 f hf).1
    have w4 := (hw.1.2.1 f hf).2.2.2
    have hp5 := w1.1
    rcases kcase (α 1 f 0) (by omega) a2 with ⟨p, hp, rfl⟩ | hy
    · rcases kcase (α 3 f p) (by have := (w1.2 p hp).2.2.1; omega) a3 with ⟨v, hv, rfl⟩ | hy
      · have hk2 := (w1.2 p hp).1
        have hz4 := (w1.2 p hp).2.2.1
        have fe : (nI (α 2 f p) = 1) = (α 2 f p = 1) := by rw [li_1, nI_e (by omega) (by omega)]
        rcases kcase 64 (by omega) a4 with ⟨w, hw6, rfl⟩ | hy
        · have hw4 := (w4 w hw6).1
          have hw15 := (w4 w hw6).2
          have cl : FX5_word (α 0 0 0) S (nI f) (nI p) (nI v) (nI w) = if α 2 f p = 1 then some (-2, S) else if α 14 f w = 0 then some (0, kpR (kpR S (6 + f) 13 (upd ((S (6 + f)).2 13) w (nI p))) (6 + f) 14 (upd ((S (6 + f)).2 14) w (nI v))) else some (-3, S) := by
            unfold FX5_word FX0_placeSaidBy FX0_placeSaidBy_J17 FX0_teach FX0_teach_J21
            rw [c_formAt hc h3 hf]
            simp only [Option.bind_some, kopt_some, kfm_t hf, kgd_t]
            rw [c_hasValue hF w1 hp hv, c_isWord S hw6, c_isWorked hF w1 hp]
            simp (disch := omega) only [Option.bind_some, o_ne, if_false, b2_d0, kin_t, kgd_t, kb, kA_nI, hF.2.2.2.1 w hw6, nO_m1, kpA_nI, pR_2, and_false, Nat.reduceEqDiff]
            by_cases e2 : α 2 f p = 1
            · rw [if_neg (by simpa using e2), if_pos e2]
            · rw [if_pos e2, if_neg e2]
          have ml : ∀ S' : kS, RM (S' 5) α → FX6_word S' (nI f) (nI p) (nI v) (nI w) = if α 2 f p = 1 then some (-2, S') else if α 14 f w = 0 then some (0, kpR S' 5 15 (upd ((S' 5).2 15) (64 * f + w) (nI (4 * p + v)))) else some (-3, S') := fun S' hm => by
            have hMF := hm.2.2.2.2 f hf
            unfold FX6_word
            rw [m_isValue hm.1.1 h3 hm.2.2.2.1 hMF w1 hf hp hv, m_word S' hw6]
            simp (disch := omega) only [Option.bind_some, o_ne, if_false, nI_e, li_5, li_64, li_4, nI_mul, nI_add, kin_t, kgd_t, kb, kA_nI, hMF.1.1 p hp, fe, hMF.2.2 w hw6, kpA_nI]
            split
            · rfl
            · by_cases e : α 14 f w = 0
              · rw [if_pos e, if_pos rfl, if_pos e]
              · rw [if_neg e, if_neg e, if_neg]
                rw [m1_eq, nI_eO (by have := hw15 (by omega); have := (w1.2 (α 14 f w - 1) (by omega)).2.2.1; omega) (by omega)]
                omega
          rw [cl]
          by_cases e2 : α 2 f p = 1
          · exact ⟨-2, S, S, by rw [if_pos e2], by rw [ml S hm, if_pos e2], inv_same rfl hw hc hm⟩
          · by_cases e : α 14 f w = 0
            · refine ⟨0, _, _, by rw [if_neg e2, if_pos e], by rw [ml _ (by rw [pR_ne (by omega), pR_ne (by omega)]; exact hm), if_neg e2, if_pos e], inv_word hw hc hm hf hp hv e2 hw6 rfl rfl⟩
            · exact ⟨-3, S, S, by rw [if_neg e2, if_neg e], by rw [ml S hm, if_neg e2, if_neg e], inv_same rfl hw hc hm⟩
        · refine ⟨-1, S, S, ?_, ?_, inv_same rfl hw hc hm⟩
          · unfold FX5_word
            rw [c_formAt hc h3 hf]
            simp only [Option.bind_some, kopt_some, kfm_t hf, kgd_t]
            rw [c_hasValue hF w1 hp hv, c_isWordN S hy]
            rfl
          · unfold FX6_word
            rw [m_isValue hm.1.1 h3 hm.2.2.2.1 hMF w1 hf hp hv, m_wordN S hy]
            rfl
      · refine ⟨-1, S, S, ?_, ?_, inv_same rfl hw hc hm⟩
        · unfold FX5_word
          rw [c_formAt hc h3 hf]
          simp only [Option.bind_some, kopt_some, kfm_t hf, kgd_t]
          rw [c_hasValueV hF w1 hp hy]
          rfl
        · unfold FX6_word
          rw [m_isValueV hm.1.1 h3 hm.2.2.2.1 hMF w1 hf hp hy]; rfl
    · refine ⟨-1, S, S, ?_, ?_, inv_same rfl hw hc hm⟩
      · unfold FX5_word
        rw [c_formAt hc h3 hf]
        simp only [Option.bind_some, kopt_some, kfm_t hf, kgd_t]
        rw [c_hasValueP hF w1 hy]
        rfl
      · unfold FX6_word
        rw [m_isValueP hm.1.1 h3 hm.2.2.2.1 w1 hf hy]; rfl
  · refine ⟨-1, S, S, ?_, ?_, inv_same rfl hw hc hm⟩
    · unfold FX5_word
      rw [c_formAtN hc hx]
      rfl
    · unfold FX6_word
      rw [m_isValueF hm.1.1 h3 hx]
      rfl
theorem kI_0t {n : Nat} (h : n < 2147483648) : ((0 : Int32) < nI n) = (0 < n) := by
  rw [← nI_0, nI_t' (by omega) h]
def αclose (α : kα) : kα := au (au (au α 0 1 0 (α 0 1 0 - 1)) 0 5 0 0) 0 12 0 0
theorem st_close : kst_close Inv := fun n S k hk hI => by
  obtain ⟨α, rfl, hw, hc, hm⟩ := hI
  obtain ⟨w1, w2, w3, w4, w5, w6, w7, w8, w9⟩ := hw
  have hp3 := w4.1
  by_cases h0 : α 0 1 0 = 0
  · refine ⟨-3, S, S, ?_, ?_, inv_same rfl ⟨w1, w2, w3, w4, w5, w6, w7, w8, w9⟩ hc hm⟩
    · unfold FX5_close
      simp (disch := omega) only [kb, kI_eq, hc.1.2.1.1, kI_0t]
      rw [if_neg (by omega)]
    · unfold FX6_close
      simp (disch := omega) only [kb, kI_eq, hm.1.2.1.1, nI_z]
      rw [if_pos h0]
  · have e1 : nI (α 0 1 0) - 1 = nI (α 0 1 0 - 1) := by rw [sub1, nO_31 (by omega) h0]
    have etop : (S 0).2 3 (α 0 1 0 - 1) = nI (top α) := hc.1.2.1.2 _ (by omega)
    have mtop : (S 5).2 24 (α 0 1 0 - 1) = nI (top α) := hm.1.2.1.2 _ (by omega)
    refine ⟨nI (top α), kpI (kpI (kpI (kpI S 0 4 (nI (α 0 1 0 - 1))) 4 3 0) 0 12 (-1)) 0 13 (-1), kpI (kpI (kpI (kpI (kpI (kpI (kpI S 0 4 (nI (α 0 1 0 - 1))) 4 3 0) 0 12 (-1)) 0 13 (-1)) 5 25 (nI (α 0 1 0 - 1))) 5 26 0) 5 29 (-1), ?_, ?_, ?_⟩
    · unfold FX5_close FX5_turnPage FX1_clear FX5_forgetConfirm
      simp (disch := omega) only [kb, kI_eq, hc.1.2.1.1, kI_0t, show 0 < α 0 1 0 by omega, if_true, e1, Option.bind_some, pI_1, and_false, and_true, false_and, Nat.reduceEqDiff, if_false, and_self, kin_t, kgd_t, kA_nI, pI_2, etop, show ¬ (0 = 4) by omega]
    · unfold FX6_close
      simp (disch := omega) only [kb, kI_eq, nI_z, pI_1, and_false, and_true, false_and, Nat.reduceEqDiff, if_false, and_self, kin_t, kgd_t, kA_nI, pI_2, hm.1.2.1.1, h0, e1, mtop, show ¬ (5 = 0) by omega, if_true]
    · refine inv_fin (α := αclose α) rfl ⟨w1, w2, w3, ⟨?_, fun i hi => ?_, fun i j hi hj => ?_⟩, w5, ⟨Nat.zero_le _, fun j f p hj => absurd hj (Nat.not_lt_zero _)⟩, fun h => absurd h (Nat.not_lt_zero _), by show α 0 6 0 ≤ k + 1; omega, w9⟩ (S1 := kpI (kpI (kpI (kpI S 0 4 (nI (α 0 1 0 - 1))) 4 3 0) 0 12 (-1)) 0 13 (-1)) ⟨?_, hc.2.1, hc.2.2.1, ?_, fun g hg => ?_⟩ (fun o ho => by rw [pI_ne ho, pI_ne ho, pI_ne ho]) ⟨?_, hm.2.1, ?_, hm.2.2.2.1, hm.2.2.2.2⟩
      · show α 0 1 0 - 1 ≤ 3; omega
      · have hi : i < α 0 1 0 - 1 := hi
        exact w4.2.1 i (by omega)
      · have hi : i < α 0 1 0 - 1 := hi
        have hj : j < α 0 1 0 - 1 := hj
        exact w4.2.2 i j (by omega) (by omega)
      · obtain ⟨t1, t2, t3, t4, t5, t6, t7⟩ := hc.1
        refine ⟨t1, ⟨rfl, fun i hi => ?_⟩, t3, t4, t5, nO_0.symm, fun h => absurd h (Nat.not_lt_zero _)⟩
        have hi : i < α 0 1 0 - 1 := hi
        exact t2.2 i (by omega)
      · obtain ⟨nx, h1, h2, h3, h4, h5⟩ := hc.2.2.2.1
        exact ⟨nx, h1, h2, nI_0.symm, fun j x hj => absurd hj (Nat.not_lt_zero _), h5⟩
      · rw [pI_ne (by omega), pI_ne (by omega), pI_ne (by omega), pI_ne (by omega)]
        exact hc.2.2.2.2 g hg
      · obtain ⟨t1, t2, t3, t4, t5, t6, t7, t8⟩ := hm.1
        refine ⟨t1, ⟨rfl, fun i hi => ?_⟩, t3, t4, t5, nO_0.symm, fun h => absurd h (Nat.not_lt_zero _), t8⟩
        have hi : i < α 0 1 0 - 1 := hi
        exact t2.2 i (by omega)
      · exact ⟨nI_0.symm, fun j x hj => absurd hj (Nat.not_lt_zero _), fun j x hj => absurd hj (Nat.not_lt_zero _)⟩
