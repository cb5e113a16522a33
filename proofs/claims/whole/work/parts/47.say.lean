/-! say, item, close -/
theorem oN : (nI 1 = 0) = False := by rw [nI_z (by omega)]; simp
theorem eO1 : (nO 1 : Int32) = 0 := by decide +kernel
theorem eO3 : (nO 3 : Int32) = 2 := by decide +kernel
theorem eO5 : (nO 5 : Int32) = 4 := by decide +kernel
theorem m_in1 (S : kS) {y : Nat} (h : y < 1) : FX6_in S (nI y) 0 0 = some 1 := by have e := m_inT S h (by omega); rw [eO1] at e; exact e
theorem m_in1N (S : kS) {z : Int32} (h : z < 0 ∨ nI 1 ≤ z) : FX6_in S z 0 0 = some 0 := by have e := m_inF S h (by omega); rw [eO1] at e; exact e
theorem m_in3 (S : kS) {y : Nat} (h : y < 3) : FX6_in S (nI y) 0 2 = some 1 := by have e := m_inT S h (by omega); rw [eO3] at e; exact e
theorem m_in3N (S : kS) {z : Int32} (h : z < 0 ∨ nI 3 ≤ z) : FX6_in S z 0 2 = some 0 := by have e := m_inF S h (by omega); rw [eO3] at e; exact e
theorem m_in5 (S : kS) {y : Nat} (h : y < 5) : FX6_in S (nI y) 0 4 = some 1 := by have e := m_inT S h (by omega); rw [eO5] at e; exact e
theorem m_in5N (S : kS) {z : Int32} (h : z < 0 ∨ nI 5 ≤ z) : FX6_in S z 0 4 = some 0 := by have e := m_inF S h (by omega); rw [eO5] at e; exact e
theorem inv_fin {α : kα} {S1 S2 : kS} {n k : Nat} (h0 : α 0 0 0 = n) (hw : WF α (k + 1)) (hc : RC S1 α) (hne : ∀ o, o ≠ 5 → S2 o = S1 o) (hm : RM (S2 5) α) : Inv n S2 (k + 1) := ⟨α, h0, hw, hc.same hne, hm⟩
theorem c_say {α : kα} {S : kS} (hc : RC S α) {w : Nat} (hw6 : w < 64) (h8 : α 0 2 0 < 8) : FX5_say S (nI w) = some (nI (α 0 2 0 + 1), kpI (kpR S 0 5 (upd ((S 0).2 5) (α 0 2 0) (nI w))) 0 6 (nI (α 0 2 0 + 1))) := by
  unfold FX5_say
  rw [c_isWord S hw6]
  simp (disch := omega) only [Option.bind_some, o_ne, oN, if_false, kb, kI_eq, hc.1.2.2.1.1, li_8, nI_t', h8, if_true, kin_t, kgd_t, kpA_nI, pR_1, pI_1, li_1, nI_add, and_self]
theorem m_say {α : kα} {S : kS} (hm : MT (S 5) α) {w : Nat} (hw6 : w < 64) (h8 : α 0 2 0 < 8) : FX6_say S (nI w) = some (nI (α 0 2 0 + 1), kpI (kpR S 5 32 (upd ((S 5).2 32) (α 0 2 0) (nI w))) 5 33 (nI (α 0 2 0 + 1))) := by
  unfold FX6_say
  rw [m_word S hw6]
  simp (disch := omega) only [Option.bind_some, o_ne, oN, if_false, kb, kI_eq, hm.2.2.1.1, li_8, nI_e, show ¬ α 0 2 0 = 8 by omega, if_true, kin_t, kgd_t, kpA_nI, pR_1, pI_1, li_1, nI_add, and_self]
def αsay (α : kα) (w : Nat) : kα := au (au α 25 (α 0 2 0) 0 w) 0 2 0 (α 0 2 0 + 1)
theorem st_say : kst_say Inv := fun n S k a1 hk hI => by
  obtain ⟨α, rfl, hw, hc, hm⟩ := hI
  have hL := hw.2.2.2.2.1
  have hl8 := hL.1
  rcases kcase 64 (by omega) a1 with ⟨w, hw6, rfl⟩ | hx
  · by_cases h8 : α 0 2 0 < 8
    · refine ⟨_, _, _, c_say hc hw6 h8, m_say (α := α) (by exact hm.1) hw6 h8, ?_⟩
      refine inv_fin (α := αsay α w) rfl ⟨hw.1, hw.2.1, hw.2.2.1, hw.2.2.2.1, ⟨?_, fun i hi => ?_⟩, hw.2.2.2.2.2.1, hw.2.2.2.2.2.2.1, hw.mono.2.2.2.2.2.2.2.1, hw.2.2.2.2.2.2.2.2⟩ (S1 := kpI (kpR S 0 5 (upd ((S 0).2 5) (α 0 2 0) (nI w))) 0 6 (nI (α 0 2 0 + 1))) ⟨?_, hc.2.1, hc.2.2.1, hc.2.2.2.1, fun f hf => ?_⟩ (fun o ho => by rw [pI_ne ho, pR_ne ho]) ?_
      · show α 0 2 0 + 1 ≤ 8; omega
      · have hi : i < α 0 2 0 + 1 := hi
        show au α 25 (α 0 2 0) 0 w 25 i 0 < 64
        rw [au_eq]
        split
        · exact hw6
        · exact hL.2 i (by omega)
      · obtain ⟨t1, t2, t3, t4⟩ := hc.1
        refine ⟨t1, t2, ⟨rfl, fun i hi => ?_⟩, t4⟩
        have hi : i < α 0 2 0 + 1 := hi
        show upd ((S 0).2 5) (α 0 2 0) (nI w) i = nI (au α 25 (α 0 2 0) 0 w 25 i 0)
        rw [au_eq, upd_eq]
        by_cases e : i = α 0 2 0
        · rw [if_pos e, if_pos ⟨rfl, e, rfl⟩]
        · rw [if_neg e, if_neg (fun h => e h.2.1)]
          exact t3.2 i (by omega)
      · rw [pI_ne (by omega), pR_ne (by omega)]; exact hc.2.2.2.2 f hf
      · obtain ⟨⟨t1, t2, t3, t4⟩, r2, r3, r4, r5⟩ := hm
        refine ⟨⟨t1, t2, ⟨rfl, fun i hi => ?_⟩, t4⟩, r2, r3, r4, r5⟩
        have hi : i < α 0 2 0 + 1 := hi
        show upd ((S 5).2 32) (α 0 2 0) (nI w) i = nI (au α 25 (α 0 2 0) 0 w 25 i 0)
        rw [au_eq, upd_eq]
        by_cases e : i = α 0 2 0
        · rw [if_pos e, if_pos ⟨rfl, e, rfl⟩]
        · rw [if_neg e, if_neg (fun h => e h.2.1)]
          exact t3.2 i (by omega)
    · refine ⟨nN4, S, S, ?_, ?_, inv_same rfl hw hc hm⟩
      · unfold FX5_say
        rw [c_isWord S hw6]
        simp (disch := omega) only [Option.bind_some, o_ne, oN, if_false, kb, kI_eq, hc.1.2.2.1.1, ↓m4_eq, li_8, nI_t', h8]
      · unfold FX6_say
        rw [m_word S hw6]
        simp (disch := omega) only [Option.bind_some, o_ne, oN, if_false, kb, kI_eq, hm.1.2.2.1.1, ↓m4_eq, li_8, nI_e, show α 0 2 0 = 8 by omega, if_true]
  · refine ⟨-1, S, S, ?_, ?_, inv_same rfl hw hc hm⟩
    · unfold FX5_say; rw [c_isWordN S hx]; rfl
    · unfold FX6_say; rw [m_wordN S hx]; rfl
/-- the limit of what stands behind an item's kind -/
def ilim (t : Nat) : Nat := if t = 0 then 64 else if t = 1 then 5 else 1
theorem c_isItem (S : kS) {t y : Nat} (ht : t ≤ 2) (hy : y < ilim t) : FX5_isItem S (nI t) (nI y) = some 1 := by
  unfold FX5_isItem FX5_isItem_J46 FX5_isItem_J47 FX5_isItem_J57
  rcases (show t = 0 ∨ t = 1 ∨ t = 2 by omega) with rfl | rfl | rfl
  · have hy : y < 64 := hy
    rw [c_isWord S hy]
    rfl
  · have hy : y < 5 := hy
    rw [if_neg (by decide), if_pos (by decide), if_neg (nI_pos (by omega)), if_neg (by rw [li_5, nI_l' (by omega) (by omega)]; omega)]
    rfl
  · have hy : y < 1 := hy
    rcases (show y = 0 by omega) with rfl
    rfl
theorem c_isItemN (S : kS) {x z : Int32} (h : (x < 0 ∨ nI 3 ≤ x) ∨ ∃ t, t ≤ 2 ∧ x = nI t ∧ (z < 0 ∨ nI (ilim t) ≤ z)) : FX5_isItem S x z = some 0 := by
  unfold FX5_isItem FX5_isItem_J46 FX5_isItem_J47 FX5_isItem_J57
  rcases h with h | ⟨t, ht, rfl, hz⟩
  · have e : ∀ t, t < 3 → ¬ x = nI t := by
      intro t ht e
      subst e
      rcases h with h | h
      · exact nI_pos (by omega) h
      · rw [nI_l' (by omega) (by omega)] at h; omega
    rw [if_neg (show ¬ x = 0 from e 0 (by omega)), if_neg (show ¬ x = 1 from e 1 (by omega)), if_neg (show ¬ x = 2 from e 2 (by omega))]
  · rcases (show t = 0 ∨ t = 1 ∨ t = 2 by omega) with rfl | rfl | rfl
    · rw [if_pos (by decide), c_isWordN S hz]; rfl
    · rw [if_neg (by decide), if_pos (by decide)]
      by_cases h0 : z < 0
      · rw [if_pos h0]; rfl
      · rw [if_neg h0, if_pos (show (5 : Int32) ≤ z from hz.resolve_left h0)]; rfl
    · have hz0 : ¬ z = 0 := fun e => by
        subst e
        rcases hz with hz | hz
        · exact absurd hz (by decide)
        · exact absurd hz (by decide)
      rw [if_neg (by decide), if_neg (by decide), if_pos (by decide), if_neg hz0]; rfl
theorem c_item {α : kα} {S : kS} (hc : RC S α) (hq : α 0 4 0 < 4) (hr : α 0 3 0 ≤ 20) {t y : Nat} (ht : t ≤ 2) (hy : y < ilim t) : FX5_item S (nI t) (nI y) = some (nI (α 0 4 0 + 1), kpI (kpR (kpR S 1 6 (upd ((S 1).2 6) (4 * α 0 3 0 + α 0 4 0) (nI t))) 1 7 (upd ((S 1).2 7) (4 * α 0 3 0 + α 0 4 0) (nI y))) 1 1 (nI (α 0 4 0 + 1))) := by
  unfold FX5_item FX4_addItem
  rw [c_isItem S ht hy]
  have e : α 0 3 0 * 4 = 4 * α 0 3 0 := by omega
  simp (disch := omega) only [Option.bind_some, o_ne, oN, if_false, kb, kI_eq, hc.2.1.1.1, hc.2.1.1.2, li_4, nI_t', hq, if_true, nI_mul, nI_add, kin_t, kgd_t, kpA_nI, pR_1, pR_2, pI_1, li_1, and_self, kb2_some, e, and_false, Nat.reduceEqDiff]
theorem m_itemJ {α : kα} {S : kS} (hm : MR (S 5) α) (hq : α 0 4 0 < 4) {t y : Nat} {hi : Int32} (hin : FX6_in S (nI y) 0 hi = some 1) : FX6_item_J30 S (nI t) (nI y) hi 0 (nI y) = some (nI (α 0 4 0 + 1), kpI (kpR (kpR S 5 21 (upd ((S 5).2 21) (80 + α 0 4 0) (nI t))) 5 22 (upd ((S 5).2 22) (80 + α 0 4 0) (nI y))) 5 23 (nI (α 0 4 0 + 1))) := by
  unfold FX6_item_J30
  rw [hin]
  simp (disch := omega) only [Option.bind_some, o_ne, oN, if_false, kb, kI_eq, hm.1.2, li_4, li_80, nI_e, show ¬ α 0 4 0 = 4 by omega, nI_add, kin_t, kgd_t, kpA_nI, pR_1, pR_2, pI_1, li_1, and_self, if_true, and_false, Nat.reduceEqDiff]
theorem m_item {α : kα} {S : kS} (hm : MR (S 5) α) (hq : α 0 4 0 < 4) {t y : Nat} (ht : t ≤ 2) (hy : y < ilim t) : FX6_item S (nI t) (nI y) = some (nI (α 0 4 0 + 1), kpI (kpR (kpR S 5 21 (upd ((S 5).2 21) (80 + α 0 4 0) (nI t))) 5 22 (upd ((S 5).2 22) (80 + α 0 4 0) (nI y))) 5 23 (nI (α 0 4 0 + 1))) := by
  unfold FX6_item
  rw [m_in3 S (show t < 3 by omega)]
  simp only [Option.bind_some, o_ne, if_false]
  rcases (show t = 0 ∨ t = 1 ∨ t = 2 by omega) with rfl | rfl | rfl
  · rw [if_pos (by decide)]
    exact m_itemJ hm hq (m_word S hy)
  · rw [if_neg (by decide), if_pos (by decide)]
    exact m_itemJ hm hq (m_in5 S hy)
  · rw [if_neg (by decide), if_neg (by decide)]
    exact m_itemJ hm hq (m_in1 S hy)
theorem m_itemN {S : kS} {x z : Int32} (h : (x < 0 ∨ nI 3 ≤ x) ∨ ∃ t, t ≤ 2 ∧ x = nI t ∧ (z < 0 ∨ nI (ilim t) ≤ z)) : FX6_item S x z = some (-2, S) := by
  unfold FX6_item FX6_item_J36 FX6_item_J30
  rcases h with h | ⟨t, ht, rfl, hz⟩
  · rw [m_in3N S h]
    rfl
  · rw [m_in3 S (show t < 3 by omega)]
    simp only [Option.bind_some, o_ne, if_false]
    rcases (show t = 0 ∨ t = 1 ∨ t = 2 by omega) with rfl | rfl | rfl
    · rw [if_pos (by decide), m_wordN S hz]; rfl
    · rw [if_neg (by decide), if_pos (by decide), m_in5N S hz]; rfl
    · rw [if_neg (by decide), if_neg (by decide)]
      rw [m_in1N S hz]; rfl
def αitem (α : kα) (t y : Nat) : kα := au (au (au α 22 (α 0 4 0) 0 t) 23 (α 0 4 0) 0 y) 0 4 0 (α 0 4 0 + 1)
theorem st_item : kst_item Inv := fun n S k a1 a2 hk hI => by
  obtain ⟨α, rfl, hw, hc, hm⟩ := hI
  have hQ := hw.2.2.1
  have hq4 := hQ.1
  have hr20 := hw.2.1.1
  have bad : ((a1 < 0 ∨ nI 3 ≤ a1) ∨ ∃ t, t ≤ 2 ∧ a1 = nI t ∧ (a2 < 0 ∨ nI (ilim t) ≤ a2)) → ∃ r S1 S2, FX5_item S a1 a2 = some (r, S1) ∧ FX6_item S1 a1 a2 = some (r, S2) ∧ Inv (α 0 0 0) S2 (k + 1) := fun h => by
    refine ⟨-2, S, S, ?_, m_itemN h, inv_same rfl hw hc hm⟩
    unfold FX5_item
    rw [c_isItemN S h]
    rfl
  rcases kcase 3 (by omega) a1 with ⟨t, ht3, rfl⟩ | hx
  · have hil : ilim t < 2147483648 := by
      unfold ilim
      split
      · omega
      · split <;> omega
    rcases kcase (ilim t) hil a2 with ⟨y, hy, rfl⟩ | hz
    · have ht2 : t ≤ 2 := by omega
      by_cases h4 : α 0 4 0 < 4
      · refine ⟨_, _, _, c_item hc h4 hr20 ht2 hy, m_item (α := α) (by exact hm.2.1) h4 ht2 hy, ?_⟩
        have hy64 : y < 64 ∧ (t = 1 → y < 5) := by
          unfold ilim at hy
          split at hy
          · omega
          · split at hy <;> omega
        refine inv_fin (α := αitem α t y) rfl ⟨hw.1, hw.2.1, ⟨?_, fun i hi => ?_⟩, hw.2.2.2.1, hw.2.2.2.2.1, hw.2.2.2.2.2.1, hw.2.2.2.2.2.2.1, hw.mono.2.2.2.2.2.2.2.1, hw.2.2.2.2.2.2.2.2⟩ (S1 := kpI (kpR (kpR S 1 6 (upd ((S 1).2 6) (4 * α 0 3 0 + α 0 4 0) (nI t))) 1 7 (upd ((S 1).2 7) (4 * α 0 3 0 + α 0 4 0) (nI y))) 1 1 (nI (α 0 4 0 + 1))) ⟨hc.1, ?_, hc.2.2.1, hc.2.2.2.1, fun f hf => ?_⟩ (fun o ho => by rw [pI_ne ho, pR_ne ho, pR_ne ho]) ?_
        · show α 0 4 0 + 1 ≤ 4; omega
        · have hi : i < α 0 4 0 + 1 := hi
          show au α 22 (α 0 4 0) 0 t 22 i 0 ≤ 2 ∧ au (au α 22 (α 0 4 0) 0 t) 23 (α 0 4 0) 0 y 23 i 0 < 64 ∧ (au α 22 (α 0 4 0) 0 t 22 i 0 = 1 → au (au α 22 (α 0 4 0) 0 t) 23 (α 0 4 0) 0 y 23 i 0 < 5)
          simp only [au_eq]
          by_cases e : i = α 0 4 0
          · simp [e, ht2, hy64.1]; exact hy64.2
          · simp [e]
            exact hQ.2 i (by omega)
        · obtain ⟨r1, r2, r3, r4, r5⟩ := hc.2.1
          refine ⟨⟨r1.1, rfl⟩, r2, ⟨fun r i hr hi => ?_, fun r i hr hi => ?_⟩, fun i hi => ?_, fun i hi => ?_⟩
          · have hr : r < α 0 3 0 := hr
            have hi4 := (hw.2.1.2 r hr).2.2.2.2.2.1
            have hi : i < α 19 r 0 := hi
            show upd ((S 1).2 6) (4 * α 0 3 0 + α 0 4 0) (nI t) (4 * r + i) = _
            rw [upd_eq, if_neg (by omega)]
            exact r3.1 r i hr hi
          · have hr : r < α 0 3 0 := hr
            have hi4 := (hw.2.1.2 r hr).2.2.2.2.2.1
            have hi : i < α 19 r 0 := hi
            show upd ((S 1).2 7) (4 * α 0 3 0 + α 0 4 0) (nI y) (4 * r + i) = _
            rw [upd_eq, if_neg (by omega)]
            exact r3.2 r i hr hi
          · have hi : i < α 0 4 0 + 1 := hi
            show upd ((S 1).2 6) (4 * α 0 3 0 + α 0 4 0) (nI t) (4 * α 0 3 0 + i) = nI (au α 22 (α 0 4 0) 0 t 22 i 0)
            rw [upd_eq, au_eq]
            by_cases e : i = α 0 4 0
            · rw [if_pos (by omega), if_pos ⟨rfl, e, rfl⟩]
            · rw [if_neg (by omega), if_neg (fun h => e h.2.1)]
              exact r4 i (by omega)
          · have hi : i < α 0 4 0 + 1 := hi
            show upd ((S 1).2 7) (4 * α 0 3 0 + α 0 4 0) (nI y) (4 * α 0 3 0 + i) = nI (au (au α 22 (α 0 4 0) 0 t) 23 (α 0 4 0) 0 y 23 i 0)
            rw [upd_eq, au_eq]
            by_cases e : i = α 0 4 0
            · rw [if_pos (by omega), if_pos ⟨rfl, e, rfl⟩]
            · rw [if_neg (by omega), if_neg (fun h => e h.2.1)]
              exact r5 i (by omega)
        · rw [pI_ne (by omega), pR_ne (by omega), pR_ne (by omega)]; exact hc.2.2.2.2 f hf
        · obtain ⟨m1, ⟨r1, r2, r3, r4, r5⟩, m3⟩ := hm
          refine ⟨m1, ⟨⟨r1.1, rfl⟩, r2, ⟨fun r i hr hi => ?_, fun r i hr hi => ?_⟩, fun i hi => ?_, fun i hi => ?_⟩, m3⟩
          · have hr : r < α 0 3 0 := hr
            have hi4 := (hw.2.1.2 r hr).2.2.2.2.2.1
            have hi : i < α 19 r 0 := hi
            show upd ((S 5).2 21) (80 + α 0 4 0) (nI t) (4 * r + i) = _
            rw [upd_eq, if_neg (by omega)]
            exact r3.1 r i hr hi
          · have hr : r < α 0 3 0 := hr
            have hi4 := (hw.2.1.2 r hr).2.2.2.2.2.1
            have hi : i < α 19 r 0 := hi
            show upd ((S 5).2 22) (80 + α 0 4 0) (nI y) (4 * r + i) = _
            rw [upd_eq, if_neg (by omega)]
            exact r3.2 r i hr hi
          · have hi : i < α 0 4 0 + 1 := hi
            show upd ((S 5).2 21) (80 + α 0 4 0) (nI t) (80 + i) = nI (au α 22 (α 0 4 0) 0 t 22 i 0)
            rw [upd_eq, au_eq]
            by_cases e : i = α 0 4 0
            · rw [if_pos (by omega), if_pos ⟨rfl, e, rfl⟩]
            · rw [if_neg (by omega), if_neg (fun h => e h.2.1)]
              exact r4 i (by omega)
          · have hi : i < α 0 4 0 + 1 := hi
            show upd ((S 5).2 22) (80 + α 0 4 0) (nI y) (80 + i) = nI (au (au α 22 (α 0 4 0) 0 t) 23 (α 0 4 0) 0 y 23 i 0)
            rw [upd_eq, au_eq]
            by_cases e : i = α 0 4 0
            · rw [if_pos (by omega), if_pos ⟨rfl, e, rfl⟩]
            · rw [if_neg (by omega), if_neg (fun h => e h.2.1)]
              exact r5 i (by omega)
      · refine ⟨nN4, S, S, ?_, ?_, inv_same rfl hw hc hm⟩
        · unfold FX5_item FX4_addItem
          rw [c_isItem S ht2 hy]
          simp (disch := omega) only [Option.bind_some, o_ne, oN, if_false, kb, kI_eq, hc.2.1.1.2, ↓m4_eq, li_4, nI_t', h4, kb2_some]
        · unfold FX6_item
          have full : ∀ hi, FX6_in S (nI y) 0 hi = some 1 → FX6_item_J30 S (nI t) (nI y) hi 0 (nI y) = some (nN4, S) := fun hi hin => by
            unfold FX6_item_J30
            rw [hin]
            simp (disch := omega) only [Option.bind_some, o_ne, oN, if_false, kb, kI_eq, hm.2.1.1.2, ↓m4_eq, li_4, nI_e, show α 0 4 0 = 4 by omega, if_true]
          rw [m_in3 S (show t < 3 by omega)]
          simp only [Option.bind_some, o_ne, if_false]
          rcases (show t = 0 ∨ t = 1 ∨ t = 2 by omega) with rfl | rfl | rfl
          · rw [if_pos (by decide)]
            exact full _ (m_word S hy)
          · rw [if_neg (by decide), if_pos (by decide)]
            exact full _ (m_in5 S hy)
          · rw [if_neg (by decide), if_neg (by decide)]
            exact full _ (m_in1 S hy)
    · exact bad (Or.inr ⟨t, by omega, rfl, hz⟩)
  · exact bad (Or.inl hx)
