/-! what a line changes: the class -/
def sp (γ : kα) (f p s v : Nat) : kα := au (au γ 6 f p s) 7 f p v
theorem sp_6 (γ : kα) (f p s v g q : Nat) : sp γ f p s v 6 g q = if g = f ∧ q = p then s else γ 6 g q := rfl
theorem sp_7 (γ : kα) (f p s v g q : Nat) : sp γ f p s v 7 g q = if g = f ∧ q = p then v else γ 7 g q := rfl
theorem sp_o (γ : kα) (f p s v c g q : Nat) (h6 : c ≠ 6) (h7 : c ≠ 7) : sp γ f p s v c g q = γ c g q := by
  unfold sp
  rw [au_eq, if_neg (fun h => h7 h.1), au_eq, if_neg (fun h => h6 h.1)]
theorem sp_sp (γ : kα) (f p s v : Nat) : sp (sp γ f p s v) f p (γ 6 f p) (γ 7 f p) = γ := by
  refine funext fun c => funext fun g => funext fun q => ?_
  by_cases h6 : c = 6
  · subst h6
    rw [sp_6, sp_6]
    by_cases e : g = f ∧ q = p
    · rw [if_pos e, e.1, e.2]
    · rw [if_neg e, if_neg e]
  · by_cases h7 : c = 7
    · subst h7
      rw [sp_7, sp_7]
      by_cases e : g = f ∧ q = p
      · rw [if_pos e, e.1, e.2]
      · rw [if_neg e, if_neg e]
    · rw [sp_o _ _ _ _ _ _ _ _ h6 h7, sp_o _ _ _ _ _ _ _ _ h6 h7]
theorem wfS_sp {γ : kα} {f p s v : Nat} (hs : wfS γ f) (hk : cok γ f p s v) : wfS (sp γ f p s v) f := fun q hq => by
  show cok γ f q (sp γ f p s v 6 f q) (sp γ f p s v 7 f q)
  rw [sp_6, sp_7]
  by_cases e : q = p
  · rw [if_pos ⟨rfl, e⟩, if_pos ⟨rfl, e⟩, e]; exact hk
  · rw [if_neg (fun h => e h.2), if_neg (fun h => e h.2)]; exact hs q hq
theorem RF_put {S : kS} {γ : kα} {o f p s v : Nat} (hF : RF (S o) γ f) : RF (kpR (kpR S o 5 (upd ((S o).2 5) p (nI s))) o 6 (upd ((S o).2 6) p (nO v)) o) (sp γ f p s v) f := by
  obtain ⟨p1, p2, p3, p4⟩ := hF
  have e1 : ∀ c, c ≠ 5 → c ≠ 6 → (kpR (kpR S o 5 (upd ((S o).2 5) p (nI s))) o 6 (upd ((S o).2 6) p (nO v)) o).2 c = (S o).2 c := fun c h5 h6 => by rw [pR_2, if_neg (fun h => h6 h.2), pR_2, if_neg (fun h => h5 h.2)]
  have e5 : (kpR (kpR S o 5 (upd ((S o).2 5) p (nI s))) o 6 (upd ((S o).2 6) p (nO v)) o).2 5 = upd ((S o).2 5) p (nI s) := by rw [pR_2, if_neg (by omega), pR_2, if_pos ⟨rfl, rfl⟩]
  have e6 : (kpR (kpR S o 5 (upd ((S o).2 5) p (nI s))) o 6 (upd ((S o).2 6) p (nO v)) o).2 6 = upd ((S o).2 6) p (nO v) := by rw [pR_2, if_pos ⟨rfl, rfl⟩]
  unfold RF
  simp only [pR_1]
  rw [e5, e6, e1 1 (by omega) (by omega), e1 2 (by omega) (by omega), e1 3 (by omega) (by omega), e1 4 (by omega) (by omega), e1 8 (by omega) (by omega), e1 9 (by omega) (by omega), e1 10 (by omega) (by omega), e1 11 (by omega) (by omega), e1 12 (by omega) (by omega), e1 13 (by omega) (by omega), e1 14 (by omega) (by omega)]
  refine ⟨p1, ⟨fun q hq => ?_, fun q hq => ?_⟩, p3, p4⟩
  · rw [upd_eq, sp_6]
    by_cases e : q = p
    · rw [if_pos e, if_pos ⟨rfl, e⟩]
    · rw [if_neg e, if_neg (fun h => e h.2)]; exact p2.1 q hq
  · rw [upd_eq, sp_7]
    by_cases e : q = p
    · rw [if_pos e, if_pos ⟨rfl, e⟩]
    · rw [if_neg e, if_neg (fun h => e h.2)]; exact p2.2 q hq
theorem bgo_le (γ : kα) (f : Nat) : ∀ k r, bgo γ f k r ≤ r + k
  | 0, r => by unfold bgo; omega
  | k + 1, r => by
    have := bgo_le γ f k (r + 1)
    unfold bgo
    split <;> omega
theorem broken_le {γ : kα} {f : Nat} (hr : wfR γ f) : broken γ f ≤ 6 := by
  have := bgo_le γ f (γ 8 f 0) 0
  have := hr.1
  unfold broken
  omega
/-- settled, or as it was -/
def stl (γ : kα) (f p s v : Nat) : kα := if broken (sp γ f p s v) f = 0 then sp γ f p s v else γ
theorem c_settle {S : kS} {γ : kα} {o f p s v : Nat} (hF : RF (S o) γ f) (hw : wfP γ f) (hs : wfS γ f) (hr : wfR γ f) (hp : p < γ 1 f 0) (hk : γ 2 f p ≠ 1) (hc : cok γ f p s v) : ∃ S', FX0_settle o S (nI p) (nI s) (nO v) = some (nO (broken (sp γ f p s v) f), S') ∧ (∀ o', o' ≠ o → S' o' = S o') ∧ RF (S' o) (stl γ f p s v) f := by
  have hF1 := RF_put (p := p) (s := s) (v := v) hF
  have hb := c_broken (S := kpR (kpR S o 5 (upd ((S o).2 5) p (nI s))) o 6 (upd ((S o).2 6) p (nO v))) (o := o) hF1 (show wfP (sp γ f p s v) f from hw) (wfS_sp hs hc) (show wfR (sp γ f p s v) f from hr)
  have hbl := broken_le (γ := sp γ f p s v) (f := f) (show wfR (sp γ f p s v) f from hr)
  have hset : setOf γ f p = γ 6 f p := by unfold setOf; rw [if_neg hk]
  have hsv : sv γ f p = γ 7 f p := by unfold sv; rw [if_neg hk]
  have cs := c_setOf hF hw hs hp
  have cv := c_sureValue hF hw hs hp
  rw [hset] at cs
  rw [hsv] at cv
  have cp := c_put hF hw hp (nI s) (nO v)
  unfold FX0_settle FX0_settle_J42 stl
  simp only [cs, cv, cp, hb, Option.bind_some]
  by_cases e : broken (sp γ f p s v) f = 0
  · rw [if_pos (by rw [nO_m1 (by omega)]; exact e), if_pos e]
    exact ⟨_, rfl, fun o' ho => by rw [pR_ne ho, pR_ne ho], hF1⟩
  · rw [if_neg (by rw [nO_m1 (by omega)]; exact e), if_neg e]
    have hp1 := c_put hF1 (show wfP (sp γ f p s v) f from hw) hp (nI (γ 6 f p)) (nO (γ 7 f p))
    rw [hp1, Option.bind_some]
    refine ⟨_, rfl, fun o' ho => by rw [pR_ne ho, pR_ne ho, pR_ne ho, pR_ne ho], ?_⟩
    have := RF_put (p := p) (s := γ 6 f p) (v := γ 7 f p) hF1
    rw [sp_sp] at this
    exact this
