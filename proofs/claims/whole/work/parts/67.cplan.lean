/-! the class's number of a state -/
def kk (α0 : kα) (f p : Nat) : Nat := if un1 α0 f p = 1 then α0 3 f p + 1 else 1
def ww (α0 : kα) (f : Nat) : Nat → Nat
  | 0 => 1
  | p + 1 => ww α0 f p * kk α0 f p
theorem ww_0 (α0 : kα) (f : Nat) : ww α0 f 0 = 1 := rfl
theorem ww_s (α0 : kα) (f p : Nat) : ww α0 f (p + 1) = ww α0 f p * kk α0 f p := rfl
def dd (α0 α : kα) (f p : Nat) : Nat := if un1 α0 f p = 1 then α 7 f p else 0
def encC (α0 α : kα) (f : Nat) : Nat := ww α0 f 0 * dd α0 α f 0 + ww α0 f 1 * dd α0 α f 1 + ww α0 f 2 * dd α0 α f 2 + ww α0 f 3 * dd α0 α f 3 + ww α0 f 4 * dd α0 α f 4
def sameC (α0 α : kα) (f : Nat) : Prop := sameB α0 α f ∧ (∀ p, p < 5 → un1 α0 f p ≠ 1 → α 7 f p = α0 7 f p) ∧ (∀ p, p < 5 → un1 α0 f p = 1 → α 7 f p ≤ α0 3 f p)
theorem un1_7 {α : kα} {f p : Nat} (h : un1 α f p = 1) : p < α 1 f 0 ∧ α 2 f p ≠ 1 ∧ α 7 f p = 0 := by
  unfold un1 at h
  by_cases e : p < α 1 f 0 ∧ α 2 f p ≠ 1 ∧ α 7 f p = 0
  · exact e
  · rw [if_neg e] at h; omega
theorem un1_i {α : kα} {f p : Nat} (h : p < α 1 f 0 ∧ α 2 f p ≠ 1 ∧ α 7 f p = 0) : un1 α f p = 1 := by
  unfold un1; rw [if_pos h]
theorem sameC_refl (α : kα) (f : Nat) : sameC α α f := ⟨sameB_refl _ _, fun _ _ _ => rfl, fun p _ h => by rw [(un1_7 h).2.2]; omega⟩
theorem sameC_ap {α0 α : kα} {f p v : Nat} (h : sameC α0 α f) (hp : p < 5) (hu : un1 α0 f p = 1) (hv : v < α0 3 f p) : sameC α0 (ap α f p v) f := by
  refine ⟨sameB_ap h.1 hp, fun q hq hn => ?_, fun q hq hn => ?_⟩
  · rw [ap_7, if_neg (fun e => hn (by rw [e]; exact hu))]; exact h.2.1 q hq hn
  · rw [ap_7]
    by_cases e : q = p
    · rw [if_pos e, e]; omega
    · rw [if_neg e]; exact h.2.2 q hq hn
/-- what is not sure now was not sure at first -/
theorem un1_back {α0 α : kα} {f p : Nat} (h : sameC α0 α f) (hp : p < 5) (h1 : p < α 1 f 0) (h2 : α 2 f p ≠ 1) (h7 : α 7 f p = 0) : un1 α0 f p = 1 := by
  rw [h.1.1 1 f 0 (by omega) (by omega)] at h1
  rw [h.1.1 2 f p (by omega) (by omega)] at h2
  rcases Nat.decEq (un1 α0 f p) 1 with e | e
  · have := h.2.1 p hp e
    exact un1_i ⟨h1, h2, by rw [← this]; exact h7⟩
  · exact e
theorem encC_ap {α0 α : kα} {f p v : Nat} (hp : p < 5) (hu : un1 α0 f p = 1) (h7 : α 7 f p = 0) : encC α0 (ap α f p v) f = encC α0 α f + ww α0 f p * (v + 1) := by
  have h : ∀ q, q ≠ p → dd α0 (ap α f p v) f q = dd α0 α f q := fun q hq => by unfold dd; rw [ap_7, if_neg hq]
  have h1 : dd α0 (ap α f p v) f p = v + 1 := by unfold dd; rw [ap_7, if_pos rfl, if_pos hu]
  have h0 : dd α0 α f p = 0 := by unfold dd; rw [if_pos hu, h7]
  unfold encC
  rcases (show p = 0 ∨ p = 1 ∨ p = 2 ∨ p = 3 ∨ p = 4 by omega) with rfl | rfl | rfl | rfl | rfl
  · rw [h1, h0, h 1 (by omega), h 2 (by omega), h 3 (by omega), h 4 (by omega), Nat.mul_zero]; omega
  · rw [h1, h0, h 0 (by omega), h 2 (by omega), h 3 (by omega), h 4 (by omega), Nat.mul_zero]; omega
  · rw [h1, h0, h 0 (by omega), h 1 (by omega), h 3 (by omega), h 4 (by omega), Nat.mul_zero]; omega
  · rw [h1, h0, h 0 (by omega), h 1 (by omega), h 2 (by omega), h 4 (by omega), Nat.mul_zero]; omega
  · rw [h1, h0, h 0 (by omega), h 1 (by omega), h 2 (by omega), h 3 (by omega), Nat.mul_zero]; omega
theorem encC_h (α0 α : kα) (f : Nat) : encC α0 α f = dd α0 α f 0 + kk α0 f 0 * (dd α0 α f 1 + kk α0 f 1 * (dd α0 α f 2 + kk α0 f 2 * (dd α0 α f 3 + kk α0 f 3 * dd α0 α f 4))) := by
  simp only [encC, ww, Nat.one_mul, Nat.mul_add, Nat.mul_assoc, Nat.add_assoc]
theorem dr {d e k x y : Nat} (hd : d < k) (he : e < k) (h : d + k * x = e + k * y) : d = e ∧ x = y := by
  have h1 : (d + k * x) % k = d := by rw [Nat.add_mul_mod_self_left, Nat.mod_eq_of_lt hd]
  have h2 : (e + k * y) % k = e := by rw [Nat.add_mul_mod_self_left, Nat.mod_eq_of_lt he]
  have h3 : d = e := by rw [← h1, ← h2, h]
  subst h3
  exact ⟨rfl, Nat.eq_of_mul_eq_mul_left (show 0 < k by omega) (by omega)⟩
theorem dl {d k x m : Nat} (hd : d < k) (hx : x < m) : d + k * x < k * m := by
  have : k * x + k ≤ k * m := by rw [← Nat.mul_succ]; exact Nat.mul_le_mul_left k hx
  omega
theorem dd_lt {α0 α : kα} {f p : Nat} (h : sameC α0 α f) (hp : p < 5) : dd α0 α f p < kk α0 f p := by
  unfold dd kk
  by_cases e : un1 α0 f p = 1
  · rw [if_pos e, if_pos e]; have := h.2.2 p hp e; omega
  · rw [if_neg e, if_neg e]; omega
theorem kk_5 {α0 : kα} {f p : Nat} (hw : wfP α0 f) : kk α0 f p ≤ 5 := by
  unfold kk
  by_cases e : un1 α0 f p = 1
  · rw [if_pos e]; have := (hw.2 p (un1_7 e).1).2.2.1; omega
  · rw [if_neg e]; omega
theorem encC_lt {α0 α : kα} {f : Nat} (h : sameC α0 α f) (hw : wfP α0 f) : encC α0 α f < 3125 := by
  rw [encC_h]
  have b4 : dd α0 α f 4 < 5 := Nat.lt_of_lt_of_le (dd_lt h (by omega)) (kk_5 hw)
  have b3 := dl (dd_lt h (show 3 < 5 by omega)) b4
  have b3 : dd α0 α f 3 + kk α0 f 3 * dd α0 α f 4 < 25 := Nat.lt_of_lt_of_le b3 (Nat.mul_le_mul_right 5 (kk_5 hw))
  have b2 := dl (dd_lt h (show 2 < 5 by omega)) b3
  have b2 : dd α0 α f 2 + kk α0 f 2 * (dd α0 α f 3 + kk α0 f 3 * dd α0 α f 4) < 125 := Nat.lt_of_lt_of_le b2 (Nat.mul_le_mul_right 25 (kk_5 hw))
  have b1 := dl (dd_lt h (show 1 < 5 by omega)) b2
  have b1 : dd α0 α f 1 + kk α0 f 1 * (dd α0 α f 2 + kk α0 f 2 * (dd α0 α f 3 + kk α0 f 3 * dd α0 α f 4)) < 625 := Nat.lt_of_lt_of_le b1 (Nat.mul_le_mul_right 125 (kk_5 hw))
  exact Nat.lt_of_lt_of_le (dl (dd_lt h (show 0 < 5 by omega)) b1) (Nat.mul_le_mul_right 625 (kk_5 hw))
theorem encC_inj {α0 α β : kα} {f : Nat} (ha : sameC α0 α f) (hb : sameC α0 β f) (h : encC α0 α f = encC α0 β f) : ∀ p, p < 5 → β 7 f p = α 7 f p := by
  rw [encC_h, encC_h] at h
  obtain ⟨e0, h⟩ := dr (dd_lt ha (show 0 < 5 by omega)) (dd_lt hb (show 0 < 5 by omega)) h
  obtain ⟨e1, h⟩ := dr (dd_lt ha (show 1 < 5 by omega)) (dd_lt hb (show 1 < 5 by omega)) h
  obtain ⟨e2, h⟩ := dr (dd_lt ha (show 2 < 5 by omega)) (dd_lt hb (show 2 < 5 by omega)) h
  obtain ⟨e3, e4⟩ := dr (dd_lt ha (show 3 < 5 by omega)) (dd_lt hb (show 3 < 5 by omega)) h
  have hd : ∀ p, p < 5 → dd α0 α f p = dd α0 β f p := fun p hp => by
    rcases (show p = 0 ∨ p = 1 ∨ p = 2 ∨ p = 3 ∨ p = 4 by omega) with rfl | rfl | rfl | rfl | rfl
    · exact e0
    · exact e1
    · exact e2
    · exact e3
    · exact e4
  intro p hp
  have := hd p hp
  unfold dd at this
  by_cases e : un1 α0 f p = 1
  · rw [if_pos e, if_pos e] at this; exact this.symm
  · rw [ha.2.1 p hp e, hb.2.1 p hp e]
theorem ww_le {α0 : kα} {f : Nat} (hw : wfP α0 f) : ∀ p, ww α0 f p ≤ 5 ^ p
  | 0 => Nat.le_refl _
  | p + 1 => by
    rw [ww_s, Nat.pow_succ]
    exact Nat.mul_le_mul (ww_le hw p) (kk_5 hw)
/-- what the class keeps while it plans -/
def memC (u : kO) (α0 : kα) (f : Nat) : Prop := ∀ β, sameC α0 β f → u.2 0 (encC α0 β f) = -1 ∨ u.2 0 (encC α0 β f) = nI (VV β f)
def PC (S0 S : kS) (α0 α : kα) (f : Nat) : Prop := (∀ o, o ≠ 6 + f → o ≠ 3 → S o = S0 o) ∧ (S (6 + f)).1 = (S0 (6 + f)).1 ∧ (∀ c, c ≠ 5 → c ≠ 6 → (S (6 + f)).2 c = (S0 (6 + f)).2 c) ∧ ((∀ p, p < 5 → (S (6 + f)).2 5 p = nI (α 6 f p)) ∧ ∀ p, p < 5 → (S (6 + f)).2 6 p = nO (α 7 f p)) ∧ (∀ p, p < 5 → (S 3).2 1 p = nI (ww α0 f p)) ∧ memC (S 3) α0 f
theorem PC_RF {S0 S : kS} {α0 α : kα} {f : Nat} (h : PC S0 S α0 α f) (hb : sameB α0 α f) (hF : RF (S0 (6 + f)) α0 f) : RF (S (6 + f)) α f := by
  obtain ⟨p1, p2, p3, p4, p5⟩ := h
  obtain ⟨f1, f2, f3, f4⟩ := hF
  unfold RF
  simp only [hb.1 1 _ _ (by omega) (by omega), hb.1 2 _ _ (by omega) (by omega), hb.1 3 _ _ (by omega) (by omega), hb.1 4 _ _ (by omega) (by omega), hb.1 5 _ _ (by omega) (by omega), hb.1 8 _ _ (by omega) (by omega), hb.1 9 _ _ (by omega) (by omega), hb.1 10 _ _ (by omega) (by omega), hb.1 11 _ _ (by omega) (by omega), hb.1 12 _ _ (by omega) (by omega), hb.1 13 _ _ (by omega) (by omega), hb.1 14 _ _ (by omega) (by omega), hb.1 15 _ _ (by omega) (by omega)]
  rw [p2, p3 1 (by omega) (by omega), p3 2 (by omega) (by omega), p3 3 (by omega) (by omega), p3 4 (by omega) (by omega), p3 8 (by omega) (by omega), p3 9 (by omega) (by omega), p3 10 (by omega) (by omega), p3 11 (by omega) (by omega), p3 12 (by omega) (by omega), p3 13 (by omega) (by omega), p3 14 (by omega) (by omega)]
  exact ⟨f1, p4, f3, f4⟩
theorem PC_put {S0 S : kS} {α0 α γ : kα} {f p : Nat} {x y : Int32} (h : PC S0 S α0 γ f) (hc : ∀ q, q ≠ p → α 6 f q = γ 6 f q ∧ α 7 f q = γ 7 f q) (hx : x = nI (α 6 f p)) (hy : y = nO (α 7 f p)) : PC S0 (kpR (kpR S (6 + f) 5 (upd ((S (6 + f)).2 5) p x)) (6 + f) 6 (upd ((S (6 + f)).2 6) p y)) α0 α f := by
  obtain ⟨p1, p2, p3, ⟨p4, p5⟩, p6, p7⟩ := h
  have e3 : kpR (kpR S (6 + f) 5 (upd ((S (6 + f)).2 5) p x)) (6 + f) 6 (upd ((S (6 + f)).2 6) p y) 3 = S 3 := by rw [pR_ne (by omega), pR_ne (by omega)]
  refine ⟨fun o h1 h2 => by rw [pR_ne h1, pR_ne h1]; exact p1 o h1 h2, ?_, fun c h5 h6 => ?_, ⟨fun q hq => ?_, fun q hq => ?_⟩, by rw [e3]; exact p6, by rw [e3]; exact p7⟩
  · rw [← p2]
    exact funext fun c => by rw [pR_1, pR_1]
  · rw [pR_2, if_neg (fun h => h6 h.2), pR_2, if_neg (fun h => h5 h.2)]; exact p3 c h5 h6
  · rw [pR_2, if_neg (by omega), pR_2, if_pos ⟨rfl, rfl⟩, upd_eq]
    by_cases e : q = p
    · rw [if_pos e, e, hx]
    · rw [if_neg e, (hc q e).1]; exact p4 q hq
  · rw [pR_2, if_pos ⟨rfl, rfl⟩, upd_eq]
    by_cases e : q = p
    · rw [if_pos e, e, hy]
    · rw [if_neg e, (hc q e).2]; exact p5 q hq
theorem PC_mem {S0 S : kS} {α0 α : kα} {f : Nat} (hC : sameC α0 α f) (h : PC S0 S α0 α f) : PC S0 (kpR S 3 0 (upd ((S 3).2 0) (encC α0 α f) (nI (VV α f)))) α0 α f := by
  obtain ⟨p1, p2, p3, p4, p6, p7⟩ := h
  have e6 : kpR S 3 0 (upd ((S 3).2 0) (encC α0 α f) (nI (VV α f))) (6 + f) = S (6 + f) := pR_ne (by omega)
  refine ⟨fun o h1 h2 => by rw [pR_ne h2]; exact p1 o h1 h2, by rw [e6]; exact p2, by rw [e6]; exact p3, by rw [e6]; exact p4, fun p hp => by rw [pR_2, if_neg (by omega)]; exact p6 p hp, fun β hβ => ?_⟩
  rw [pR_2, if_pos ⟨rfl, rfl⟩, upd_eq]
  by_cases e : encC α0 β f = encC α0 α f
  · rw [if_pos e]
    exact Or.inr (by rw [sim_VV (sameB_sim hC.1 hβ.1 (encC_inj hC hβ e.symm))])
  · rw [if_neg e]
    exact p7 β hβ
theorem c_put {S : kS} {α : kα} {o f p : Nat} (hF : RF (S o) α f) (hw : wfP α f) (hp : p < α 1 f 0) (x y : Int32) : FX0_put o S (nI p) x y = some (kpR (kpR S o 5 (upd ((S o).2 5) p x)) o 6 (upd ((S o).2 6) p y)) := by
  have h5 := hw.1
  unfold FX0_put FX0_put_J22
  rw [c_hasPlace hF hw hp]
  simp (disch := omega) only [Option.bind_some, o_ne, if_false, kin_t, kgd_t, kb, kpA_nI, pR_2, and_false, Nat.reduceEqDiff]
