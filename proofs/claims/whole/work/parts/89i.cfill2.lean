/-! what a line fills: the class -/
def ov (g : Nat) : Nat := if g = 1 then 1 else if g = 2 then 2 else if g = 4 then 3 else if g = 8 then 4 else 0
theorem ov_le : ∀ z, z < 5 → ∀ g, g < 16 → g < 2 ^ z → ov g ≤ z := by decide +kernel
theorem ov_pw : ∀ g, g < 16 → 0 < ov g → g = 2 ^ (ov g - 1) := by decide +kernel
theorem c_only (S : kS) {s : Nat} (h : s < 16) : FX5_onlyValue S (nI s) = some (nO (ov s)) := by
  match s, h with
  | 0, _ => rfl
  | 1, _ => rfl
  | 2, _ => rfl
  | 3, _ => rfl
  | 4, _ => rfl
  | 5, _ => rfl
  | 6, _ => rfl
  | 7, _ => rfl
  | 8, _ => rfl
  | 9, _ => rfl
  | 10, _ => rfl
  | 11, _ => rfl
  | 12, _ => rfl
  | 13, _ => rfl
  | 14, _ => rfl
  | 15, _ => rfl
  | s + 16, h => omega
theorem m_one (S : kS) {s : Nat} (h : s < 16) : FX6_isOne S (nI s) = some (if ov s = 0 then 0 else 1) := by
  match s, h with
  | 0, _ => rfl
  | 1, _ => rfl
  | 2, _ => rfl
  | 3, _ => rfl
  | 4, _ => rfl
  | 5, _ => rfl
  | 6, _ => rfl
  | 7, _ => rfl
  | 8, _ => rfl
  | 9, _ => rfl
  | 10, _ => rfl
  | 11, _ => rfl
  | 12, _ => rfl
  | 13, _ => rfl
  | 14, _ => rfl
  | 15, _ => rfl
  | s + 16, h => omega
def fset (O : Nat → Nat) (γ : kα) (f p : Nat) : Nat := if O p < 16 then O p else (O p % 16) ||| γ 6 f p
def fsur (O : Nat → Nat) (p : Nat) : Nat := if O p < 16 then ov (O p) else 0
def fp (O : Nat → Nat) (γ : kα) (f p : Nat) : kα := if γ 2 f p = 1 ∨ O p % 16 = 0 then γ else stl γ f p (fset O γ f p) (fsur O p)
def fb (O : Nat → Nat) (γ : kα) (f p : Nat) : Nat := if γ 2 f p = 1 ∨ O p % 16 = 0 then 0 else broken (sp γ f p (fset O γ f p) (fsur O p)) f
def fgos (O : Nat → Nat) (f : Nat) : Nat → Nat → kα → Nat → kα × Nat
  | 0, _, γ, b => (γ, b)
  | k + 1, p, γ, b => fgos O f k (p + 1) (fp O γ f p) (if b = 0 then fb O γ f p else b)
theorem fgos_0 (O : Nat → Nat) (f p : Nat) (γ : kα) (b : Nat) : fgos O f 0 p γ b = (γ, b) := rfl
theorem fgos_s (O : Nat → Nat) (f k p : Nat) (γ : kα) (b : Nat) : fgos O f (k + 1) p γ b = fgos O f k (p + 1) (fp O γ f p) (if b = 0 then fb O γ f p else b) := rfl
/-- all but what the places of one form hold is as it was -/
def sX (α γ : kα) (f : Nat) : Prop := (∀ c g j, c ≠ 6 → c ≠ 7 → γ c g j = α c g j) ∧ (∀ c g j, g ≠ f → γ c g j = α c g j) ∧ wfS γ f
theorem sX_P {α γ : kα} {f : Nat} (h : sX α γ f) (hw : wfP α f) : wfP γ f := by
  have e := fun c g j h6 h7 => h.1 c g j h6 h7
  unfold wfP
  simp only [e 1 _ _ (by omega) (by omega), e 2 _ _ (by omega) (by omega), e 3 _ _ (by omega) (by omega), e 4 _ _ (by omega) (by omega), e 5 _ _ (by omega) (by omega)]
  exact hw
theorem sX_R {α γ : kα} {f : Nat} (h : sX α γ f) (hw : wfR α f) : wfR γ f := by
  have e := fun c g j h6 h7 => h.1 c g j h6 h7
  unfold wfR
  simp only [e 1 _ _ (by omega) (by omega), e 2 _ _ (by omega) (by omega), e 3 _ _ (by omega) (by omega), e 8 _ _ (by omega) (by omega), e 9 _ _ (by omega) (by omega), e 10 _ _ (by omega) (by omega), e 11 _ _ (by omega) (by omega), e 12 _ _ (by omega) (by omega), e 13 _ _ (by omega) (by omega)]
  exact hw
theorem sX_sp {α γ : kα} {f p s v : Nat} (h : sX α γ f) (hk : cok γ f p s v) : sX α (sp γ f p s v) f := by
  refine ⟨fun c g j h6 h7 => by rw [sp_o _ _ _ _ _ _ _ _ h6 h7, h.1 c g j h6 h7], fun c g j hg => ?_, wfS_sp h.2.2 hk⟩
  rw [← h.2.1 c g j hg]
  unfold sp
  rw [au_eq, if_neg (fun q => hg q.2.1), au_eq, if_neg (fun q => hg q.2.1)]
theorem sX_stl {α γ : kα} {f p s v : Nat} (h : sX α γ f) (hk : cok γ f p s v) : sX α (stl γ f p s v) f := by
  unfold stl
  split
  · exact sX_sp h hk
  · exact h
theorem fill_cok {α γ : kα} {f p : Nat} {O : Nat → Nat} (h : sX α γ f) (hw : wfP α f) (hp : p < γ 1 f 0) (hk : γ 2 f p ≠ 1) (hO : fbd α f p (O p)) : cok γ f p (fset O γ f p) (fsur O p) := by
  have e1 := h.1 1 f 0 (by omega) (by omega)
  have e3 := h.1 3 f p (by omega) (by omega)
  have h5 := hw.1
  have h4 := (hw.2 p (by omega)).2.2.1
  have hc := (h.2.2 p (by omega)).1 ⟨hp, hk⟩
  obtain ⟨o1, o2⟩ := hO
  have o2 := o2 (by omega)
  refine ⟨fun _ => ?_, fun q => absurd ⟨hp, hk⟩ q⟩
  unfold fset fsur
  rw [e3]
  rw [e3] at hc
  by_cases q : O p < 16
  · rw [if_pos q, if_pos q]
    rw [Nat.mod_eq_of_lt q] at o2
    exact ⟨o2, ov_le _ (by omega) _ q o2, ov_pw _ q⟩
  · rw [if_neg q, if_neg q]
    exact ⟨Nat.or_lt_two_pow o2 hc.1, by omega, fun h => by omega⟩
theorem fill_sX {α γ : kα} {f p : Nat} {O : Nat → Nat} (h : sX α γ f) (hw : wfP α f) (hp : p < γ 1 f 0) (hO : fbd α f p (O p)) : sX α (fp O γ f p) f := by
  unfold fp
  by_cases q : γ 2 f p = 1 ∨ O p % 16 = 0
  · rw [if_pos q]; exact h
  · rw [if_neg q]; exact sX_stl h (fill_cok h hw hp (fun e => q (Or.inl e)) hO)
theorem fb_le {α γ : kα} {f p : Nat} {O : Nat → Nat} (h : sX α γ f) (hr : wfR α f) : fb O γ f p ≤ 6 := by
  have hγ := sX_R h hr
  unfold fb
  split
  · omega
  · exact broken_le (show wfR (sp γ f p _ _) f from hγ)
section CF
variable {α : kα} {f : Nat} {O : Nat → Nat}
theorem c_fill1 {S : kS} {γ : kα} {p : Nat} (hF : RF (S (6 + f)) γ f) (h : sX α γ f) (hw : wfP α f) (hr : wfR α f) (hp : p < γ 1 f 0) (hO : fbd α f p (O p)) (hT : (S 2).2 6 p = nI (O p)) : ∃ S', FX5_fillPlace (6 + f) S (nI p) = some (nO (fb O γ f p), S') ∧ (∀ o', o' ≠ 6 + f → S' o' = S o') ∧ RF (S' (6 + f)) (fp O γ f p) f := by
  have hwγ := sX_P h hw
  have h5 := hwγ.1
  have o1 := hO.1
  have om := Nat.mod_lt (O p) (show 0 < 16 by omega)
  have hv : FX3_valuesFor S (nI p) = some (nI (O p % 16)) := by
    unfold FX3_valuesFor FX3_valuesFor_J21 FX3_valuesFor_J22
    simp (disch := omega) only [nI_neg, if_false, li_5, nI_l', kin_t, kgd_t, kb, kA_nI, hT, bit_15]
    rw [if_neg (by omega)]
  have hl : FX3_mayLeave S (nI p) = some (if O p < 16 then 0 else 1) := by
    unfold FX3_mayLeave FX3_mayLeave_J25 FX3_mayLeave_J26
    simp (disch := omega) only [nI_neg, if_false, li_5, nI_l', kin_t, kgd_t, kb, kA_nI, hT, bit_16, kz_0, kz_1]
    rw [if_neg (by omega)]
    by_cases q : O p < 16
    · rw [if_pos q, if_pos q]
    · rw [if_neg q, if_neg q]
  unfold FX5_fillPlace FX5_fillPlace_J21 fb fp
  rw [hv, Option.bind_some, c_isWorked hF hwγ hp, Option.bind_some]
  by_cases hk : γ 2 f p = 1
  · rw [decide_eq_true hk, b2_1, if_neg (by decide), if_pos (Or.inl hk), if_pos (Or.inl hk), nO_0]
    exact ⟨S, rfl, fun _ _ => rfl, hF⟩
  · rw [decide_eq_false hk, b2_0, if_pos rfl]
    by_cases hz : O p % 16 = 0
    · rw [hz, nI_0, if_pos rfl, if_pos (Or.inr rfl), if_pos (Or.inr rfl), nO_0]
      exact ⟨S, rfl, fun _ _ => rfl, hF⟩
    · have hn : ¬ (γ 2 f p = 1 ∨ O p % 16 = 0) := fun q => by rcases q with q | q; exact hk q; exact hz q
      have hck := fill_cok h hw hp hk hO
      rw [if_neg (by rw [nI_z (by omega)]; exact hz), hl, Option.bind_some, if_neg hn, if_neg hn]
      obtain ⟨S', q1, q2, q3⟩ := c_settle hF hwγ h.2.2 (sX_R h hr) hp hk hck
      refine ⟨S', ?_, q2, q3⟩
      by_cases q : O p < 16
      · have e1 : fset O γ f p = O p % 16 := by unfold fset; rw [if_pos q, Nat.mod_eq_of_lt q]
        have e2 : fsur O p = ov (O p % 16) := by unfold fsur; rw [if_pos q, Nat.mod_eq_of_lt q]
        rw [if_pos q, if_pos rfl, c_only S om, Option.bind_some]
        rw [e1, e2] at q1 ⊢
        rw [q1]
        rfl
      · have e1 : fset O γ f p = O p % 16 ||| γ 6 f p := by unfold fset; rw [if_neg q]
        have e2 : fsur O p = 0 := by unfold fsur; rw [if_neg q]
        have hset : setOf γ f p = γ 6 f p := by unfold setOf; rw [if_neg hk]
        have h16 := (wf_su hwγ h.2.2 (p := p) (by omega)).2.1
        rw [if_neg q, if_neg (by decide), c_setOf hF hwγ h.2.2 hp, Option.bind_some, hset, bit_or _ (by omega) _ (by omega)]
        rw [e1, e2, nO_0] at q1
        rw [e1, e2, q1]
        rfl
theorem c_fillL (hw : wfP α f) (hr : wfR α f) (hO : ∀ p, p < 5 → fbd α f p (O p)) {S0 : kS} (hT : ∀ p, p < 5 → (S0 2).2 6 p = nI (O p)) : ∀ (k m p b : Nat) (γ : kα) (S : kS), p + k = α 1 f 0 → k < m → b ≤ 6 → sX α γ f → RF (S (6 + f)) γ f → (∀ o, o ≠ 6 + f → S o = S0 o) → ∃ S', kfix (fun rec (q : kS × Int32 × Int32) => FX5_fillPlaces_B4 (6 + f) rec q.1 q.2.1 q.2.2) m (S, nO b, nI p) = some (nO (fgos O f k p γ b).2, S') ∧ (∀ o, o ≠ 6 + f → S' o = S0 o) ∧ RF (S' (6 + f)) (fgos O f k p γ b).1 f := by
  have h5 := hw.1
  intro k
  induction k with
  | zero =>
    intro m p b γ S hk hm hb hX hF hS
    obtain ⟨m, rfl⟩ : ∃ m', m = m' + 1 := ⟨m - 1, by omega⟩
    refine ⟨S, ?_, hS, hF⟩
    have e1 := hX.1 1 f 0 (by omega) (by omega)
    rw [kfix_s]
    generalize kfix (fun rec (q : kS × Int32 × Int32) => FX5_fillPlaces_B4 (6 + f) rec q.1 q.2.1 q.2.2) m = Rk
    simp (disch := omega) only [FX5_fillPlaces_B4, FX0_placeCount, kb, kI_eq, hF.1.1, e1, Option.bind_some, nI_l']
    rw [if_pos (by omega), fgos_0]
  | succ k ih =>
    intro m p b γ S hk hm hb hX hF hS
    obtain ⟨m, rfl⟩ : ∃ m', m = m' + 1 := ⟨m - 1, by omega⟩
    have e1 := hX.1 1 f 0 (by omega) (by omega)
    have hfb := fb_le (O := O) (p := p) hX hr
    obtain ⟨S1, u1, u2, u3⟩ := c_fill1 (O := O) (p := p) hF hX hw hr (by omega) (hO p (by omega)) (by rw [hS 2 (by omega)]; exact hT p (by omega))
    obtain ⟨S', v1, v2, v3⟩ := ih m (p + 1) (if b = 0 then fb O γ f p else b) (fp O γ f p) S1 (by omega) (by omega) (by split <;> omega) (fill_sX hX hw (by omega) (hO p (by omega))) u3 (fun o ho => by rw [u2 o ho, hS o ho])
    clear ih
    refine ⟨S', ?_, v2, v3⟩
    rw [kfix_s, fgos_s]
    generalize kfix (fun rec (q : kS × Int32 × Int32) => FX5_fillPlaces_B4 (6 + f) rec q.1 q.2.1 q.2.2) m = Rk at v1 ⊢
    have ep : nI p + 1 = nI (p + 1) := by rw [li_1, nI_add]
    simp (disch := omega) only [FX5_fillPlaces_B4, FX5_fillPlaces_J28, FX0_placeCount, kb, kI_eq, hF.1.1, e1, Option.bind_some, nI_l', u1, kb2_some, nO_m1, ep]
    rw [if_neg (by omega)]
    by_cases z : b = 0
    · rw [if_pos z] at v1 ⊢
      rw [if_pos z]
      exact v1
    · rw [if_neg z] at v1 ⊢
      rw [if_neg z]
      exact v1
theorem c_fills {S : kS} (hw : wfP α f) (hs : wfS α f) (hr : wfR α f) (hO : ∀ p, p < 5 → fbd α f p (O p)) (hT : ∀ p, p < 5 → (S 2).2 6 p = nI (O p)) (hF : RF (S (6 + f)) α f) : ∃ S', FX5_fillPlaces (6 + f) S = some (nO (fgos O f (α 1 f 0) 0 α 0).2, S') ∧ (∀ o, o ≠ 6 + f → S' o = S o) ∧ RF (S' (6 + f)) (fgos O f (α 1 f 0) 0 α 0).1 f := by
  have h5 := hw.1
  obtain ⟨S', q1, q2, q3⟩ := c_fillL (O := O) hw hr hO hT (α 1 f 0) kfuel 0 0 α S (by omega) (by unfold kfuel; omega) (by omega) ⟨fun _ _ _ _ _ => rfl, fun _ _ _ _ => rfl, hs⟩ hF (fun _ _ => rfl)
  refine ⟨S', ?_, q2, q3⟩
  unfold FX5_fillPlaces FX5_fillPlaces_L4
  rw [nO_0, nI_0] at q1
  exact q1
end CF
theorem fgos_sX {α : kα} {f : Nat} {O : Nat → Nat} (hw : wfP α f) (hr : wfR α f) (hO : ∀ p, p < 5 → fbd α f p (O p)) : ∀ (k p b : Nat) (γ : kα), p + k = α 1 f 0 → b ≤ 6 → sX α γ f → sX α (fgos O f k p γ b).1 f ∧ (fgos O f k p γ b).2 ≤ 6 := by
  have h5 := hw.1
  intro k
  induction k with
  | zero => intro p b γ _ hb hX; exact ⟨hX, hb⟩
  | succ k ih =>
    intro p b γ hk hb hX
    have e1 := hX.1 1 f 0 (by omega) (by omega)
    have hfb := fb_le (O := O) (p := p) hX hr
    rw [fgos_s]
    exact ih (p + 1) _ _ (by omega) (by split <;> omega) (fill_sX hX hw (by omega) (hO p (by omega)))
