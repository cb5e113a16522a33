/-! what a line fills: the reference's loop -/
theorem b16_15 : (16 : Int32) &&& 15 = 0 := by decide
theorem u_1 : (1 : Int32) &&& 1 = 1 := by decide
theorem u_0 : (0 : Int32) &&& 1 = 0 := by decide
section MFL
variable {α : kα} {f : Nat}
theorem m_J131 {S0 S : kS} {γ : kα} {p s v b : Nat} {u : Int32} (hS : FM S0 S γ b) (hb : b ≤ 6) (hX : sX α γ f) (hw : wfP α f) (hr : wfR α f) (hf : f < 3) (hp : p < 5) (hk : cok γ f p s v) (hM : MF (S0 5) α f) (hu : u = if v = 0 then 0 else 1) : ∃ S', (∀ Rk : kS × Int32 × Int32 → Option kS, FX6_fills_J131 Rk (kpR S 5 8 (upd ((S 5).2 8) (5 * f + p) u)) (nI f) (nI p) (nI (5 * f + p)) (nI (γ 6 f p)) (if γ 7 f p = 0 then 0 else 1) (nI s) (nI (5 * f + p)) = Rk (S', nI f, nI (p + 1))) ∧ FM S0 S' (stl γ f p s v) (if b = 0 then broken (sp γ f p s v) f else b) := by
  obtain ⟨S', q1, q2⟩ := m_stl (S1 := kpR (kpR S 5 8 (upd ((S 5).2 8) (5 * f + p) u)) 5 7 (upd ((S 5).2 7) (5 * f + p) (nI s))) (s := s) (v := v) hS hb hX hw hr hf hp hk hM (fun o ho => by rw [pR_ne ho, pR_ne ho]) rfl (fun c h7 h8 => by rw [pR_2, if_neg (fun h => h7 h.2), pR_2, if_neg (fun h => h8 h.2)]) (fun y => rfl) (fun y => by rw [← hu]; rfl)
  refine ⟨S', fun Rk => ?_, q2⟩
  unfold FX6_fills_J131 FX6_fills_J142
  simp (disch := omega) only [kin_t, kgd_t, kb, kpA_nI, pR_2, and_false, Nat.reduceEqDiff, if_false, q1, Option.bind_some]
  rw [li_1, nI_add]
theorem m_fill1 {S0 S : kS} {γ : kα} {p b : Nat} (hS : FM S0 S γ b) (hb : b ≤ 6) (hX : sX α γ f) (hG : wfG α f) (hN : α 0 0 0 ≤ 3) (hr : wfR α f) (hp : p < α 1 f 0) (hM : MF (S0 5) α f) (hD : MD (S0 5) α f) (h34 : ∀ i, i ≤ α 0 2 0 → (S0 5).2 34 i = nI (TT α f 0 i)) : ∃ S', (∀ Rk : kS × Int32 × Int32 → Option kS, FX6_fills_B2 Rk S (nI f) (nI p) = Rk (S', nI f, nI (p + 1))) ∧ FM S0 S' (fp (fun p => TT α f (4 + p) 0) γ f p) (if b = 0 then fb (fun p => TT α f (4 + p) 0) γ f p else b) := by
  have hw := hG.2.2.1
  have hf := hG.2.2.2.2
  have h5 := hw.1
  have e1 := hX.1 1 f 0 (by omega) (by omega)
  have e2 := hX.1 2 f p (by omega) (by omega)
  have hMS := hS.2.2.2.2
  have c1 : (S 5).2 2 f = nI (α 1 f 0) := by rw [← e1]; exact hMS.1 f hf
  have c3 : (S 5).2 3 (5 * f + p) = nI (γ 2 f p) := by
    rw [hS.2.2.1 3 (by omega) (by omega) (by omega), e2]
    exact hM.1.1 p hp
  have k2 : γ 2 f p ≤ 2 := by rw [e2]; exact (hw.2 p hp).1
  have ep : nI p + 1 = nI (p + 1) := by rw [li_1, nI_add]
  have opn : ∀ Rk : kS × Int32 × Int32 → Option kS, FX6_fills_B2 Rk S (nI f) (nI p) = if γ 2 f p = 1 then FX6_fills_J39 Rk S (nI f) (nI p) (nI (5 * f + p)) 16 else (kb2 (FX6_outcomes S (nI f) (nI p)) fun x3 S1 => FX6_fills_J39 Rk S1 (nI f) (nI p) (nI (5 * f + p)) x3) := fun Rk => by
    unfold FX6_fills_B2
    simp (disch := omega) only [kb, kin_t, kgd_t, kA_nI, c1, li_5, nI_mul, nI_add, c3, nI_o, nI_l']
    rw [if_neg (by omega)]
  by_cases hk : γ 2 f p = 1
  · refine ⟨S, fun Rk => ?_, ?_⟩
    · rw [opn, if_pos hk]
      unfold FX6_fills_J39 FX6_fills_J142
      rw [if_pos b16_15, ep]
    · unfold fp fb
      rw [if_pos (Or.inl hk), if_pos (Or.inl hk)]
      have : (if b = 0 then 0 else b) = b := by split <;> omega
      rw [this]
      exact hS
  · obtain ⟨S1, o1, o2⟩ := m_outcomes (S := S) hG hN (p := p) (by omega) (FM_MD hS hD) (fun i hi => by rw [hS.2.2.1 34 (by omega) (by omega) (by omega)]; exact h34 i hi)
    have hS1 : FM S0 S1 γ b := by
      obtain ⟨s1, s2, s3, s4, s5⟩ := hS
      refine ⟨fun o ho => by rw [o2.1 o ho, s1 o ho], fun c hc => by rw [o2.2.1, s2 c hc], fun c h7 h8 h38 => by rw [o2.2.2 c h38, s3 c h7 h8 h38], by rw [o2.2.1]; exact s4, ?_⟩
      unfold MS
      rw [o2.2.2 2 (by omega), o2.2.2 9 (by omega), o2.2.2 7 (by omega), o2.2.2 8 (by omega)]
      exact s5
    have hO := (TT_b hG.1 hG.2.1 hG.2.2.1 hG.2.2.2.1 (α 0 2 0) 0 (by omega) (by omega)).2.2.2.2.2 p (by omega)
    have hck := fill_cok (O := fun p => TT α f (4 + p) 0) hX hw (by omega) hk hO
    have w1 := hO.1
    have om := Nat.mod_lt (TT α f (4 + p) 0) (show 0 < 16 by omega)
    have h16 := (wf_su (sX_P hX hw) hX.2.2 (p := p) (by omega)).2.1
    have d7 : (S1 5).2 7 (5 * f + p) = nI (γ 6 f p) := hS1.2.2.2.2.2.2.1 f p hf (by omega)
    have d8 : (S1 5).2 8 (5 * f + p) = if γ 7 f p = 0 then 0 else 1 := hS1.2.2.2.2.2.2.2 f p hf (by omega)
    have mo := m_one S1 om
    by_cases hz : TT α f (4 + p) 0 % 16 = 0
    · refine ⟨S1, fun Rk => ?_, ?_⟩
      · rw [opn, if_neg hk, o1, kb2_some]
        unfold FX6_fills_J39 FX6_fills_J142
        rw [if_pos (by rw [bit_15 _ w1, hz]; rfl), ep]
      · unfold fp fb
        rw [if_pos (Or.inr hz), if_pos (Or.inr hz)]
        have : (if b = 0 then 0 else b) = b := by split <;> omega
        rw [this]
        exact hS1
    · have hn : ¬ (γ 2 f p = 1 ∨ TT α f (4 + p) 0 % 16 = 0) := fun q => by rcases q with q | q; exact hk q; exact hz q
      obtain ⟨S', q1, q2⟩ := m_J131 (u := if fsur (fun p => TT α f (4 + p) 0) p = 0 then 0 else 1) hS1 hb hX hw hr hf (show p < 5 by omega) hck hM rfl
      refine ⟨S', fun Rk => ?_, by unfold fp fb; rw [if_neg hn, if_neg hn]; exact q2⟩
      rw [opn, if_neg hk, o1, kb2_some]
      have q1 := q1 Rk
      rw [← q1]
      clear q1 q2
      unfold FX6_fills_J39
      rw [if_neg (by rw [bit_15 _ w1, nI_z (by omega)]; exact hz)]
      simp (disch := omega) only [kin_t, kgd_t, kb, kA_nI, d7, d8, bit_15, mo, Option.bind_some, bit_16]
      unfold fset fsur
      dsimp only
      by_cases q : TT α f (4 + p) 0 < 16
      · simp only [if_pos q, Nat.mod_eq_of_lt q]
        by_cases z : ov (TT α f (4 + p) 0) = 0
        · rw [if_pos z, if_pos rfl]
          unfold FX6_fills_J97 FX6_fills_J98 FX6_fills_J121
          simp (disch := omega) only [u_0, kin_t, kgd_t, kb, kA_nI, kpA_nI, pR_2, and_self, if_true, upd_eq, bit_16]
          rw [if_pos q]
        · rw [if_neg z, if_neg (by decide)]
          unfold FX6_fills_J98 FX6_fills_J121
          simp (disch := omega) only [u_1, kin_t, kgd_t, kb, kA_nI, kpA_nI, pR_2, and_self, if_true, upd_eq, o_ne, if_false]
      · simp only [if_neg q, eq_self, if_true, ite_self]
        unfold FX6_fills_J97 FX6_fills_J98
        simp (disch := omega) only [u_0, kin_t, kgd_t, kb, kA_nI, kpA_nI, pR_2, and_self, if_true, upd_eq, bit_16, bit_or]
        rw [if_neg q]
theorem m_fillL (hG : wfG α f) (hN : α 0 0 0 ≤ 3) (hr : wfR α f) {S0 : kS} (hM : MF (S0 5) α f) (hD : MD (S0 5) α f) (h34 : ∀ i, i ≤ α 0 2 0 → (S0 5).2 34 i = nI (TT α f 0 i)) : ∀ (k m p b : Nat) (γ : kα) (S : kS), p + k = α 1 f 0 → k < m → b ≤ 6 → sX α γ f → FM S0 S γ b → ∃ S', kfix (fun rec (q : kS × Int32 × Int32) => FX6_fills_B2 rec q.1 q.2.1 q.2.2) m (S, nI f, nI p) = some S' ∧ FM S0 S' (fgos (fun p => TT α f (4 + p) 0) f k p γ b).1 (fgos (fun p => TT α f (4 + p) 0) f k p γ b).2 := by
  have hw := hG.2.2.1
  have hf := hG.2.2.2.2
  have h5 := hw.1
  intro k
  induction k with
  | zero =>
    intro m p b γ S hk hm hb hX hS
    obtain ⟨m, rfl⟩ : ∃ m', m = m' + 1 := ⟨m - 1, by omega⟩
    refine ⟨S, ?_, hS⟩
    have e1 := hX.1 1 f 0 (by omega) (by omega)
    have c1 : (S 5).2 2 f = nI (α 1 f 0) := by rw [← e1]; exact hS.2.2.2.2.1 f hf
    rw [kfix_s]
    generalize kfix (fun rec (q : kS × Int32 × Int32) => FX6_fills_B2 rec q.1 q.2.1 q.2.2) m = Rk
    simp (disch := omega) only [FX6_fills_B2, kb, kin_t, kgd_t, kA_nI, c1, nI_l']
    rw [if_pos (by omega)]
  | succ k ih =>
    intro m p b γ S hk hm hb hX hS
    obtain ⟨m, rfl⟩ : ∃ m', m = m' + 1 := ⟨m - 1, by omega⟩
    have e1 := hX.1 1 f 0 (by omega) (by omega)
    have hfb := fb_le (O := fun p => TT α f (4 + p) 0) (p := p) hX hr
    have hO := (TT_b hG.1 hG.2.1 hG.2.2.1 hG.2.2.2.1 (α 0 2 0) 0 (by omega) (by omega)).2.2.2.2.2 p (by omega)
    obtain ⟨S1, u1, u2⟩ := m_fill1 hS hb hX hG hN hr (p := p) (by omega) hM hD h34
    obtain ⟨S', v1, v2⟩ := ih m (p + 1) (if b = 0 then fb (fun p => TT α f (4 + p) 0) γ f p else b) (fp (fun p => TT α f (4 + p) 0) γ f p) S1 (by omega) (by omega) (by split <;> omega) (fill_sX hX hw (by omega) hO) u2
    clear ih
    refine ⟨S', ?_, v2⟩
    rw [kfix_s]
    exact (u1 _).trans v1
end MFL
