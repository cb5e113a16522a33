/-! what a place is filled with, the reference -/
def fo (S S' : kS) : Prop := (∀ o, o ≠ 5 → S' o = S o) ∧ (S' 5).1 = (S 5).1 ∧ ∀ c, c ≠ 38 → (S' 5).2 c = (S 5).2 c
theorem fo_rf (S : kS) : fo S S := ⟨fun _ _ => rfl, rfl, fun _ _ => rfl⟩
theorem fo_tr {S S' S'' : kS} (h : fo S S') (h' : fo S' S'') : fo S S'' := ⟨fun o ho => by rw [h'.1 o ho, h.1 o ho], by rw [h'.2.1, h.2.1], fun c q => by rw [h'.2.2 c q, h.2.2 c q]⟩
theorem fo_s {S : kS} {g : Nat → Int32} : fo S (kpR S 5 38 g) := ⟨fun o ho => pR_ne ho, rfl, fun c hc => by rw [pR_2, if_neg (fun h => hc h.2)]⟩
theorem fo_MD {f : Nat} {α : kα} {S S' : kS} (h : fo S S') (hd : MD (S 5) α f) : MD (S' 5) α f := by
  obtain ⟨h1, h2, h3⟩ := h
  unfold MD
  rw [h2, h3 17 (by omega), h3 18 (by omega), h3 19 (by omega), h3 20 (by omega), h3 21 (by omega), h3 22 (by omega), h3 32 (by omega), h3 15 (by omega)]
  exact hd
def j47 (G : kS → Int32 → Int32 → Int32 → Int32 → Option (Int32 × kS)) (S : kS) (v1 v2 v3 s0 s1 : Int32) : Option (Int32 × kS) := kgd (kin s1 9) <| kb (kpA S 5 38 s1 s0) fun S1 => G S1 v1 v2 v3 (0 : Int32)
theorem o18s (G : kS → Int32 → Int32 → Int32 → Int32 → Option (Int32 × kS)) (S : kS) (v1 v2 : Int32) (X : Option (Int32 × kS)) {a x : Nat} {b : Bool} (ha : a < 8) (hp : FX6_mayPass S (nI a) = some (b2 b)) (hx : (S 5).2 38 (a + 1) = nI x) : (if nI a < 0 then X else ((FX6_mayPass S (nI a)).bind fun x2 => if x2 = 0 then (j47 G S v1 v2 (nI a) (0 : Int32) (nI a)) else (kgd (kin (nI a + (1 : Int32)) 9) <| kb (kA S 5 38 (nI a + (1 : Int32))) fun x3 => j47 G S v1 v2 (nI a) x3 (nI a)))) = G (kpR S 5 38 (upd ((S 5).2 38) a (nI (if b = true then x else 0)))) v1 v2 (nI a) 0 := by
  have e1 : nI a + 1 = nI (a + 1) := by rw [li_1, nI_add]
  rw [if_neg (nI_pos (by omega)), e1, hp, Option.bind_some]
  unfold j47
  cases b with
  | true =>
    rw [b2_1, if_neg (by decide), if_pos rfl]
    simp (disch := omega) only [kb, kin_t, kgd_t, kA_nI, kpA_nI, hx]
  | false =>
    rw [b2_0, if_pos rfl, if_neg (by decide)]
    simp (disch := omega) only [kb, kin_t, kgd_t, kpA_nI, nI_0]
theorem o18z (S : kS) (Y : Option (Int32 × kS)) {v : Int32} {x : Nat} (h : v < 0) (hx : (S 5).2 38 0 = nI x) : (if v < 0 then (kgd (kin (0 : Int32) 9) <| kb (kA S 5 38 (0 : Int32)) fun x1 => some (x1, S)) else Y) = some (nI x, S) := by
  rw [if_pos h]
  simp (disch := omega) only [kin_0, kgd_t, kb, kA_0, hx]
theorem oS (G : kS → Int32 → Int32 → Int32 → Option (Int32 × kS)) (S : kS) (v1 v2 : Int32) {L : Nat} (h8 : L ≤ 8) (hl : (S 5).1 33 = nI L) : (kb (kI S 5 33) fun x1 => kgd (kin x1 9) <| kb (kpA S 5 38 x1 (16 : Int32)) fun S1 => kb (kI S1 5 33) fun x2 => G S1 v1 v2 (x2 - (1 : Int32))) = G (kpR S 5 38 (upd ((S 5).2 38) L (nI 16))) v1 v2 (nO L) := by
  simp (disch := omega) only [kb, kI_eq, hl, kin_t, kgd_t, kpA_nI, pR_1, sub1, li_16]
section MO2
variable {α : kα} {f : Nat}
theorem m_outR (hG : wfG α f) (hN : α 0 0 0 ≤ 3) {a p : Nat} (ha : a < α 0 2 0) (hp : p < 5) (c18 : kS × Int32 × Int32 × Int32 → Option (Int32 × kS)) : ∀ (k m r : Nat) (S : kS), r + k = α 0 3 0 → k < m → MD (S 5) α f → (∀ i, i ≤ α 0 2 0 → (S 5).2 34 i = nI (TT α f 0 i)) → (S 5).2 38 a = nI (fd α f (TT α f) a (TT α f 0 a) (4 + p) r) → (∀ i, a < i → i ≤ α 0 2 0 → (S 5).2 38 i = nI (TT α f (4 + p) i)) → ∃ S', kfix (fun rec (q : kS × Int32 × Int32 × Int32 × Int32) => FX6_outcomes_B51 c18 rec q.1 q.2.1 q.2.2.1 q.2.2.2.1 q.2.2.2.2) m (S, nI f, nI p, nI a, nI r) = c18 (S', nI f, nI p, nO a) ∧ fo S S' ∧ (S' 5).2 38 a = nI (fd α f (TT α f) a (TT α f 0 a) (4 + p) (α 0 3 0)) ∧ ∀ i, i ≠ a → (S' 5).2 38 i = (S 5).2 38 i := by
  have h20 := hG.1.1
  have h8 := hG.2.1.1
  have B := fun i h => TT_b hG.1 hG.2.1 hG.2.2.1 hG.2.2.2.1 (α 0 2 0) i h (by omega)
  intro k
  induction k with
  | zero =>
    intro m r S hk hm hD h34 hC hT
    obtain ⟨m, rfl⟩ : ∃ m', m = m' + 1 := ⟨m - 1, by omega⟩
    have e : r = α 0 3 0 := by omega
    refine ⟨S, ?_, fo_rf _, by rw [← e]; exact hC, fun _ _ => rfl⟩
    rw [kfix_s]
    generalize kfix (fun rec (q : kS × Int32 × Int32 × Int32 × Int32) => FX6_outcomes_B51 c18 rec q.1 q.2.1 q.2.2.1 q.2.2.2.1 q.2.2.2.2) m = Rk
    show FX6_outcomes_B51 c18 Rk S (nI f) (nI p) (nI a) (nI r) = _
    unfold FX6_outcomes_B51
    refine (kbif S _ _ hD.1.1 h20 (by omega)).trans ?_
    rw [if_pos (by omega), nI_m]
  | succ k ih =>
    intro m r S hk hm hD h34 hC hT
    obtain ⟨m, rfl⟩ : ∃ m', m = m' + 1 := ⟨m - 1, by omega⟩
    have hr : r < α 0 3 0 := by omega
    obtain ⟨i1, i2, i3, i4, i5, i6, i7⟩ := hG.1.2 r hr
    have e1 : nI r + 1 = nI (r + 1) := by rw [li_1, nI_add]
    have b0 := (B a (by omega)).1
    have hF := m_isLeast (τ := TT α f) hD hG hN hr (a := a) (m := TT α f 0 a) (by omega) (fun i h1 h2 => ⟨h34 i h2, by have := (B i h2).1; omega⟩) (h34 a (by omega)) (by omega)
    have step : ∀ S1, (∀ (Rk : kS × Int32 × Int32 × Int32 × Int32 → Option (Int32 × kS)), FX6_outcomes_B51 c18 Rk S (nI f) (nI p) (nI a) (nI r) = Rk (S1, nI f, nI p, nI a, nI (r + 1))) → fo S S1 → (S1 5).2 38 a = nI (fd α f (TT α f) a (TT α f 0 a) (4 + p) (r + 1)) → (∀ i, i ≠ a → (S1 5).2 38 i = (S 5).2 38 i) → ∃ S', kfix (fun rec (q : kS × Int32 × Int32 × Int32 × Int32) => FX6_outcomes_B51 c18 rec q.1 q.2.1 q.2.2.1 q.2.2.2.1 q.2.2.2.2) (m + 1) (S, nI f, nI p, nI a, nI r) = c18 (S', nI f, nI p, nO a) ∧ fo S S' ∧ (S' 5).2 38 a = nI (fd α f (TT α f) a (TT α f 0 a) (4 + p) (α 0 3 0)) ∧ ∀ i, i ≠ a → (S' 5).2 38 i = (S 5).2 38 i := fun S1 q1 q2 q3 q4 => by
      obtain ⟨S', v1, v2, v3, v4⟩ := ih m (r + 1) S1 (by omega) (by omega) (fo_MD q2 hD) (fun i hi => by rw [q2.2.2 34 (by omega)]; exact h34 i hi) q3 (fun i h1 h2 => by rw [q4 i (by omega)]; exact hT i h1 h2)
      refine ⟨S', ?_, fo_tr q2 v2, v3, fun i hi => by rw [v4 i hi, q4 i hi]⟩
      rw [kfix_s]
      exact (q1 _).trans v1
    clear ih
    cases hl : lst α f (TT α f) a (TT α f 0 a) r with
    | true =>
      have hl' := of_decide_eq_true hl
      obtain ⟨f1, f2, f3⟩ := fit_d hl'.1
      have t1 := hT _ (by omega) f2
      have tb := ((B _ f2).2.2.2.2.2 p hp)
      have zb := ((fd_b hG ha (TT α f 0 a) (r := r) (by omega)).2.2.2 p hp)
      have ob := ow_bd (p := p) hG.2.2.1 hG.2.2.2.1 hG.2.1 hl'.1 (α 19 r 0) (Nat.le_refl _)
      have lb := (fbd_fl tb ob).1
      have z1 := zb.1
      have d6 := hD.2.1.2.2.2 r hr
      have cf := m_filled hD hG (p := p) (b := TT α f (4 + p) (a + α 19 r 0)) hr hl'.1 hp tb.1
      refine step (kpR S 5 38 (upd ((S 5).2 38) a (nI (fd α f (TT α f) a (TT α f 0 a) (4 + p) r ||| fl (TT α f (4 + p) (a + α 19 r 0)) (ow α f r a p (α 19 r 0)))))) (fun Rk => ?_) fo_s ?_ (fun i hi => by rw [pR_2, if_pos (show 5 = 5 ∧ 38 = 38 from ⟨rfl, rfl⟩), upd_eq, if_neg hi])
      · unfold FX6_outcomes_B51
        refine (kbif S _ _ hD.1.1 h20 (by omega)).trans ?_
        rw [if_neg (by omega), hF, Option.bind_some, hl, b2_1, if_neg (by decide)]
        simp (disch := omega) only [kb, kin_t, kgd_t, kA_nI, kpA_nI, d6, nI_add, hC, t1, cf, Option.bind_some, bit_or, FX6_outcomes_J103, e1]
      · rw [pR_2, if_pos (show 5 = 5 ∧ 38 = 38 from ⟨rfl, rfl⟩), upd_eq, if_pos rfl, fd_s, if_pos hl']
        unfold cb
        rw [if_neg (by omega), if_neg (by omega), if_neg (by omega), show 4 + p - 4 = p by omega]
    | false =>
      have hl' := of_decide_eq_false hl
      refine step S (fun Rk => ?_) (fo_rf _) ?_ (fun _ _ => rfl)
      · unfold FX6_outcomes_B51
        refine (kbif S _ _ hD.1.1 h20 (by omega)).trans ?_
        rw [if_neg (by omega), hF, Option.bind_some, hl, b2_0, if_pos rfl]
        simp only [FX6_outcomes_J103, e1]
      · rw [fd_s, if_neg hl']
        exact hC
theorem m_outL (hG : wfG α f) (hN : α 0 0 0 ≤ 3) {p : Nat} (hp : p < 5) : ∀ (a m : Nat) (S : kS), a ≤ α 0 2 0 → a < m → MD (S 5) α f → (∀ i, i ≤ α 0 2 0 → (S 5).2 34 i = nI (TT α f 0 i)) → (∀ i, a ≤ i → i ≤ α 0 2 0 → (S 5).2 38 i = nI (TT α f (4 + p) i)) → ∃ S', kfix (fun rec (q : kS × Int32 × Int32 × Int32) => FX6_outcomes_B18 rec q.1 q.2.1 q.2.2.1 q.2.2.2) m (S, nI f, nI p, nO a) = some (nI (TT α f (4 + p) 0), S') ∧ fo S S' := by
  have h20 := hG.1.1
  have h8 := hG.2.1.1
  have B := fun i h => TT_b hG.1 hG.2.1 hG.2.2.1 hG.2.2.2.1 (α 0 2 0) i h (by omega)
  intro a
  induction a with
  | zero =>
    intro m S _ hm hD h34 hT
    obtain ⟨m, rfl⟩ : ∃ m', m = m' + 1 := ⟨m - 1, by omega⟩
    refine ⟨S, ?_, fo_rf _⟩
    rw [kfix_s]
    generalize kfix (fun rec (q : kS × Int32 × Int32 × Int32) => FX6_outcomes_B18 rec q.1 q.2.1 q.2.2.1 q.2.2.2) m = Rk
    show FX6_outcomes_B18 Rk S (nI f) (nI p) (nO 0) = _
    unfold FX6_outcomes_B18
    exact o18z S _ (by rw [nO_0]; decide) (hT 0 (by omega) (by omega))
  | succ a ih =>
    intro m S ha hm hD h34 hT
    obtain ⟨m, rfl⟩ : ∃ m', m = m' + 1 := ⟨m - 1, by omega⟩
    have b0 := (B a (by omega)).1
    have b1 := (B (a + 1) (by omega)).1
    have mp := m_mayPass (S := S) (τ := TT α f) (a := a) (m := TT α f 0 a) (by omega) (h34 (a + 1) (by omega)) (by omega) (h34 a (by omega)) (by omega)
    have k0 : fo S (kpR S 5 38 (upd ((S 5).2 38) a (nI (if decide (6 + TT α f 0 (a + 1) = TT α f 0 a) = true then TT α f (4 + p) (a + 1) else 0)))) := fo_s
    have z0 : (kpR S 5 38 (upd ((S 5).2 38) a (nI (if decide (6 + TT α f 0 (a + 1) = TT α f 0 a) = true then TT α f (4 + p) (a + 1) else 0))) 5).2 38 a = nI (fd α f (TT α f) a (TT α f 0 a) (4 + p) 0) := by
      rw [pR_2, if_pos (show 5 = 5 ∧ 38 = 38 from ⟨rfl, rfl⟩), upd_eq, if_pos rfl, fd_0]
      unfold st0
      rw [if_neg (show ¬ 4 + p = 2 by omega)]
      by_cases q : 6 + TT α f 0 (a + 1) = TT α f 0 a
      · rw [if_pos q, if_pos (decide_eq_true q)]
      · rw [if_neg q, if_neg (by rw [decide_eq_false q]; decide)]
    have zi : ∀ i, i ≠ a → (kpR S 5 38 (upd ((S 5).2 38) a (nI (if decide (6 + TT α f 0 (a + 1) = TT α f 0 a) = true then TT α f (4 + p) (a + 1) else 0))) 5).2 38 i = (S 5).2 38 i := fun i hi => by
      rw [pR_2, if_pos (show 5 = 5 ∧ 38 = 38 from ⟨rfl, rfl⟩), upd_eq, if_neg hi]
    obtain ⟨S1, u1, u2, u3, u4⟩ := m_outR hG hN (a := a) (p := p) (by omega) hp (kfix (fun rec (q : kS × Int32 × Int32 × Int32) => FX6_outcomes_B18 rec q.1 q.2.1 q.2.2.1 q.2.2.2) m) (α 0 3 0) kfuel 0 _ (by omega) (by unfold kfuel; omega) (fo_MD k0 hD) (fun i hi => by rw [k0.2.2 34 (by omega)]; exact h34 i hi) z0 (fun i h1 h2 => by rw [zi i (by omega)]; exact hT i (by omega) h2)
    have k1 := fo_tr k0 u2
    obtain ⟨S', v1, v2⟩ := ih m S1 (by omega) (by omega) (fo_MD k1 hD) (fun i hi => by rw [k1.2.2 34 (by omega)]; exact h34 i hi) (fun i h1 h2 => by
      by_cases e : i = a
      · rw [e, u3, ← TT_s hG.1 (by omega) (by omega)]
      · rw [u4 i e, zi i e]
        exact hT i (by omega) h2)
    refine ⟨S', ?_, fo_tr k1 v2⟩
    clear ih
    rw [kfix_s]
    generalize kfix (fun rec (q : kS × Int32 × Int32 × Int32) => FX6_outcomes_B18 rec q.1 q.2.1 q.2.2.1 q.2.2.2) m = Rk at u1 v1 ⊢
    show FX6_outcomes_B18 Rk S (nI f) (nI p) (nO (a + 1)) = _
    rw [nO_s]
    unfold FX6_outcomes_B18
    refine (o18s (FX6_outcomes_L51 Rk) S (nI f) (nI p) _ (by omega) mp (hT (a + 1) (by omega) (by omega))).trans ?_
    unfold FX6_outcomes_L51
    rw [nI_0] at u1
    exact u1.trans v1
theorem m_outcomes {S : kS} (hG : wfG α f) (hN : α 0 0 0 ≤ 3) {p : Nat} (hp : p < 5) (hD : MD (S 5) α f) (h34 : ∀ i, i ≤ α 0 2 0 → (S 5).2 34 i = nI (TT α f 0 i)) : ∃ S', FX6_outcomes S (nI f) (nI p) = some (nI (TT α f (4 + p) 0), S') ∧ fo S S' := by
  have h8 := hG.2.1.1
  have k0 : fo S (kpR S 5 38 (upd ((S 5).2 38) (α 0 2 0) (nI 16))) := fo_s
  obtain ⟨S', x1, x2⟩ := m_outL hG hN hp (α 0 2 0) kfuel _ (Nat.le_refl _) (by unfold kfuel; omega) (fo_MD k0 hD) (fun i hi => by rw [k0.2.2 34 (by omega)]; exact h34 i hi) (fun i h1 h2 => by
    have e : i = α 0 2 0 := by omega
    rw [e, pR_2, if_pos (show 5 = 5 ∧ 38 = 38 from ⟨rfl, rfl⟩), upd_eq, if_pos rfl, TT_L, if_neg (by omega), if_pos (by omega)])
  refine ⟨S', ?_, fo_tr k0 x2⟩
  unfold FX6_outcomes
  refine (oS FX6_outcomes_L18 S (nI f) (nI p) h8 hD.1.2).trans ?_
  unfold FX6_outcomes_L18
  exact x1
end MO2
