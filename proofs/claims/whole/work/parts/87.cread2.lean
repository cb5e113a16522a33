/-! reading: the class's loops -/
def lst (α : kα) (f : Nat) (τ : Nat → Nat → Nat) (a m r : Nat) : Bool := decide (fit α f r a = true ∧ α 17 r 0 + τ 0 (a + α 19 r 0) = m)
def cgo (α : kα) (f : Nat) : Nat → Nat → Nat → Nat
  | 0, _, c => c
  | k + 1, r, c => if lst α f (TT α f) 0 (TT α f 0 0) r = true then (if (c ≠ 0 ∧ c ≠ α 18 r 0 + 1) ∨ α 19 r 0 ≠ α 0 2 0 then 0 else cgo α f k (r + 1) (α 18 r 0 + 1)) else cgo α f k (r + 1) c
theorem cgo_0 (α : kα) (f r c : Nat) : cgo α f 0 r c = c := rfl
theorem cgo_s (α : kα) (f k r c : Nat) : cgo α f (k + 1) r c = if lst α f (TT α f) 0 (TT α f 0 0) r = true then (if (c ≠ 0 ∧ c ≠ α 18 r 0 + 1) ∨ α 19 r 0 ≠ α 0 2 0 then 0 else cgo α f k (r + 1) (α 18 r 0 + 1)) else cgo α f k (r + 1) c := rfl
def ans (α : kα) (f : Nat) : Nat := if TT α f 0 0 = 6 + TT α f 0 1 then 0 else cgo α f (α 0 3 0) 0 0
theorem fit_no {α : kα} {f r a : Nat} (h : ¬ α 16 r 0 = f) : ¬ fit α f r a = true := fun q => h (fit_d q).1
section CL
variable {α : kα} {f : Nat}
theorem c_cgo {S : kS} (hD : CD S α f) (hG : wfG α f) (hN : α 0 0 0 ≤ 3) (hT : ∀ i, i ≤ α 0 2 0 → CA (S 2) i (fun c => TT α f c i)) : ∀ (k m r c : Nat), r + k = α 0 3 0 → k < m → c ≤ 3 → kfix (fun rec (q : Int32 × Int32 × Int32) => FX3_commonAnswer_B33 (6 + f) rec S q.1 q.2.1 q.2.2) m (nI f, nO c, nI r) = some (nO (cgo α f k r c)) := by
  have h20 := hG.1.1
  have h8 := hG.2.1.1
  have hf := hG.2.2.2.2
  have B := fun i h => TT_b hG.1 hG.2.1 hG.2.2.1 hG.2.2.2.1 (α 0 2 0) i h (by omega)
  intro k
  induction k with
  | zero =>
    intro m r c hk hm hc
    obtain ⟨m, rfl⟩ : ∃ m', m = m' + 1 := ⟨m - 1, by omega⟩
    rw [kfix_s]
    generalize kfix (fun rec (q : Int32 × Int32 × Int32) => FX3_commonAnswer_B33 (6 + f) rec S q.1 q.2.1 q.2.2) m = Rk
    simp (disch := omega) only [FX3_commonAnswer_B33, c_rowCount hD.1, Option.bind_some, nI_l']
    rw [if_pos (by omega), cgo_0]
  | succ k ih =>
    intro m r c hk hm hc
    obtain ⟨m, rfl⟩ : ∃ m', m = m' + 1 := ⟨m - 1, by omega⟩
    rw [kfix_s]
    have ihm := fun c hc => ih m (r + 1) c (by omega) (by omega) hc
    clear ih
    generalize kfix (fun rec (q : Int32 × Int32 × Int32) => FX3_commonAnswer_B33 (6 + f) rec S q.1 q.2.1 q.2.2) m = Rk at ihm ⊢
    have hr : r < α 0 3 0 := by omega
    obtain ⟨i1, i2, i3, i4, i5, i6, i7⟩ := hG.1.2 r hr
    have e1 : nI r + 1 = nI (r + 1) := by rw [li_1, nI_add]
    simp (disch := omega) only [FX3_commonAnswer_B33, FX3_commonAnswer_J143, c_rowCount hD.1, c_isOfForm hD.1 hG.1 hN hf hr, Option.bind_some, nI_l', e1]
    rw [if_neg (by omega)]
    by_cases h16 : α 16 r 0 = f
    · have cf := c_fits hD hG hr h16 (a := 0) (by omega)
      rw [nI_0] at cf
      rw [decide_eq_true h16, b2_1, if_neg (by decide), cf, Option.bind_some]
      cases hft : fit α f r 0 with
      | false =>
        rw [b2_0, if_pos rfl, cgo_s, if_neg (by unfold lst; rw [hft]; simp)]
        exact ihm c hc
      | true =>
        have f2 := (fit_d hft).2.1
        have t1 := (hT (α 19 r 0) (by omega)).1
        have t0 := (hT 0 (by omega)).1
        have b1 := (B (α 19 r 0) (by omega)).1
        have b0 := (B 0 (by omega)).1
        rw [b2_1, if_neg (by decide)]
        simp (disch := omega) only [c_costOf hD.1 hG.1 hr, c_lengthOf hD.1 hG.1 hr, c_actOf hD.1 hG.1 hr, Option.bind_some, kin_t, kin_0, kgd_t, kb, kA_nI, kA_0, t1, t0, nI_add, nI_e, nO_m1, nO_e, FX3_commonAnswer_J112, FX3_commonAnswer_J113, FX3_commonAnswer_J133, FX3_commonAnswer_J143, kI_eq, hD.2.2.1, e1, o_ne, if_false, if_true]
        rw [cgo_s]
        by_cases hq : α 17 r 0 + TT α f 0 (α 19 r 0) = TT α f 0 0
        · have hls : lst α f (TT α f) 0 (TT α f 0 0) r = true := by unfold lst; exact decide_eq_true ⟨hft, by rw [Nat.zero_add]; exact hq⟩
          rw [if_pos hq, if_pos hls]
          by_cases c0 : c = 0
          · rw [if_pos c0]
            by_cases hl : α 19 r 0 = α 0 2 0
            · rw [if_pos hl, if_neg (by omega), ← nO_s (α 18 r 0)]
              exact ihm _ (by omega)
            · rw [if_neg hl, if_pos (by omega), nO_0]
          · rw [if_neg c0]
            by_cases hc1 : c = α 18 r 0 + 1
            · rw [if_pos hc1]
              by_cases hl : α 19 r 0 = α 0 2 0
              · rw [if_pos hl, if_neg (by omega), ← nO_s (α 18 r 0)]
                exact ihm _ (by omega)
              · rw [if_neg hl, if_pos (by omega), nO_0]
            · rw [if_neg hc1, if_pos (by omega), nO_0]
        · have hls : ¬ lst α f (TT α f) 0 (TT α f 0 0) r = true := by unfold lst; rw [decide_eq_true_eq, Nat.zero_add]; exact fun h => hq h.2
          rw [if_neg hq, if_neg hls]
          exact ihm c hc
    · rw [decide_eq_false h16, b2_0, if_pos rfl, cgo_s, if_neg (by unfold lst; rw [decide_eq_true_eq]; exact fun h => fit_no h16 h.1)]
      exact ihm c hc
theorem c_ansS (S : kS) (G : Option Int32) {L x y : Nat} (h0 : L ≠ 0) (h8 : L ≤ 8) (hl : (S 2).1 1 = nI L) (hx : (S 2).2 2 0 = nI x) (hy : (S 2).2 2 1 = nI y) (bx : x < 1000) (by' : y < 1000) : (kb (kI S 2 1) fun x1 => if x1 ≤ 0 then (some (-1 : Int32)) else (kgd (kin (0 : Int32) 9) <| kb (kA S 2 2 (0 : Int32)) fun x2 => kgd (kin (1 : Int32) 9) <| kb (kA S 2 2 (1 : Int32)) fun x3 => if x2 = ((6 : Int32) + x3) then (some (-1 : Int32)) else G)) = if x = 6 + y then some (nO 0) else G := by
  have e1 : kA S 2 2 1 = nI y := by rw [li_1, kA_nI (by omega)]; exact hy
  have e2 : kin (1 : Int32) 9 = true := by rw [li_1]; exact kin_t (by omega) (by omega)
  simp (disch := omega) only [kb, kI_eq, hl, nI_lz, kin_0, kgd_t, kA_0, hx, e1, e2, li_6, nI_add, nI_e, nO_0]
  rw [if_neg h0]
theorem c_ans {S : kS} (hD : CD S α f) (hG : wfG α f) (hN : α 0 0 0 ≤ 3) (h0 : α 0 2 0 ≠ 0) (hT : ∀ i, i ≤ α 0 2 0 → CA (S 2) i (fun c => TT α f c i)) : FX3_commonAnswer (6 + f) S (nI f) = some (nO (ans α f)) := by
  have h8 := hG.2.1.1
  have h20 := hG.1.1
  have B := fun i h => TT_b hG.1 hG.2.1 hG.2.2.1 hG.2.2.2.1 (α 0 2 0) i h (by omega)
  have b0 := (B 0 (by omega)).1
  have b1 := (B 1 (by omega)).1
  have hL : FX3_commonAnswer_L33 (6 + f) S (nI f) (-1) 0 = some (nO (cgo α f (α 0 3 0) 0 0)) := by
    unfold FX3_commonAnswer_L33
    have := c_cgo hD hG hN hT (α 0 3 0) kfuel 0 0 (by omega) (by unfold kfuel; omega) (by omega)
    rw [nO_0, nI_0] at this
    exact this
  unfold FX3_commonAnswer FX3_commonAnswer_J25
  refine (c_ansS S (FX3_commonAnswer_L33 (6 + f) S (nI f) (-1) 0) (x := TT α f 0 0) (y := TT α f 0 1) h0 h8 hD.2.2.1 (hT 0 (by omega)).1 (hT 1 (by omega)).1 (by omega) (by omega)).trans ?_
  rw [hL]
  unfold ans
  by_cases q : TT α f 0 0 = 6 + TT α f 0 1
  · rw [if_pos q, if_pos q]
  · rw [if_neg q, if_neg q]
theorem c_rows (hG : wfG α f) (hN : α 0 0 0 ≤ 3) {a : Nat} (ha : a < α 0 2 0) (c59 : kS × Int32 × Int32 → Option kS) : ∀ (k m r : Nat) (S : kS), r + k = α 0 3 0 → k < m → CD S α f → CA (S 2) a (gr α f (TT α f) a r) → (∀ i, a < i → i ≤ α 0 2 0 → CA (S 2) i (fun c => TT α f c i)) → ∃ S', kfix (fun rec (q : kS × Int32 × Int32 × Int32) => FX3_read_B73 (6 + f) c59 rec q.1 q.2.1 q.2.2.1 q.2.2.2) m (S, nI f, nI a, nI r) = c59 (S', nI f, nO a) ∧ kp a S S' ∧ CA (S' 2) a (gr α f (TT α f) a (α 0 3 0)) := by
  have h20 := hG.1.1
  have h8 := hG.2.1.1
  have hf := hG.2.2.2.2
  have B := fun i h => TT_b hG.1 hG.2.1 hG.2.2.1 hG.2.2.2.1 (α 0 2 0) i h (by omega)
  intro k
  induction k with
  | zero =>
    intro m r S hk hm hD hC hT
    obtain ⟨m, rfl⟩ : ∃ m', m = m' + 1 := ⟨m - 1, by omega⟩
    have e : r = α 0 3 0 := by omega
    refine ⟨S, ?_, kp_rf _ _, by rw [← e]; exact hC⟩
    rw [kfix_s]
    generalize kfix (fun rec (q : kS × Int32 × Int32 × Int32) => FX3_read_B73 (6 + f) c59 rec q.1 q.2.1 q.2.2.1 q.2.2.2) m = Rk
    simp (disch := omega) only [FX3_read_B73, c_rowCount hD.1, Option.bind_some, nI_l', nI_m]
    rw [if_pos (by omega)]
  | succ k ih =>
    intro m r S hk hm hD hC hT
    obtain ⟨m, rfl⟩ : ∃ m', m = m' + 1 := ⟨m - 1, by omega⟩
    have hr : r < α 0 3 0 := by omega
    obtain ⟨i1, i2, i3, i4, i5, i6, i7⟩ := hG.1.2 r hr
    have e1 : nI r + 1 = nI (r + 1) := by rw [li_1, nI_add]
    by_cases hft : fit α f r a = true
    · obtain ⟨f1, f2, f3⟩ := fit_d hft
      obtain ⟨b0, b1, b2', b4⟩ := gr_b hG ha (r := r) (by omega)
      obtain ⟨t0, t1, t1', t2, t3, t4⟩ := B (a + α 19 r 0) f2
      obtain ⟨S1, u1, u2, u3⟩ := c_use (τ := TT α f) hD hG hr hft hC (hT _ (by omega) f2) ⟨b0, by omega⟩ ⟨b1, b2', b4⟩ ⟨t1', by omega, fun p hp => (t4 p hp).1⟩
      obtain ⟨S', v1, v2, v3⟩ := ih m (r + 1) S1 (by omega) (by omega) (kp_CD u2 hD) (CA_cg u3 (fun c => (gr_y hft c).symm)) (fun i h1 h2 => kp_CA u2 (by omega) (hT i h1 h2))
      refine ⟨S', ?_, kp_tr u2 v2, v3⟩
      clear ih
      rw [kfix_s]
      generalize kfix (fun rec (q : kS × Int32 × Int32 × Int32) => FX3_read_B73 (6 + f) c59 rec q.1 q.2.1 q.2.2.1 q.2.2.2) m = Rk at v1 ⊢
      simp (disch := omega) only [FX3_read_B73, FX3_read_J115, c_rowCount hD.1, c_isOfForm hD.1 hG.1 hN hf hr, c_fits hD hG hr f1 (show a < 8 by omega), Option.bind_some, nI_l', e1, u1, hft, decide_eq_true f1, b2_1, o_ne, if_false]
      rw [if_neg (by omega)]
      exact v1
    · obtain ⟨S', v1, v2, v3⟩ := ih m (r + 1) S (by omega) (by omega) hD (CA_cg hC (fun c => (gr_n hft c).symm)) hT
      refine ⟨S', ?_, v2, v3⟩
      clear ih
      rw [kfix_s]
      generalize kfix (fun rec (q : kS × Int32 × Int32 × Int32) => FX3_read_B73 (6 + f) c59 rec q.1 q.2.1 q.2.2.1 q.2.2.2) m = Rk at v1 ⊢
      simp (disch := omega) only [FX3_read_B73, FX3_read_J115, c_rowCount hD.1, c_isOfForm hD.1 hG.1 hN hf hr, Option.bind_some, nI_l', e1]
      rw [if_neg (by omega)]
      by_cases h16 : α 16 r 0 = f
      · rw [decide_eq_true h16, b2_1, if_neg (by decide), c_fits hD hG hr h16 (show a < 8 by omega), Option.bind_some]
        have hff : fit α f r a = false := by cases q : fit α f r a with
          | true => exact absurd q hft
          | false => rfl
        rw [hff, b2_0, if_pos rfl]
        exact v1
      · rw [decide_eq_false h16, b2_0, if_pos rfl]
        exact v1
theorem r59z (o1 : Nat) (S : kS) (G : kS → Int32 → Int32 → Int32 → Option kS) {v2 v6 x : Int32} (h : v6 < 0) (hx : FX3_commonAnswer o1 S v2 = some x) : (if v6 < 0 then ((FX3_commonAnswer o1 S v2).bind fun x1 => kb (kpI S 2 7 x1) fun S1 => some S1) else ((FX3_passWord S v6).bind fun S2 => G S2 v2 v6 (0 : Int32))) = some (kpI S 2 7 x) := by
  rw [if_pos h, hx]
  rfl
theorem r59s (o1 : Nat) (S S2 : kS) (G : kS → Int32 → Int32 → Int32 → Option kS) {v2 v6 : Int32} (h : ¬ v6 < 0) (hx : FX3_passWord S v6 = some S2) : (if v6 < 0 then ((FX3_commonAnswer o1 S v2).bind fun x1 => kb (kpI S 2 7 x1) fun S1 => some S1) else ((FX3_passWord S v6).bind fun S2 => G S2 v2 v6 (0 : Int32))) = G S2 v2 v6 0 := by
  rw [if_neg h, hx]
  rfl
theorem c_readL (hG : wfG α f) (hN : α 0 0 0 ≤ 3) (h0 : α 0 2 0 ≠ 0) : ∀ (a m : Nat) (S : kS), a ≤ α 0 2 0 → a < m → CD S α f → (∀ i, a ≤ i → i ≤ α 0 2 0 → CA (S 2) i (fun c => TT α f c i)) → ∃ S', kfix (fun rec (q : kS × Int32 × Int32) => FX3_read_B59 (6 + f) rec q.1 q.2.1 q.2.2) m (S, nI f, nO a) = some S' ∧ (∀ o, o ≠ 2 → S' o = S o) ∧ (∀ i, i ≤ α 0 2 0 → CA (S' 2) i (fun c => TT α f c i)) ∧ (S' 2).1 7 = nO (ans α f) := by
  have h20 := hG.1.1
  have h8 := hG.2.1.1
  have B := fun i h => TT_b hG.1 hG.2.1 hG.2.2.1 hG.2.2.2.1 (α 0 2 0) i h (by omega)
  intro a
  induction a with
  | zero =>
    intro m S _ hm hD hT
    obtain ⟨m, rfl⟩ : ∃ m', m = m' + 1 := ⟨m - 1, by omega⟩
    refine ⟨kpI S 2 7 (nO (ans α f)), ?_, fun o ho => pI_ne ho, fun i hi => ?_, by rw [pI_1, if_pos ⟨rfl, rfl⟩]⟩
    · rw [kfix_s]
      generalize kfix (fun rec (q : kS × Int32 × Int32) => FX3_read_B59 (6 + f) rec q.1 q.2.1 q.2.2) m = Rk
      show FX3_read_B59 (6 + f) Rk S (nI f) (nO 0) = _
      unfold FX3_read_B59
      exact r59z (6 + f) S (FX3_read_L73 (6 + f) Rk) (by rw [nO_0]; decide) (c_ans hD hG hN h0 (fun i hi => hT i (by omega) hi))
    · have := hT i (by omega) hi
      unfold CA at this ⊢
      rw [pI_2]
      exact this
  | succ a ih =>
    intro m S ha hm hD hT
    obtain ⟨m, rfl⟩ : ∃ m', m = m' + 1 := ⟨m - 1, by omega⟩
    have t1 := hT (a + 1) (by omega) (by omega)
    obtain ⟨S1, u1, u2, u3⟩ := c_pass (a := a) (by omega) t1 (B (a + 1) (by omega)).2.2.2.2.1
    have u3' : CA (S1 2) a (gr α f (TT α f) a 0) := CA_cg u3 (fun c => by
      unfold gr
      by_cases e : c = 0
      · rw [if_pos e, if_pos e, mn_0]
      · rw [if_neg e, if_neg e, mn_0, fd_0, if_pos rfl]
        rfl)
    obtain ⟨S2, v1, v2, v3⟩ := c_rows hG hN (a := a) (by omega) (kfix (fun rec (q : kS × Int32 × Int32) => FX3_read_B59 (6 + f) rec q.1 q.2.1 q.2.2) m) (α 0 3 0) kfuel 0 S1 (by omega) (by unfold kfuel; omega) (kp_CD u2 hD) u3' (fun i h1 h2 => kp_CA u2 (by omega) (hT i (by omega) h2))
    have k2 := kp_tr u2 v2
    have v3' : CA (S2 2) a (fun c => TT α f c a) := CA_cg v3 (fun c => by
      unfold gr
      rw [TT_c hG.1 (show a < α 0 2 0 by omega) c])
    obtain ⟨S', w1, w2, w3, w4⟩ := ih m S2 (by omega) (by omega) (kp_CD k2 hD) (fun i h1 h2 => by
      by_cases e : i = a
      · rw [e]; exact v3'
      · exact kp_CA k2 e (hT i (by omega) h2))
    refine ⟨S', ?_, fun o ho => by rw [w2 o ho, k2.1 o ho], w3, w4⟩
    clear ih
    rw [kfix_s]
    generalize kfix (fun rec (q : kS × Int32 × Int32) => FX3_read_B59 (6 + f) rec q.1 q.2.1 q.2.2) m = Rk at v1 w1 ⊢
    show FX3_read_B59 (6 + f) Rk S (nI f) (nO (a + 1)) = _
    rw [nO_s]
    unfold FX3_read_B59
    refine (r59s (6 + f) S S1 (FX3_read_L73 (6 + f) Rk) (nI_pos (by omega)) u1).trans ?_
    unfold FX3_read_L73
    rw [nI_0] at v1
    exact v1.trans w1
end CL
