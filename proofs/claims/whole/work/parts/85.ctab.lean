/-! reading: the class's tables -/
def CA (u : kO) (a : Nat) (g : Nat → Nat) : Prop := u.2 2 a = nI (g 0) ∧ u.2 3 a = nI (g 1) ∧ u.2 4 a = nI (g 2) ∧ u.2 5 a = nI (g 3) ∧ ∀ p, p < 5 → u.2 6 (5 * a + p) = nI (g (4 + p))
theorem CA_cg {u : kO} {a : Nat} {g g' : Nat → Nat} (h : CA u a g) (e : ∀ c, g c = g' c) : CA u a g' := by
  have : g = g' := funext e
  rw [← this]
  exact h
/-- all but the tables at a is as it was -/
def kp (a : Nat) (S S' : kS) : Prop := (∀ o, o ≠ 2 → S' o = S o) ∧ (S' 2).1 = (S 2).1 ∧ (S' 2).2 0 = (S 2).2 0 ∧ (∀ c i, c ≠ 6 → i ≠ a → (S' 2).2 c i = (S 2).2 c i) ∧ ∀ y, (y < 5 * a ∨ 5 * a + 5 ≤ y) → (S' 2).2 6 y = (S 2).2 6 y
theorem kp_CA {a i : Nat} {S S' : kS} {g : Nat → Nat} (h : kp a S S') (hi : i ≠ a) (hc : CA (S 2) i g) : CA (S' 2) i g := by
  obtain ⟨h1, h2, h3, h4, h5⟩ := h
  obtain ⟨c1, c2, c3, c4, c5⟩ := hc
  exact ⟨by rw [h4 2 i (by omega) hi]; exact c1, by rw [h4 3 i (by omega) hi]; exact c2, by rw [h4 4 i (by omega) hi]; exact c3, by rw [h4 5 i (by omega) hi]; exact c4, fun p hp => by rw [h5 _ (by omega)]; exact c5 p hp⟩
theorem kp_CD {a f : Nat} {α : kα} {S S' : kS} (h : kp a S S') (hc : CD S α f) : CD S' α f := by
  obtain ⟨h1, h2, h3, h4, h5⟩ := h
  unfold CD
  rw [h1 1 (by omega), h1 (6 + f) (by omega), h2, h3]
  exact hc
theorem kp_tr {a : Nat} {S S' S'' : kS} (h : kp a S S') (h' : kp a S' S'') : kp a S S'' := by
  obtain ⟨h1, h2, h3, h4, h5⟩ := h
  obtain ⟨g1, g2, g3, g4, g5⟩ := h'
  exact ⟨fun o ho => by rw [g1 o ho, h1 o ho], by rw [g2, h2], by rw [g3, h3], fun c i hc hi => by rw [g4 c i hc hi, h4 c i hc hi], fun y hy => by rw [g5 y hy, h5 y hy]⟩
theorem kp_rf (a : Nat) (S : kS) : kp a S S := ⟨fun _ _ => rfl, rfl, rfl, fun _ _ _ _ => rfl, fun _ _ => rfl⟩
theorem kp_s {a k : Nat} {S : kS} {x : Int32} (h0 : k ≠ 0) (h6 : k ≠ 6) : kp a S (kpR S 2 k (upd ((S 2).2 k) a x)) := by
  refine ⟨fun o ho => pR_ne ho, rfl, ?_, fun c i hc hi => ?_, fun y hy => ?_⟩
  · rw [pR_2, if_neg (fun h => h0 h.2.symm)]
  · rw [pR_2]
    by_cases e : c = k
    · rw [if_pos ⟨rfl, e⟩, upd_eq, if_neg hi, e]
    · rw [if_neg (fun h => e h.2)]
  · rw [pR_2, if_neg (fun h => h6 h.2.symm)]
/-- a loop over the places -/
def ff (S0 S : kS) (a i : Nat) (X : Nat → Int32) : Prop := (∀ o, o ≠ 2 → S o = S0 o) ∧ (S 2).1 = (S0 2).1 ∧ (∀ c, c ≠ 6 → (S 2).2 c = (S0 2).2 c) ∧ ∀ y, (S 2).2 6 y = if 5 * a ≤ y ∧ y < 5 * a + i then X (y - 5 * a) else (S0 2).2 6 y
theorem ff_0 (S : kS) (a : Nat) (X : Nat → Int32) : ff S S a 0 X := ⟨fun _ _ => rfl, rfl, fun _ _ => rfl, fun y => by rw [if_neg (by omega)]⟩
theorem ff_s {S0 S : kS} {a i : Nat} {X : Nat → Int32} (h : ff S0 S a i X) : ff S0 (kpR S 2 6 (upd ((S 2).2 6) (5 * a + i) (X i))) a (i + 1) X := by
  obtain ⟨h1, h2, h3, h4⟩ := h
  refine ⟨fun o ho => by rw [pR_ne ho, h1 o ho], by rw [← h2]; rfl, fun c hc => by rw [pR_2, if_neg (fun h => hc h.2), h3 c hc], fun y => ?_⟩
  rw [pR_2, if_pos ⟨rfl, rfl⟩, upd_eq, h4 y]
  by_cases e : y = 5 * a + i
  · rw [if_pos e, if_pos (by omega), e, show 5 * a + i - 5 * a = i by omega]
  · rw [if_neg e]
    by_cases q : 5 * a ≤ y ∧ y < 5 * a + i
    · rw [if_pos q, if_pos (by omega)]
    · rw [if_neg q, if_neg (by omega)]
theorem ff_kp {S0 S : kS} {a : Nat} {X : Nat → Int32} (h : ff S0 S a 5 X) : kp a S0 S := by
  obtain ⟨h1, h2, h3, h4⟩ := h
  exact ⟨h1, h2, h3 0 (by omega), fun c i hc _ => by rw [h3 c hc], fun y hy => by rw [h4 y, if_neg (by omega)]⟩
theorem ff_CD {S0 S : kS} {a i f : Nat} {α : kα} {X : Nat → Int32} (h : ff S0 S a i X) (hc : CD S0 α f) : CD S α f := by
  obtain ⟨h1, h2, h3, h4⟩ := h
  unfold CD
  rw [h1 1 (by omega), h1 (6 + f) (by omega), h2, h3 0 (by omega)]
  exact hc
theorem floop {a : Nat} {X : Nat → Int32} {S0 : kS} (F : Nat → kS → Nat → Option kS) (hb : ∀ m S, F (m + 1) S 5 = some S) (hs : ∀ m S i, i < 5 → ff S0 S a i X → F (m + 1) S i = F m (kpR S 2 6 (upd ((S 2).2 6) (5 * a + i) (X i))) (i + 1)) : ∀ (k m i : Nat) (S : kS), i + k = 5 → k < m → ff S0 S a i X → ∃ S', F m S i = some S' ∧ ff S0 S' a 5 X := by
  intro k
  induction k with
  | zero =>
    intro m i S hk hm hS
    obtain ⟨m, rfl⟩ : ∃ m', m = m' + 1 := ⟨m - 1, by omega⟩
    have e : i = 5 := by omega
    subst e
    exact ⟨S, hb m S, hS⟩
  | succ k ih =>
    intro m i S hk hm hS
    obtain ⟨m, rfl⟩ : ∃ m', m = m' + 1 := ⟨m - 1, by omega⟩
    obtain ⟨S', q1, q2⟩ := ih m (i + 1) _ (by omega) (by omega) (ff_s hS)
    exact ⟨S', by rw [hs m S i (by omega) hS]; exact q1, q2⟩
theorem l5_5 : ((5 : Int32) ≤ nI 5) = True := by rw [li_5]; simp
theorem l5_i {i : Nat} (h : i < 5) : (nI 5 ≤ nI i) = False := by
  rw [nI_l' (by omega) (by omega)]
  simp
  omega
theorem f_start (S : kS) {a : Nat} (h8 : a ≤ 8) (hl : (S 2).1 1 = nI a) : ∃ S', FX3_startAtEnd_L42 S 0 = some S' ∧ ff S S' a 5 (fun _ => nI 16) := by
  unfold FX3_startAtEnd_L42
  have := floop (a := a) (X := fun _ => nI 16) (S0 := S) (fun m S i => kfix (fun rec (q : kS × Int32) => FX3_startAtEnd_B42 rec q.1 q.2) m (S, nI i)) (fun m S => ?_) (fun m S i hi hf => ?_) 5 kfuel 0 S (by omega) (by unfold kfuel; omega) (ff_0 _ _ _)
  · rw [nI_0] at this
    exact this
  · show kfix _ (m + 1) _ = _
    rw [kfix_s]
    generalize kfix (fun rec (q : kS × Int32) => FX3_startAtEnd_B42 rec q.1 q.2) m = Rk
    simp only [FX3_startAtEnd_B42, l5_5, if_true]
  · show kfix _ (m + 1) _ = kfix _ m _
    rw [kfix_s]
    generalize kfix (fun rec (q : kS × Int32) => FX3_startAtEnd_B42 rec q.1 q.2) m = Rk
    have hl' : (S 2).1 1 = nI a := by rw [hf.2.1]; exact hl
    have e : a * 5 + i = 5 * a + i := by omega
    simp (disch := omega) only [FX3_startAtEnd_B42, l5_i hi, if_false, kb, kI_eq, hl', li_5, nI_mul, nI_add, e, kin_t, kgd_t, kpA_nI, li_16, li_1]
theorem f_clear (S : kS) {a : Nat} (h8 : a ≤ 8) : ∃ S', FX3_clearAt_L23 S (nI a) 0 = some S' ∧ ff S S' a 5 (fun _ => nI 0) := by
  unfold FX3_clearAt_L23
  have := floop (a := a) (X := fun _ => nI 0) (S0 := S) (fun m S i => kfix (fun rec (q : kS × Int32 × Int32) => FX3_clearAt_B23 rec q.1 q.2.1 q.2.2) m (S, nI a, nI i)) (fun m S => ?_) (fun m S i hi hf => ?_) 5 kfuel 0 S (by omega) (by unfold kfuel; omega) (ff_0 _ _ _)
  · rw [nI_0] at this
    exact this
  · show kfix _ (m + 1) _ = _
    rw [kfix_s]
    generalize kfix (fun rec (q : kS × Int32 × Int32) => FX3_clearAt_B23 rec q.1 q.2.1 q.2.2) m = Rk
    simp only [FX3_clearAt_B23, l5_5, if_true]
  · show kfix _ (m + 1) _ = kfix _ m _
    rw [kfix_s]
    generalize kfix (fun rec (q : kS × Int32 × Int32) => FX3_clearAt_B23 rec q.1 q.2.1 q.2.2) m = Rk
    have e : a * 5 + i = 5 * a + i := by omega
    simp (disch := omega) only [FX3_clearAt_B23, l5_i hi, if_false, kb, li_5, nI_mul, nI_add, e, kin_t, kgd_t, kpA_nI, li_1, nI_0]
theorem f_pass (S : kS) {a : Nat} (h8 : a < 8) : ∃ S', FX3_passWord_L63 S (nI a) 0 = some S' ∧ ff S S' a 5 (fun p => (S 2).2 6 (5 * (a + 1) + p)) := by
  unfold FX3_passWord_L63
  have := floop (a := a) (X := fun p => (S 2).2 6 (5 * (a + 1) + p)) (S0 := S) (fun m S i => kfix (fun rec (q : kS × Int32 × Int32) => FX3_passWord_B63 rec q.1 q.2.1 q.2.2) m (S, nI a, nI i)) (fun m S => ?_) (fun m S i hi hf => ?_) 5 kfuel 0 S (by omega) (by unfold kfuel; omega) (ff_0 _ _ _)
  · rw [nI_0] at this
    exact this
  · show kfix _ (m + 1) _ = _
    rw [kfix_s]
    generalize kfix (fun rec (q : kS × Int32 × Int32) => FX3_passWord_B63 rec q.1 q.2.1 q.2.2) m = Rk
    simp only [FX3_passWord_B63, l5_5, if_true]
  · show kfix _ (m + 1) _ = kfix _ m _
    rw [kfix_s]
    generalize kfix (fun rec (q : kS × Int32 × Int32) => FX3_passWord_B63 rec q.1 q.2.1 q.2.2) m = Rk
    have e : a * 5 + i = 5 * a + i := by omega
    have e' : (a + 1) * 5 + i = 5 * (a + 1) + i := by omega
    have hx := hf.2.2.2 (5 * (a + 1) + i)
    rw [if_neg (by omega)] at hx
    simp (disch := omega) only [FX3_passWord_B63, l5_i hi, if_false, kb, li_5, li_1, nI_mul, nI_add, e, e', kin_t, kgd_t, kA_nI, kpA_nI, hx]
theorem bit_or : ∀ x, x < 32 → ∀ y, y < 32 → nI x ||| nI y = nI (x ||| y) := by decide +kernel
theorem bit_15 : ∀ x, x < 32 → nI x &&& 15 = nI (x % 16) := by decide +kernel
theorem bit_17 : ∀ x, x < 32 → nI x &&& -17 = nI (x % 16) := by decide +kernel
theorem bit_16 {x : Nat} (h : x < 32) : (nI x &&& 16 = 0) = (x < 16) := by
  have : ∀ x, x < 32 → ((nI x &&& 16 = 0) ↔ (x < 16)) := by decide +kernel
  exact propext (this x h)
theorem bit_1 {x : Nat} (h : x ≤ 1) : nI x &&& 1 = nI x := by
  have : ∀ x, x < 2 → nI x &&& 1 = nI x := by decide +kernel
  exact this x (by omega)
theorem f_use {S : kS} {α : kα} {f : Nat} {τ : Nat → Nat → Nat} {g : Nat → Nat} {a r : Nat} (hD : CD S α f) (hG : wfG α f) (hr : r < α 0 3 0) (hft : fit α f r a = true) (ha : ∀ p, p < 5 → (S 2).2 6 (5 * a + p) = nI (g (4 + p))) (hn : ∀ p, p < 5 → (S 2).2 6 (5 * (a + α 19 r 0) + p) = nI (τ (4 + p) (a + α 19 r 0))) (bg : ∀ p, p < 5 → g (4 + p) < 32) (bt : ∀ p, p < 5 → τ (4 + p) (a + α 19 r 0) < 32) : ∃ S', FX3_useRow_L120 (6 + f) S (nI r) (nI a) (nI (a + α 19 r 0)) 0 = some S' ∧ ff S S' a 5 (fun p => nI (cb α f τ a r (4 + p) (g (4 + p)))) := by
  obtain ⟨i1, i2, i3, i4, i5, i6, i7⟩ := hG.1.2 r hr
  have h8 := hG.2.1.1
  obtain ⟨f1, f2, f3⟩ := fit_d hft
  unfold FX3_useRow_L120
  have := floop (a := a) (X := fun p => nI (cb α f τ a r (4 + p) (g (4 + p)))) (S0 := S) (fun m S i => kfix (fun rec (q : kS × Int32 × Int32 × Int32 × Int32) => FX3_useRow_B120 (6 + f) rec q.1 q.2.1 q.2.2.1 q.2.2.2.1 q.2.2.2.2) m (S, nI r, nI a, nI (a + α 19 r 0), nI i)) (fun m S => ?_) (fun m S' i hi hf => ?_) 5 kfuel 0 S (by omega) (by unfold kfuel; omega) (ff_0 _ _ _)
  · rw [nI_0] at this
    exact this
  · show kfix _ (m + 1) _ = _
    rw [kfix_s]
    generalize kfix (fun rec (q : kS × Int32 × Int32 × Int32 × Int32) => FX3_useRow_B120 (6 + f) rec q.1 q.2.1 q.2.2.1 q.2.2.2.1 q.2.2.2.2) m = Rk
    simp only [FX3_useRow_B120, l5_5, if_true]
  · show kfix _ (m + 1) _ = kfix _ m _
    rw [kfix_s]
    generalize kfix (fun rec (q : kS × Int32 × Int32 × Int32 × Int32) => FX3_useRow_B120 (6 + f) rec q.1 q.2.1 q.2.2.1 q.2.2.2.1 q.2.2.2.2) m = Rk
    have e : a * 5 + i = 5 * a + i := by omega
    have e' : (a + α 19 r 0) * 5 + i = 5 * (a + α 19 r 0) + i := by omega
    have hx := hf.2.2.2 (5 * (a + α 19 r 0) + i)
    rw [if_neg (by omega), hn i hi] at hx
    have hy := hf.2.2.2 (5 * a + i)
    rw [if_neg (by omega), ha i hi] at hy
    have b1 := bg i hi
    have b2 := bt i hi
    have bo := (ow_bd (p := i) hG.2.2.1 hG.2.2.2.1 hG.2.1 hft (α 19 r 0) (Nat.le_refl _)).1
    have co := c_own (ff_CD hf hD) hG (p := i) hr hi hft
    simp (disch := omega) only [FX3_useRow_B120, FX3_useRow_J171, l5_i hi, if_false, kb, li_5, nI_mul, nI_add, e, e', kin_t, kgd_t, kA_nI, hx, hy, kpA_nI, co, Option.bind_some, bit_16, bit_15, bit_or]
    have ec : cb α f τ a r (4 + i) (g (4 + i)) = g (4 + i) ||| fl (τ (4 + i) (a + α 19 r 0)) (ow α f r a i (α 19 r 0)) := by
      unfold cb
      rw [if_neg (by omega), if_neg (by omega), if_neg (by omega), show 4 + i - 4 = i by omega]
    have bq := Nat.or_lt_two_pow (n := 5) (x := τ (4 + i) (a + α 19 r 0) % 16) (by omega) bo
    rw [ec]
    unfold fl
    by_cases q : τ (4 + i) (a + α 19 r 0) < 16
    · rw [if_pos q, if_pos q, Nat.mod_eq_of_lt q, li_1, nI_add]
    · rw [if_neg q, if_neg q, bit_or _ b1 _ bq, li_1, nI_add]
