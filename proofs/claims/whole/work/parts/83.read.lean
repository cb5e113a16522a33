/-! reading: what the words of a line say -/
def itf (α : kα) (f r i w : Nat) : Bool := if α 20 r i = 0 then decide (α 21 r i = w) else if α 20 r i = 1 then decide (α 14 f w = α 21 r i + 1) else true
def fgo (α : kα) (f r a : Nat) : Nat → Nat → Bool
  | 0, _ => true
  | k + 1, i => if itf α f r i (α 25 (a + i) 0) = true then fgo α f r a k (i + 1) else false
theorem fgo_0 (α : kα) (f r a i : Nat) : fgo α f r a 0 i = true := rfl
theorem fgo_s (α : kα) (f r a k i : Nat) : fgo α f r a (k + 1) i = if itf α f r i (α 25 (a + i) 0) = true then fgo α f r a k (i + 1) else false := rfl
def fit (α : kα) (f r a : Nat) : Bool := if α 16 r 0 = f ∧ a + α 19 r 0 ≤ α 0 2 0 then fgo α f r a (α 19 r 0) 0 else false
theorem fgo_all {α : kα} {f r a : Nat} : ∀ (k i : Nat), fgo α f r a k i = true → ∀ j, i ≤ j → j < i + k → itf α f r j (α 25 (a + j) 0) = true := by
  intro k
  induction k with
  | zero => intro i _ j h1 h2; omega
  | succ k ih =>
    intro i h j h1 h2
    rw [fgo_s] at h
    by_cases q : itf α f r i (α 25 (a + i) 0) = true
    · rw [if_pos q] at h
      by_cases e : j = i
      · rw [e]; exact q
      · exact ih (i + 1) h j (by omega) (by omega)
    · rw [if_neg q] at h
      exact absurd h (by decide)
theorem fit_d {α : kα} {f r a : Nat} (h : fit α f r a = true) : α 16 r 0 = f ∧ a + α 19 r 0 ≤ α 0 2 0 ∧ ∀ j, j < α 19 r 0 → itf α f r j (α 25 (a + j) 0) = true := by
  unfold fit at h
  by_cases q : α 16 r 0 = f ∧ a + α 19 r 0 ≤ α 0 2 0
  · rw [if_pos q] at h
    exact ⟨q.1, q.2, fun j hj => fgo_all _ _ h j (by omega) (by omega)⟩
  · rw [if_neg q] at h
    exact absurd h (by decide)
/-- what the first i items of a row say of a place -/
def ow (α : kα) (f r a p : Nat) : Nat → Nat
  | 0 => 16
  | i + 1 => if α 20 r i = 1 ∧ α 21 r i = p then 2 ^ α 15 f (α 25 (a + i) 0) else ow α f r a p i
theorem ow_0 (α : kα) (f r a p : Nat) : ow α f r a p 0 = 16 := rfl
theorem ow_s (α : kα) (f r a p i : Nat) : ow α f r a p (i + 1) = if α 20 r i = 1 ∧ α 21 r i = p then 2 ^ α 15 f (α 25 (a + i) 0) else ow α f r a p i := rfl
def fl (b o : Nat) : Nat := if b < 16 then b else (b % 16) ||| o
def mn (α : kα) (f : Nat) (τ : Nat → Nat → Nat) (a : Nat) : Nat → Nat
  | 0 => 6 + τ 0 (a + 1)
  | r + 1 => if fit α f r a = true then min (mn α f τ a r) (α 17 r 0 + τ 0 (a + α 19 r 0)) else mn α f τ a r
theorem mn_0 (α : kα) (f : Nat) (τ : Nat → Nat → Nat) (a : Nat) : mn α f τ a 0 = 6 + τ 0 (a + 1) := rfl
theorem mn_s (α : kα) (f : Nat) (τ : Nat → Nat → Nat) (a r : Nat) : mn α f τ a (r + 1) = if fit α f r a = true then min (mn α f τ a r) (α 17 r 0 + τ 0 (a + α 19 r 0)) else mn α f τ a r := rfl
def st0 (τ : Nat → Nat → Nat) (a c : Nat) : Nat := if c = 2 then τ 2 (a + 1) + 1 else τ c (a + 1)
def cb (α : kα) (f : Nat) (τ : Nat → Nat → Nat) (a r c w : Nat) : Nat := if c = 1 then min 1000000 (w + τ 1 (a + α 19 r 0)) else if c = 2 then max w (τ 2 (a + α 19 r 0)) else if c = 3 then 1 else w ||| fl (τ c (a + α 19 r 0)) (ow α f r a (c - 4) (α 19 r 0))
def fd (α : kα) (f : Nat) (τ : Nat → Nat → Nat) (a m c : Nat) : Nat → Nat
  | 0 => if 6 + τ 0 (a + 1) = m then st0 τ a c else 0
  | r + 1 => if fit α f r a = true ∧ α 17 r 0 + τ 0 (a + α 19 r 0) = m then cb α f τ a r c (fd α f τ a m c r) else fd α f τ a m c r
theorem fd_0 (α : kα) (f : Nat) (τ : Nat → Nat → Nat) (a m c : Nat) : fd α f τ a m c 0 = if 6 + τ 0 (a + 1) = m then st0 τ a c else 0 := rfl
theorem fd_s (α : kα) (f : Nat) (τ : Nat → Nat → Nat) (a m c r : Nat) : fd α f τ a m c (r + 1) = if fit α f r a = true ∧ α 17 r 0 + τ 0 (a + α 19 r 0) = m then cb α f τ a r c (fd α f τ a m c r) else fd α f τ a m c r := rfl
section RD
variable {α : kα} {f : Nat} {τ : Nat → Nat → Nat} {a : Nat}
theorem mn_ge (r : Nat) : mn α f τ a r ≤ 6 + τ 0 (a + 1) := by
  induction r with
  | zero => rw [mn_0]; omega
  | succ r ih => rw [mn_s]; split <;> omega
theorem fd_lt (c : Nat) {x : Nat} : ∀ (r : Nat), x < mn α f τ a r → fd α f τ a x c r = 0 := by
  intro r
  induction r with
  | zero =>
    intro h
    rw [mn_0] at h
    rw [fd_0, if_neg (by omega)]
  | succ r ih =>
    intro h
    rw [mn_s] at h
    rw [fd_s]
    by_cases q : fit α f r a = true
    · rw [if_pos q] at h
      rw [if_neg (by omega)]
      exact ih (by omega)
    · rw [if_neg q] at h
      rw [if_neg (fun e => q e.1)]
      exact ih h
theorem mn_cg {τ' : Nat → Nat → Nat} (h : ∀ c i, a < i → τ c i = τ' c i) (hI : wfI α) : ∀ (r : Nat), r ≤ α 0 3 0 → mn α f τ a r = mn α f τ' a r := by
  intro r
  induction r with
  | zero => intro _; rw [mn_0, mn_0, h 0 (a + 1) (by omega)]
  | succ r ih =>
    intro hr
    have := (hI.2 r (by omega)).2.2.2.2.1
    rw [mn_s, mn_s, ih (by omega), h 0 (a + α 19 r 0) (by omega)]
theorem fd_cg {τ' : Nat → Nat → Nat} (h : ∀ c i, a < i → τ c i = τ' c i) (hI : wfI α) (m c : Nat) : ∀ (r : Nat), r ≤ α 0 3 0 → fd α f τ a m c r = fd α f τ' a m c r := by
  intro r
  induction r with
  | zero =>
    intro _
    rw [fd_0, fd_0, h 0 (a + 1) (by omega)]
    unfold st0
    rw [h 2 (a + 1) (by omega), h c (a + 1) (by omega)]
  | succ r ih =>
    intro hr
    have := (hI.2 r (by omega)).2.2.2.2.1
    rw [fd_s, fd_s, ih (by omega), h 0 (a + α 19 r 0) (by omega)]
    unfold cb
    rw [h 1 (a + α 19 r 0) (by omega), h 2 (a + α 19 r 0) (by omega), h c (a + α 19 r 0) (by omega)]
theorem fd_ind {Q : Nat → Prop} {m c : Nat} (h0 : Q 0) (h1 : Q (st0 τ a c)) (h2 : ∀ r w, r < α 0 3 0 → fit α f r a = true → Q w → Q (cb α f τ a r c w)) : ∀ (r : Nat), r ≤ α 0 3 0 → Q (fd α f τ a m c r) := by
  intro r
  induction r with
  | zero =>
    intro _
    rw [fd_0]
    split
    · exact h1
    · exact h0
  | succ r ih =>
    intro hr
    rw [fd_s]
    by_cases q : fit α f r a = true ∧ α 17 r 0 + τ 0 (a + α 19 r 0) = m
    · rw [if_pos q]
      exact h2 r _ (by omega) q.1 (ih (by omega))
    · rw [if_neg q]
      exact ih (by omega)
theorem fd_pos (h1 : 1 ≤ τ 1 (a + 1)) (h2 : ∀ r, r < α 0 3 0 → fit α f r a = true → 1 ≤ τ 1 (a + α 19 r 0)) : ∀ (r : Nat), r ≤ α 0 3 0 → 1 ≤ fd α f τ a (mn α f τ a r) 1 r := by
  intro r
  induction r with
  | zero =>
    intro _
    rw [fd_0, mn_0, if_pos rfl]
    exact h1
  | succ r ih =>
    intro hr
    rw [fd_s, mn_s]
    by_cases q : fit α f r a = true
    · rw [if_pos q]
      have := h2 r (by omega) q
      by_cases e : α 17 r 0 + τ 0 (a + α 19 r 0) = min (mn α f τ a r) (α 17 r 0 + τ 0 (a + α 19 r 0))
      · rw [if_pos ⟨q, e⟩]
        unfold cb
        rw [if_pos rfl]
        omega
      · rw [if_neg (fun h => e h.2), show min (mn α f τ a r) (α 17 r 0 + τ 0 (a + α 19 r 0)) = mn α f τ a r by omega]
        exact ih (by omega)
    · rw [if_neg q, if_neg (fun h => q h.1)]
      exact ih (by omega)
end RD
/-- the tables, from the line's end on -/
def tt (α : kα) (f : Nat) : Nat → Nat → Nat → Nat
  | 0, c, _ => if c = 1 then 1 else if 4 ≤ c then 16 else 0
  | d + 1, c, i => if i + d + 1 = α 0 2 0 then (if c = 0 then mn α f (tt α f d) i (α 0 3 0) else fd α f (tt α f d) i (mn α f (tt α f d) i (α 0 3 0)) c (α 0 3 0)) else tt α f d c i
theorem tt_0 (α : kα) (f c i : Nat) : tt α f 0 c i = if c = 1 then 1 else if 4 ≤ c then 16 else 0 := rfl
theorem tt_s (α : kα) (f d c i : Nat) : tt α f (d + 1) c i = if i + d + 1 = α 0 2 0 then (if c = 0 then mn α f (tt α f d) i (α 0 3 0) else fd α f (tt α f d) i (mn α f (tt α f d) i (α 0 3 0)) c (α 0 3 0)) else tt α f d c i := rfl
theorem tt_st {α : kα} {f : Nat} (c i d : Nat) (h : α 0 2 0 ≤ i + d) : ∀ e, tt α f (d + e) c i = tt α f d c i := by
  intro e
  induction e with
  | zero => rfl
  | succ e ih =>
    rw [← Nat.add_assoc, tt_s, if_neg (by omega)]
    exact ih
def TT (α : kα) (f : Nat) : Nat → Nat → Nat := tt α f (α 0 2 0)
theorem tt_TT {α : kα} {f : Nat} (c i d : Nat) (h : α 0 2 0 ≤ i + d) (hd : d ≤ α 0 2 0) : tt α f d c i = TT α f c i := by
  unfold TT
  have := tt_st (α := α) (f := f) c i d h (α 0 2 0 - d)
  rw [show d + (α 0 2 0 - d) = α 0 2 0 by omega] at this
  exact this.symm
theorem TT_L (α : kα) (f c : Nat) : TT α f c (α 0 2 0) = if c = 1 then 1 else if 4 ≤ c then 16 else 0 := by
  rw [← tt_TT c (α 0 2 0) 0 (by omega) (by omega), tt_0]
theorem TT_c {α : kα} {f a : Nat} (hI : wfI α) (ha : a < α 0 2 0) (c : Nat) : TT α f c a = if c = 0 then mn α f (TT α f) a (α 0 3 0) else fd α f (TT α f) a (mn α f (TT α f) a (α 0 3 0)) c (α 0 3 0) := by
  have e := tt_TT (α := α) (f := f) c a (α 0 2 0 - 1 - a + 1) (by omega) (by omega)
  have hq : ∀ c i, a < i → tt α f (α 0 2 0 - 1 - a) c i = TT α f c i := fun c i hi => tt_TT c i _ (by omega) (by omega)
  rw [← e, tt_s, if_pos (by omega), mn_cg hq hI _ (Nat.le_refl _), fd_cg hq hI _ _ _ (Nat.le_refl _)]
theorem TT_0 {α : kα} {f a : Nat} (hI : wfI α) (ha : a < α 0 2 0) : TT α f 0 a = mn α f (TT α f) a (α 0 3 0) := by
  rw [TT_c hI ha, if_pos rfl]
theorem TT_s {α : kα} {f a c : Nat} (hI : wfI α) (ha : a < α 0 2 0) (hc : c ≠ 0) : TT α f c a = fd α f (TT α f) a (TT α f 0 a) c (α 0 3 0) := by
  rw [TT_0 hI ha, TT_c hI ha, if_neg hc]
/-- what a place is filled with -/
def fbd (α : kα) (f p x : Nat) : Prop := x < 32 ∧ (p < α 1 f 0 → x % 16 < 2 ^ α 3 f p)
theorem fbd_or {α : kα} {f p x y : Nat} (hx : fbd α f p x) (hy : fbd α f p y) : fbd α f p (x ||| y) := by
  refine ⟨?_, fun hp => ?_⟩
  · exact Nat.or_lt_two_pow (n := 5) hx.1 hy.1
  · have e : (x ||| y) % 16 = x % 16 ||| y % 16 := Nat.or_mod_two_pow (n := 4)
    rw [e]
    exact Nat.or_lt_two_pow (hx.2 hp) (hy.2 hp)
theorem fbd_fl {α : kα} {f p b o : Nat} (hb : fbd α f p b) (ho : fbd α f p o) : fbd α f p (fl b o) := by
  unfold fl
  split
  · exact hb
  · refine fbd_or ⟨by omega, fun hp => ?_⟩ ho
    rw [Nat.mod_mod]
    exact hb.2 hp
theorem fbd_16 (α : kα) (f p : Nat) : fbd α f p 16 := ⟨by omega, fun _ => Nat.two_pow_pos _⟩
theorem fbd_0 (α : kα) (f p : Nat) : fbd α f p 0 := ⟨by omega, fun _ => Nat.two_pow_pos _⟩
theorem it_1 {α : kα} {f r i w : Nat} (h : itf α f r i w = true) (h1 : α 20 r i = 1) : α 14 f w = α 21 r i + 1 := by
  unfold itf at h
  rw [if_neg (by omega), if_pos h1] at h
  exact of_decide_eq_true h
theorem ow_bd {α : kα} {f r a p : Nat} (hw : wfP α f) (hW : wfW α f) (hL : wfL α) (hf : fit α f r a = true) : ∀ i, i ≤ α 19 r 0 → fbd α f p (ow α f r a p i) := by
  obtain ⟨f1, f2, f3⟩ := fit_d hf
  intro i
  induction i with
  | zero => intro _; exact fbd_16 _ _ _
  | succ i ih =>
    intro hi
    rw [ow_s]
    by_cases q : α 20 r i = 1 ∧ α 21 r i = p
    · rw [if_pos q]
      have h14 := it_1 (f3 i (by omega)) q.1
      have hw64 := hL.2 (a + i) (by omega)
      obtain ⟨w1, w2⟩ := hW _ hw64
      have w3 := w2 (by omega)
      rw [h14, Nat.add_sub_cancel, q.2] at w3
      have h4 := (hw.2 p (by omega)).2.2.1
      have h16 := pow_lt4 (v := α 15 f (α 25 (a + i) 0)) (by omega)
      refine ⟨by omega, fun _ => ?_⟩
      rw [Nat.mod_eq_of_lt h16]
      exact Nat.pow_lt_pow_right (by omega) w3.2
    · rw [if_neg q]
      exact ih (by omega)
def bnd (α : kα) (f i : Nat) : Prop := TT α f 0 i ≤ 6 * (α 0 2 0 - i) ∧ 1 ≤ TT α f 1 i ∧ TT α f 1 i ≤ 1000000 ∧ TT α f 2 i ≤ α 0 2 0 - i ∧ TT α f 3 i ≤ 1 ∧ ∀ p, p < 5 → fbd α f p (TT α f (4 + p) i)
theorem TT_b {α : kα} {f : Nat} (hI : wfI α) (hL : wfL α) (hw : wfP α f) (hW : wfW α f) : ∀ (d i : Nat), i ≤ α 0 2 0 → α 0 2 0 ≤ i + d → bnd α f i := by
  intro d
  induction d with
  | zero =>
    intro i h1 h2
    have e : i = α 0 2 0 := by omega
    subst e
    unfold bnd
    rw [TT_L, TT_L, TT_L, TT_L]
    refine ⟨Nat.zero_le _, by decide, by decide, Nat.zero_le _, by decide, fun p hp => ?_⟩
    rw [TT_L, if_neg (by omega), if_pos (by omega)]
    exact fbd_16 _ _ _
  | succ d ih =>
    intro i h1 h2
    by_cases e : α 0 2 0 ≤ i + d
    · exact ih i h1 e
    · have hi : i < α 0 2 0 := by omega
      have b1 := ih (i + 1) (by omega) (by omega)
      have br : ∀ r, r < α 0 3 0 → fit α f r i = true → bnd α f (i + α 19 r 0) := fun r hr hf => by
        have := (fit_d hf).2.1
        have := (hI.2 r hr).2.2.2.2.1
        exact ih _ (by omega) (by omega)
      refine ⟨?_, ?_, ?_, ?_, ?_, fun p hp => ?_⟩
      · rw [TT_0 hI hi]
        have := mn_ge (α := α) (f := f) (τ := TT α f) (a := i) (α 0 3 0)
        have := b1.1
        omega
      · rw [TT_s hI hi (by omega), TT_0 hI hi]
        exact fd_pos b1.2.1 (fun r hr hf => (br r hr hf).2.1) _ (Nat.le_refl _)
      · rw [TT_s hI hi (by omega)]
        refine fd_ind (Q := fun x => x ≤ 1000000) (by omega) (by unfold st0; rw [if_neg (by omega)]; exact b1.2.2.1) (fun r w hr hf _ => ?_) _ (Nat.le_refl _)
        unfold cb
        rw [if_pos rfl]
        omega
      · rw [TT_s hI hi (by omega)]
        refine fd_ind (Q := fun x => x ≤ α 0 2 0 - i) (by omega) ?_ (fun r w hr hf hq => ?_) _ (Nat.le_refl _)
        · have := b1.2.2.2.1
          unfold st0
          rw [if_pos rfl]
          omega
        · have := (br r hr hf).2.2.2.1
          have := (fit_d hf).2.1
          unfold cb
          rw [if_neg (by omega), if_pos rfl]
          omega
      · rw [TT_s hI hi (by omega)]
        refine fd_ind (Q := fun x => x ≤ 1) (by omega) (by unfold st0; rw [if_neg (by omega)]; exact b1.2.2.2.2.1) (fun r w hr hf _ => ?_) _ (Nat.le_refl _)
        unfold cb
        rw [if_neg (by omega), if_neg (by omega), if_pos rfl]
        omega
      · rw [TT_s hI hi (by omega)]
        refine fd_ind (Q := fun x => fbd α f p x) (fbd_0 _ _ _) ?_ (fun r w hr hf hq => ?_) _ (Nat.le_refl _)
        · unfold st0
          rw [if_neg (by omega)]
          exact b1.2.2.2.2.2 p hp
        · unfold cb
          rw [if_neg (by omega), if_neg (by omega), if_neg (by omega), show 4 + p - 4 = p by omega]
          exact fbd_or hq (fbd_fl ((br r hr hf).2.2.2.2.2 p hp) (ow_bd hw hW hL hf _ (Nat.le_refl _)))
