/-! how many questions it takes -/
def ap (α : kα) (f p v : Nat) : kα := au (au α 6 f p (2 ^ v)) 7 f p (v + 1)
theorem ap_7 (α : kα) (f p v j : Nat) : ap α f p v 7 f j = if j = p then v + 1 else α 7 f j := by unfold ap; simp [au_eq]
theorem ap_6 (α : kα) (f p v j : Nat) : ap α f p v 6 f j = if j = p then 2 ^ v else α 6 f j := by unfold ap; simp [au_eq]
theorem ap_o (α : kα) (f p v c g j : Nat) (h6 : c ≠ 6) (h7 : c ≠ 7) : ap α f p v c g j = α c g j := by unfold ap; simp [au_eq, h6, h7]
theorem ap_ne (α : kα) (f p v c g j : Nat) (h : g ≠ f) : ap α f p v c g j = α c g j := by unfold ap; simp [au_eq, h]
def ask (α : kα) (f p : Nat) : Bool := decide (p < α 1 f 0) && (decide (α 7 f p = 0) && wanted α f p)
def un1 (α : kα) (f p : Nat) : Nat := if p < α 1 f 0 ∧ α 2 f p ≠ 1 ∧ α 7 f p = 0 then 1 else 0
def uns (α : kα) (f : Nat) : Nat := un1 α f 0 + un1 α f 1 + un1 α f 2 + un1 α f 3 + un1 α f 4
def as1 (α : kα) (f p : Nat) : Nat := if ask α f p = true then 1 else 0
def asks (α : kα) (f : Nat) : Nat := as1 α f 0 + as1 α f 1 + as1 α f 2 + as1 α f 3 + as1 α f 4
def wby (W : kα → Nat) (α : kα) (f p : Nat) : Nat → Nat → Nat → Nat
  | 0, _, r => if r = 0 then 100 else min 100 r
  | k + 1, v, r => wby W α f p k (v + 1) (if broken (ap α f p v) f = 0 then max r (W (ap α f p v) + 1) else r)
theorem wby_0 (W : kα → Nat) (α : kα) (f p v r : Nat) : wby W α f p 0 v r = if r = 0 then 100 else min 100 r := rfl
theorem wby_s (W : kα → Nat) (α : kα) (f p k v r : Nat) : wby W α f p (k + 1) v r = wby W α f p k (v + 1) (if broken (ap α f p v) f = 0 then max r (W (ap α f p v) + 1) else r) := rfl
def WB (W : kα → Nat) (α : kα) (f p : Nat) : Nat := wby W α f p (α 3 f p) 0 0
def wof (W : kα → Nat) (α : kα) (f : Nat) : Nat → Nat → Nat → Nat
  | 0, _, r => r
  | k + 1, p, r => wof W α f k (p + 1) (if ask α f p = true then min r (WB W α f p) else r)
theorem wof_0 (W : kα → Nat) (α : kα) (f p r : Nat) : wof W α f 0 p r = r := rfl
theorem wof_s (W : kα → Nat) (α : kα) (f k p r : Nat) : wof W α f (k + 1) p r = wof W α f k (p + 1) (if ask α f p = true then min r (WB W α f p) else r) := rfl
def Wst (W : kα → Nat) (α : kα) (f : Nat) : Nat := if asks α f = 0 then 0 else wof W α f (α 1 f 0) 0 100
def V : Nat → kα → Nat → Nat
  | 0, _, _ => 0
  | m + 1, α, f => Wst (fun β => V m β f) α f
theorem V_s (m : Nat) (α : kα) (f : Nat) : V (m + 1) α f = Wst (fun β => V m β f) α f := rfl
def VV (α : kα) (f : Nat) : Nat := V (uns α f + 1) α f
theorem ask_p {α : kα} {f p : Nat} (h : ask α f p = true) : p < α 1 f 0 ∧ α 7 f p = 0 ∧ wanted α f p = true := by
  unfold ask at h
  simp only [Bool.and_eq_true, decide_eq_true_eq] at h
  exact h
theorem ask_w {α : kα} {f p : Nat} (h : ask α f p = true) : α 2 f p ≠ 1 := by
  have := (ask_p h).2.2
  unfold wanted at this
  simp only [Bool.and_eq_true, decide_eq_true_eq] at this
  exact this.1
theorem un1_ap {α : kα} {f p v q : Nat} (hq : q ≠ p) : un1 (ap α f p v) f q = un1 α f q := by
  unfold un1
  rw [ap_7, if_neg hq, ap_o _ _ _ _ _ _ _ (by omega) (by omega), ap_o _ _ _ _ _ _ _ (by omega) (by omega)]
theorem un1_apS {α : kα} {f p v : Nat} : un1 (ap α f p v) f p = 0 := by
  unfold un1
  rw [ap_7, if_pos rfl, if_neg (by omega)]
theorem uns_ap {α : kα} {f p v : Nat} (h : ask α f p = true) (h5 : p < 5) : uns (ap α f p v) f + 1 = uns α f := by
  have e : un1 α f p = 1 := by
    unfold un1
    rw [if_pos ⟨(ask_p h).1, ask_w h, (ask_p h).2.1⟩]
  unfold uns
  rcases (show p = 0 ∨ p = 1 ∨ p = 2 ∨ p = 3 ∨ p = 4 by omega) with rfl | rfl | rfl | rfl | rfl
  · rw [un1_apS, un1_ap (show 1 ≠ 0 by omega), un1_ap (show 2 ≠ 0 by omega), un1_ap (show 3 ≠ 0 by omega), un1_ap (show 4 ≠ 0 by omega)]; omega
  · rw [un1_apS, un1_ap (show 0 ≠ 1 by omega), un1_ap (show 2 ≠ 1 by omega), un1_ap (show 3 ≠ 1 by omega), un1_ap (show 4 ≠ 1 by omega)]; omega
  · rw [un1_apS, un1_ap (show 0 ≠ 2 by omega), un1_ap (show 1 ≠ 2 by omega), un1_ap (show 3 ≠ 2 by omega), un1_ap (show 4 ≠ 2 by omega)]; omega
  · rw [un1_apS, un1_ap (show 0 ≠ 3 by omega), un1_ap (show 1 ≠ 3 by omega), un1_ap (show 2 ≠ 3 by omega), un1_ap (show 4 ≠ 3 by omega)]; omega
  · rw [un1_apS, un1_ap (show 0 ≠ 4 by omega), un1_ap (show 1 ≠ 4 by omega), un1_ap (show 2 ≠ 4 by omega), un1_ap (show 3 ≠ 4 by omega)]; omega
theorem wby_congr {W W' : kα → Nat} {α : kα} {f p : Nat} : ∀ (k v r : Nat), (∀ j, v ≤ j → j < v + k → W (ap α f p j) = W' (ap α f p j)) → wby W α f p k v r = wby W' α f p k v r
  | 0, v, r, h => rfl
  | k + 1, v, r, h => by
    rw [wby_s, wby_s, h v (by omega) (by omega)]
    exact wby_congr k (v + 1) _ (fun j h1 h2 => h j (by omega) (by omega))
theorem wof_congr {W W' : kα → Nat} {α : kα} {f : Nat} : ∀ (k p r : Nat), (∀ q j, p ≤ q → q < p + k → ask α f q = true → W (ap α f q j) = W' (ap α f q j)) → wof W α f k p r = wof W' α f k p r
  | 0, p, r, h => rfl
  | k + 1, p, r, h => by
    rw [wof_s, wof_s]
    have e : (if ask α f p = true then min r (WB W α f p) else r) = if ask α f p = true then min r (WB W' α f p) else r := by
      by_cases hp : ask α f p = true
      · rw [if_pos hp, if_pos hp]
        unfold WB
        rw [wby_congr (W := W) (W' := W') (α 3 f p) 0 0 (fun j _ _ => h p j (by omega) (by omega) hp)]
      · rw [if_neg hp, if_neg hp]
    rw [e]
    exact wof_congr k (p + 1) _ (fun q j h1 h2 => h q j (by omega) (by omega))
theorem VV_eq {α : kα} {f : Nat} (h5 : α 1 f 0 ≤ 5) : VV α f = Wst (fun β => VV β f) α f := by
  unfold VV
  rw [V_s]
  unfold Wst
  by_cases h : asks α f = 0
  · rw [if_pos h, if_pos h]
  · rw [if_neg h, if_neg h]
    refine wof_congr _ _ _ (fun q j h1 h2 hq => ?_)
    show V (uns α f) (ap α f q j) f = V (uns (ap α f q j) f + 1) (ap α f q j) f
    rw [uns_ap hq (by omega)]
theorem min_le_l (a b : Nat) : min a b ≤ a := Nat.min_le_left a b
theorem wby_100 {W : kα → Nat} {α : kα} {f p : Nat} : ∀ (k v r : Nat), wby W α f p k v r ≤ 100
  | 0, v, r => by
    rw [wby_0]
    split
    · omega
    · exact Nat.min_le_left _ _
  | k + 1, v, r => by rw [wby_s]; exact wby_100 k (v + 1) _
theorem wof_le {W : kα → Nat} {α : kα} {f : Nat} : ∀ (k p r : Nat), wof W α f k p r ≤ r
  | 0, p, r => Nat.le_refl _
  | k + 1, p, r => by
    rw [wof_s]
    refine Nat.le_trans (wof_le k (p + 1) _) ?_
    split
    · exact Nat.min_le_left _ _
    · exact Nat.le_refl _
theorem Wst_100 {W : kα → Nat} {α : kα} {f : Nat} : Wst W α f ≤ 100 := by
  unfold Wst
  split
  · omega
  · exact wof_le _ _ _
theorem VV_100 (α : kα) (f : Nat) : VV α f ≤ 100 := by
  unfold VV
  rw [V_s]
  exact Wst_100
/-! what is sure stays so -/
theorem sv_ap {α : kα} {f p v q : Nat} (h0 : α 7 f p = 0) (hs : sv α f q ≠ 0) : sv (ap α f p v) f q = sv α f q := by
  unfold sv at hs ⊢
  rw [ap_o α f p v 2 f q (by omega) (by omega), ap_o α f p v 3 f q (by omega) (by omega), ap_o α f p v 4 f q (by omega) (by omega), ap_o α f p v 5 f q (by omega) (by omega), ap_7, ap_7, ap_7]
  by_cases k : α 2 f q = 1
  · rw [if_pos k] at hs ⊢
    by_cases e : α 7 f (α 4 f q) = 0 ∨ α 7 f (α 5 f q) = 0
    · rw [if_pos e] at hs; exact absurd rfl hs
    · have e4 : (if α 4 f q = p then v + 1 else α 7 f (α 4 f q)) = α 7 f (α 4 f q) := if_neg (fun h => e (Or.inl (by rw [h]; exact h0)))
      have e5 : (if α 5 f q = p then v + 1 else α 7 f (α 5 f q)) = α 7 f (α 5 f q) := if_neg (fun h => e (Or.inr (by rw [h]; exact h0)))
      simp only [e4, e5, if_pos k]
  · rw [if_neg k] at hs ⊢
    rw [if_neg (show ¬ q = p from fun h => hs (by rw [h]; exact h0)), if_neg k]
theorem wgo_ap {α : kα} {f p v q : Nat} (h0 : α 7 f p = 0) : ∀ (k r : Nat) (fr : Bool), wgo α f q k r fr = true → wgo (ap α f p v) f q k r fr = true
  | 0, r, fr, h => h
  | k + 1, r, fr, h => by
    unfold wgo at h ⊢
    rw [ap_o α f p v 9 f r (by omega) (by omega), ap_o α f p v 10 f r (by omega) (by omega), ap_o α f p v 11 f r (by omega) (by omega), ap_o α f p v 12 f r (by omega) (by omega)]
    by_cases e : α 9 f r = 1 ∧ α 12 f r = q
    · rw [if_pos e] at h ⊢
      by_cases e2 : sv α f (α 10 f r) = α 11 f r + 1
      · rw [if_pos (by rw [sv_ap h0 (by omega)]; exact e2)]
      · rw [if_neg e2] at h
        split
        · rfl
        · exact wgo_ap h0 k (r + 1) _ h
    · rw [if_neg e] at h ⊢
      exact wgo_ap h0 k (r + 1) _ h
theorem ask_ap {α : kα} {f p v q : Nat} (h0 : α 7 f p = 0) (hq : q ≠ p) (h : ask α f q = true) : ask (ap α f p v) f q = true := by
  have hk := ask_w h
  obtain ⟨h1, h2, h3⟩ := ask_p h
  unfold wanted at h3
  unfold ask wanted
  rw [ap_7, if_neg hq, ap_o α f p v 1 f 0 (by omega) (by omega), ap_o α f p v 2 f q (by omega) (by omega), ap_o α f p v 8 f 0 (by omega) (by omega)]
  simp only [Bool.and_eq_true, decide_eq_true_eq] at h3 ⊢
  exact ⟨h1, h2, h3.1, wgo_ap h0 _ _ _ h3.2⟩
theorem as1_ap {α : kα} {f p v q : Nat} (h0 : α 7 f p = 0) (hq : q ≠ p) : as1 α f q ≤ as1 (ap α f p v) f q := by
  unfold as1
  by_cases h : ask α f q = true
  · rw [if_pos h, if_pos (ask_ap h0 hq h)]; omega
  · rw [if_neg h]; omega
theorem as1_le (α : kα) (f p : Nat) : as1 α f p ≤ 1 := by unfold as1; split <;> omega
theorem asks_ap {α : kα} {f p v : Nat} (h0 : α 7 f p = 0) (h5 : p < 5) : asks α f ≤ asks (ap α f p v) f + 1 := by
  have l0 := as1_le α f p
  unfold asks
  rcases (show p = 0 ∨ p = 1 ∨ p = 2 ∨ p = 3 ∨ p = 4 by omega) with rfl | rfl | rfl | rfl | rfl
  · have a1 := as1_ap (v := v) h0 (show 1 ≠ 0 by omega); have a2 := as1_ap (v := v) h0 (show 2 ≠ 0 by omega); have a3 := as1_ap (v := v) h0 (show 3 ≠ 0 by omega); have a4 := as1_ap (v := v) h0 (show 4 ≠ 0 by omega); omega
  · have a1 := as1_ap (v := v) h0 (show 0 ≠ 1 by omega); have a2 := as1_ap (v := v) h0 (show 2 ≠ 1 by omega); have a3 := as1_ap (v := v) h0 (show 3 ≠ 1 by omega); have a4 := as1_ap (v := v) h0 (show 4 ≠ 1 by omega); omega
  · have a1 := as1_ap (v := v) h0 (show 0 ≠ 2 by omega); have a2 := as1_ap (v := v) h0 (show 1 ≠ 2 by omega); have a3 := as1_ap (v := v) h0 (show 3 ≠ 2 by omega); have a4 := as1_ap (v := v) h0 (show 4 ≠ 2 by omega); omega
  · have a1 := as1_ap (v := v) h0 (show 0 ≠ 3 by omega); have a2 := as1_ap (v := v) h0 (show 1 ≠ 3 by omega); have a3 := as1_ap (v := v) h0 (show 2 ≠ 3 by omega); have a4 := as1_ap (v := v) h0 (show 4 ≠ 3 by omega); omega
  · have a1 := as1_ap (v := v) h0 (show 0 ≠ 4 by omega); have a2 := as1_ap (v := v) h0 (show 1 ≠ 4 by omega); have a3 := as1_ap (v := v) h0 (show 2 ≠ 4 by omega); have a4 := as1_ap (v := v) h0 (show 3 ≠ 4 by omega); omega
theorem asks_5 (α : kα) (f : Nat) : asks α f ≤ 5 := by
  have a0 := as1_le α f 0; have a1 := as1_le α f 1; have a2 := as1_le α f 2; have a3 := as1_le α f 3; have a4 := as1_le α f 4
  unfold asks; omega
theorem wby_ge {W : kα → Nat} {α : kα} {f p n : Nat} (hn : n ≤ 100) : ∀ (k v r : Nat), (∀ j, n ≤ W (ap α f p j) + 1) → (r = 0 ∨ n ≤ r) → n ≤ wby W α f p k v r
  | 0, v, r, h, hr => by
    rw [wby_0]
    by_cases e : r = 0
    · rw [if_pos e]; exact hn
    · rw [if_neg e]; exact Nat.le_min.mpr ⟨hn, hr.resolve_left e⟩
  | k + 1, v, r, h, hr => by
    rw [wby_s]
    refine wby_ge hn k (v + 1) _ h ?_
    split
    · exact Or.inr (Nat.le_trans (h v) (Nat.le_max_right _ _))
    · exact hr
theorem wof_ge {W : kα → Nat} {α : kα} {f n : Nat} : ∀ (k p r : Nat), n ≤ r → (∀ q, p ≤ q → q < p + k → ask α f q = true → n ≤ WB W α f q) → n ≤ wof W α f k p r
  | 0, p, r, hr, h => hr
  | k + 1, p, r, hr, h => by
    rw [wof_s]
    refine wof_ge k (p + 1) _ ?_ (fun q h1 h2 => h q (by omega) (by omega))
    split
    · exact Nat.le_min.mpr ⟨hr, h p (by omega) (by omega) (by assumption)⟩
    · exact hr
/-- no order needs fewer questions than are asked now -/
theorem V_ge : ∀ (m : Nat) (α : kα) (f : Nat), α 1 f 0 ≤ 5 → uns α f < m → asks α f ≤ V m α f
  | 0, α, f, h5, h => by omega
  | m + 1, α, f, h5, h => by
    rw [V_s]
    unfold Wst
    by_cases e : asks α f = 0
    · rw [if_pos e]; omega
    · rw [if_neg e]
      have h55 := asks_5 α f
      refine wof_ge _ _ _ (by omega) (fun q h1 h2 hq => ?_)
      unfold WB
      refine wby_ge (by omega) _ _ _ (fun j => ?_) (Or.inl rfl)
      have hu := uns_ap (v := j) hq (by omega)
      have := V_ge m (ap α f q j) f (by rw [ap_o _ _ _ _ _ _ _ (by omega) (by omega)]; exact h5) (by omega)
      have := asks_ap (v := j) (ask_p hq).2.1 (show q < 5 by omega)
      omega
theorem WB_ge {α : kα} {f q : Nat} (h5 : α 1 f 0 ≤ 5) (hq : ask α f q = true) : asks α f ≤ WB (fun β => VV β f) α f q := by
  have h1 := (ask_p hq).1
  have h55 := asks_5 α f
  unfold WB
  refine wby_ge (by omega) _ _ _ (fun j => ?_) (Or.inl rfl)
  have hu := uns_ap (v := j) hq (by omega)
  have : asks (ap α f q j) f ≤ VV (ap α f q j) f := V_ge _ _ f (by rw [ap_o _ _ _ _ _ _ _ (by omega) (by omega)]; exact h5) (Nat.lt_succ_self _)
  have := asks_ap (v := j) (ask_p hq).2.1 (show q < 5 by omega)
  omega
