/-! what the state means: numbers by code and two indices; and what it means to be well formed -/
-- codes: 0 globals (0 forms, 1 in the talk, 2 words that wait, 3 rows, 4 items that wait, 5 lines kept, 6 unheard, 7 cost, 8 heard, 9 passed, 10 readings, 11 broken + 1, 12 asked place + 1, 13 asked value); 1 places; 2 kind; 3 size; 4, 5 parts; 6 set; 7 sure + 1; 8 rules; 9 kind of rule; 10 .. 13 a v b w; 14 place said + 1; 15 value said; 16 .. 19 row's form, cost, act, size; 20, 21 items; 22, 23 items that wait; 24 pile; 25 line; 26, 27 kept set, kept sure + 1
abbrev kα : Type := Nat → Nat → Nat → Nat
def au (α : kα) (c i j v : Nat) : kα := fun c' i' j' => if c' = c then (if i' = i ∧ j' = j then v else α c' i' j') else α c' i' j'
/-- a whole code anew -/
def ac (α : kα) (c : Nat) (g : Nat → Nat → Nat) : kα := fun c' i' j' => if c' = c then g i' j' else α c' i' j'
theorem au_eq (α : kα) (c i j v c' i' j' : Nat) : au α c i j v c' i' j' = if c' = c ∧ i' = i ∧ j' = j then v else α c' i' j' := by
  unfold au
  by_cases h : c' = c <;> simp [h]
theorem ac_eq (α : kα) (c : Nat) (g : Nat → Nat → Nat) (c' i' j' : Nat) : ac α c g c' i' j' = if c' = c then g i' j' else α c' i' j' := rfl
/-- a cell that holds a set and what it is sure of -/
def cok (α : kα) (f p s v : Nat) : Prop := (p < α 1 f 0 ∧ α 2 f p ≠ 1 → s < 2 ^ α 3 f p ∧ v ≤ α 3 f p ∧ (0 < v → s = 2 ^ (v - 1))) ∧ (¬ (p < α 1 f 0 ∧ α 2 f p ≠ 1) → s = 0 ∧ v = 0)
def wfP (α : kα) (f : Nat) : Prop := α 1 f 0 ≤ 5 ∧ ∀ p, p < α 1 f 0 → α 2 f p ≤ 2 ∧ 2 ≤ α 3 f p ∧ α 3 f p ≤ 4 ∧ (α 2 f p = 1 → α 4 f p < α 1 f 0 ∧ α 5 f p < α 1 f 0 ∧ α 2 f (α 4 f p) ≠ 1 ∧ α 2 f (α 5 f p) ≠ 1)
def wfS (α : kα) (f : Nat) : Prop := ∀ p, p < 5 → cok α f p (α 6 f p) (α 7 f p)
def wfR (α : kα) (f : Nat) : Prop := α 8 f 0 ≤ 6 ∧ ∀ r, r < α 8 f 0 → α 9 f r ≤ 1 ∧ α 10 f r < α 1 f 0 ∧ α 12 f r < α 1 f 0 ∧ α 11 f r < α 3 f (α 10 f r) ∧ α 13 f r < 4 ∧ (α 9 f r = 1 → α 2 f (α 12 f r) ≠ 1)
def wfW (α : kα) (f : Nat) : Prop := ∀ w, w < 64 → α 14 f w ≤ α 1 f 0 ∧ (0 < α 14 f w → α 2 f (α 14 f w - 1) ≠ 1 ∧ α 15 f w < α 3 f (α 14 f w - 1))
def wfF (α : kα) (f : Nat) : Prop := wfP α f ∧ wfS α f ∧ wfR α f ∧ wfW α f
/-- a form's object -/
def RF (u : kO) (α : kα) (f : Nat) : Prop :=
  (u.1 0 = nI (α 1 f 0) ∧ (∀ p, p < α 1 f 0 → u.2 1 p = nI (α 2 f p)) ∧ (∀ p, p < α 1 f 0 → u.2 2 p = nI (α 3 f p)) ∧ (∀ p, p < α 1 f 0 → α 2 f p = 1 → u.2 3 p = nI (α 4 f p)) ∧ (∀ p, p < α 1 f 0 → α 2 f p = 1 → u.2 4 p = nI (α 5 f p))) ∧
  ((∀ p, p < 5 → u.2 5 p = nI (α 6 f p)) ∧ (∀ p, p < 5 → u.2 6 p = nO (α 7 f p))) ∧
  (u.1 7 = nI (α 8 f 0) ∧ (∀ r, r < α 8 f 0 → u.2 8 r = nI (α 9 f r)) ∧ (∀ r, r < α 8 f 0 → u.2 9 r = nI (α 10 f r)) ∧ (∀ r, r < α 8 f 0 → u.2 10 r = nI (α 11 f r)) ∧ (∀ r, r < α 8 f 0 → u.2 11 r = nI (α 12 f r)) ∧ (∀ r, r < α 8 f 0 → u.2 12 r = nI (α 13 f r))) ∧
  ((∀ w, w < 64 → u.2 13 w = nO (α 14 f w)) ∧ (∀ w, w < 64 → 0 < α 14 f w → u.2 14 w = nI (α 15 f w)))
/-- the reference's cells of a form -/
def MF (m : kO) (α : kα) (f : Nat) : Prop :=
  ((∀ p, p < α 1 f 0 → m.2 3 (5 * f + p) = nI (α 2 f p)) ∧ (∀ p, p < α 1 f 0 → m.2 4 (5 * f + p) = nI (α 3 f p)) ∧ (∀ p, p < α 1 f 0 → α 2 f p = 1 → m.2 5 (5 * f + p) = nI (5 * f + α 4 f p)) ∧ (∀ p, p < α 1 f 0 → α 2 f p = 1 → m.2 6 (5 * f + p) = nI (5 * f + α 5 f p))) ∧
  ((∀ r, r < α 8 f 0 → m.2 10 (6 * f + r) = nI (1 - α 9 f r)) ∧ (∀ r, r < α 8 f 0 → m.2 11 (6 * f + r) = nI (5 * f + α 10 f r)) ∧ (∀ r, r < α 8 f 0 → m.2 12 (6 * f + r) = nI (α 11 f r)) ∧ (∀ r, r < α 8 f 0 → m.2 13 (6 * f + r) = nI (5 * f + α 12 f r)) ∧ (∀ r, r < α 8 f 0 → m.2 14 (6 * f + r) = nI (α 13 f r))) ∧
  (∀ w, w < 64 → m.2 15 (64 * f + w) = if α 14 f w = 0 then -1 else nI (4 * (α 14 f w - 1) + α 15 f w))
/-- the reference's counts and sets of all forms -/
def MS (m : kO) (α : kα) : Prop := (∀ f, f < 3 → m.2 2 f = nI (α 1 f 0)) ∧ (∀ f, f < 3 → m.2 9 f = nI (α 8 f 0)) ∧ (∀ f p, f < 3 → p < 5 → m.2 7 (5 * f + p) = nI (α 6 f p)) ∧ (∀ f p, f < 3 → p < 5 → m.2 8 (5 * f + p) = if α 7 f p = 0 then 0 else 1)
/-- of which value a place is sure, and one more; 0: none -/
def sv (α : kα) (f p : Nat) : Nat := if α 2 f p = 1 then (if α 7 f (α 4 f p) = 0 ∨ α 7 f (α 5 f p) = 0 then 0 else (α 7 f (α 4 f p) - 1 + (α 7 f (α 5 f p) - 1)) % α 3 f p + 1) else α 7 f p
def wgo (α : kα) (f p : Nat) : Nat → Nat → Bool → Bool
  | 0, _, free => free
  | k + 1, r, free => if α 9 f r = 1 ∧ α 12 f r = p then (if sv α f (α 10 f r) = α 11 f r + 1 then true else wgo α f p k (r + 1) false) else wgo α f p k (r + 1) free
def wanted (α : kα) (f p : Nat) : Bool := decide (α 2 f p ≠ 1) && wgo α f p (α 8 f 0) 0 true
def bgo (α : kα) (f : Nat) : Nat → Nat → Nat
  | 0, _ => 0
  | k + 1, r => if α 9 f r = 0 ∧ sv α f (α 10 f r) = α 11 f r + 1 ∧ sv α f (α 12 f r) = α 13 f r + 1 then r + 1 else bgo α f k (r + 1)
def broken (α : kα) (f : Nat) : Nat := bgo α f (α 8 f 0) 0
def b2 (b : Bool) : Int32 := if b = true then 1 else 0
