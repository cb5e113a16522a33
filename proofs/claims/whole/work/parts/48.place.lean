/-! a form's codes alone -/
theorem cok.congr {α β : kα} {g p s v : Nat} (h : ∀ c j, β c g j = α c g j) (hc : cok α g p s v) : cok β g p s v := by
  unfold cok at hc ⊢
  simp only [h]
  exact hc
theorem wfF.congr {α β : kα} {g : Nat} (h : ∀ c j, 1 ≤ c → c ≤ 15 → β c g j = α c g j) (hc : wfF α g) : wfF β g := by
  unfold wfF wfP wfS wfR wfW cok at hc ⊢
  simp only [h 1 _ (by decide) (by decide), h 2 _ (by decide) (by decide), h 3 _ (by decide) (by decide), h 4 _ (by decide) (by decide), h 5 _ (by decide) (by decide), h 6 _ (by decide) (by decide), h 7 _ (by decide) (by decide), h 8 _ (by decide) (by decide), h 9 _ (by decide) (by decide), h 10 _ (by decide) (by decide), h 11 _ (by decide) (by decide), h 12 _ (by decide) (by decide), h 13 _ (by decide) (by decide), h 14 _ (by decide) (by decide), h 15 _ (by decide) (by decide)]
  exact hc
theorem RF.congr {α β : kα} {u : kO} {g : Nat} (h : ∀ c j, 1 ≤ c → c ≤ 15 → β c g j = α c g j) (hc : RF u α g) : RF u β g := by
  unfold RF at hc ⊢
  simp only [h 1 _ (by decide) (by decide), h 2 _ (by decide) (by decide), h 3 _ (by decide) (by decide), h 4 _ (by decide) (by decide), h 5 _ (by decide) (by decide), h 6 _ (by decide) (by decide), h 7 _ (by decide) (by decide), h 8 _ (by decide) (by decide), h 9 _ (by decide) (by decide), h 10 _ (by decide) (by decide), h 11 _ (by decide) (by decide), h 12 _ (by decide) (by decide), h 13 _ (by decide) (by decide), h 14 _ (by decide) (by decide), h 15 _ (by decide) (by decide)]
  exact hc
theorem MF.congr {α β : kα} {m : kO} {g : Nat} (h : ∀ c j, 1 ≤ c → c ≤ 15 → β c g j = α c g j) (hc : MF m α g) : MF m β g := by
  unfold MF at hc ⊢
  simp only [h 1 _ (by decide) (by decide), h 2 _ (by decide) (by decide), h 3 _ (by decide) (by decide), h 4 _ (by decide) (by decide), h 5 _ (by decide) (by decide), h 6 _ (by decide) (by decide), h 7 _ (by decide) (by decide), h 8 _ (by decide) (by decide), h 9 _ (by decide) (by decide), h 10 _ (by decide) (by decide), h 11 _ (by decide) (by decide), h 12 _ (by decide) (by decide), h 13 _ (by decide) (by decide), h 14 _ (by decide) (by decide), h 15 _ (by decide) (by decide)]
  exact hc
/-- the uppermost form is in the talk -/
theorem tgo_in {α : kα} {f : Nat} : ∀ (k i j : Nat), i ≤ j → j < i + k → α 24 j 0 = f → tgo α f k i = true
  | 0, i, j, h1, h2, h => by omega
  | k + 1, i, j, h1, h2, h => by
    unfold tgo
    by_cases e : α 24 i 0 = f
    · rw [if_pos e]
    · rw [if_neg e]
      exact tgo_in k (i + 1) j (by rcases Nat.lt_or_ge i j with q | q; exact q; exact absurd (show α 24 i 0 = f by rw [show i = j by omega]; exact h) e) (by omega) h
theorem top_ne {α : kα} {f : Nat} (h : inT α f = false) (hp : 0 < α 0 1 0) : top α ≠ f := fun e => by
  have := tgo_in (α := α) (f := f) (α 0 1 0) 0 (α 0 1 0 - 1) (by omega) (by omega) e
  unfold inT at h
  rw [this] at h
  cases h
/-- a place more -/
def αadd (α : kα) (f kd z p q : Nat) : kα := au (au (au (au (au α 2 f (α 1 f 0) kd) 3 f (α 1 f 0) z) 4 f (α 1 f 0) p) 5 f (α 1 f 0) q) 1 f 0 (α 1 f 0 + 1)
theorem αadd_ne {α : kα} {f kd z p q g : Nat} (hg : g ≠ f) (c j : Nat) : αadd α f kd z p q c g j = α c g j := by
  unfold αadd
  simp [au_eq, hg]
theorem αadd_o {α : kα} {f kd z p q : Nat} (c g j : Nat) (h : c ≠ 1 ∧ c ≠ 2 ∧ c ≠ 3 ∧ c ≠ 4 ∧ c ≠ 5) : αadd α f kd z p q c g j = α c g j := by
  unfold αadd
  simp [au_eq, h]
theorem αadd_1 {α : kα} {f kd z p q : Nat} : αadd α f kd z p q 1 f 0 = α 1 f 0 + 1 := by
  unfold αadd
  simp [au_eq]
theorem αadd_2 {α : kα} {f kd z p q : Nat} (j : Nat) : αadd α f kd z p q 2 f j = if j = α 1 f 0 then kd else α 2 f j := by
  unfold αadd
  simp [au_eq]
theorem αadd_3 {α : kα} {f kd z p q : Nat} (j : Nat) : αadd α f kd z p q 3 f j = if j = α 1 f 0 then z else α 3 f j := by
  unfold αadd
  simp [au_eq]
theorem αadd_4 {α : kα} {f kd z p q : Nat} (j : Nat) : αadd α f kd z p q 4 f j = if j = α 1 f 0 then p else α 4 f j := by
  unfold αadd
  simp [au_eq]
theorem αadd_5 {α : kα} {f kd z p q : Nat} (j : Nat) : αadd α f kd z p q 5 f j = if j = α 1 f 0 then q else α 5 f j := by
  unfold αadd
  simp [au_eq]
theorem cok_add {α : kα} {f kd z a b g p s v : Nat} (h : cok α g p s v) : cok (αadd α f kd z a b) g p s v := by
  by_cases hg : g = f
  · subst hg
    unfold cok at h ⊢
    rw [αadd_1, αadd_2, αadd_3]
    by_cases e : p = α 1 g 0
    · rw [if_pos e, if_pos e]
      have h0 := h.2 (by omega)
      rw [h0.1, h0.2]
      refine ⟨fun _ => ⟨Nat.two_pow_pos _, by omega, by omega⟩, fun _ => ⟨rfl, rfl⟩⟩
    · rw [if_neg e, if_neg e]
      refine ⟨fun q => h.1 ⟨by omega, q.2⟩, fun q => h.2 (fun q2 => q ⟨by omega, q2.2⟩)⟩
  · exact h.congr (fun c j => αadd_ne hg c j)
theorem wf_add {α : kα} {f kd z a b k : Nat} (hw : WF α k) (hf : f < α 0 0 0) (hT : inT α f = false) (h5 : α 1 f 0 < 5) (hk : kd ≤ 2) (hz : 2 ≤ z ∧ z ≤ 4) (hab : kd = 1 → a < α 1 f 0 ∧ b < α 1 f 0 ∧ α 2 f a ≠ 1 ∧ α 2 f b ≠ 1) : WF (αadd α f kd z a b) (k + 1) := by
  obtain ⟨w1, w2, w3, w4, w5, w6, w7, w8, w9⟩ := hw
  refine ⟨⟨w1.1, fun g hg => ?_, fun g hg1 hg2 => ?_⟩, ⟨w2.1, fun r hr => ?_⟩, w3, w4, w5, ⟨w6.1, fun j g p hj hg hp => cok_add (w6.2 j g p hj hg hp)⟩, fun h12 => ?_, by show α 0 6 0 ≤ k + 1; omega, w9⟩
  · have hg : g < α 0 0 0 := hg
    by_cases e : g = f
    · subst e
      obtain ⟨p1, p2, p3, p4⟩ := w1.2.1 g hg
      refine ⟨⟨?_, fun p hp => ?_⟩, fun p hp => ?_, ⟨?_, fun r hr => ?_⟩, fun w hw => ?_⟩
      · rw [αadd_1]; omega
      · rw [αadd_1] at hp
        rw [αadd_2, αadd_3, αadd_4, αadd_5, αadd_1]
        by_cases e : p = α 1 g 0
        · simp only [if_pos e]
          refine ⟨hk, hz.1, hz.2, fun q => ?_⟩
          obtain ⟨q1, q2, q3, q4⟩ := hab q
          rw [αadd_2, αadd_2, if_neg (by omega), if_neg (by omega)]
          exact ⟨by omega, by omega, q3, q4⟩
        · simp only [if_neg e]
          obtain ⟨q1, q2, q3, q4⟩ := p1.2 p (by omega)
          refine ⟨q1, q2, q3, fun q => ?_⟩
          obtain ⟨s1, s2, s3, s4⟩ := q4 q
          rw [αadd_2, αadd_2, if_neg (by omega), if_neg (by omega)]
          exact ⟨by omega, by omega, s3, s4⟩
      · exact cok_add (p2 p hp)
      · exact p3.1
      · have hr : r < α 8 g 0 := hr
        obtain ⟨q1, q2, q3, q4, q5, q6⟩ := p3.2 r hr
        show α 9 g r ≤ 1 ∧ α 10 g r < αadd α g kd z a b 1 g 0 ∧ α 12 g r < αadd α g kd z a b 1 g 0 ∧ α 11 g r < αadd α g kd z a b 3 g (α 10 g r) ∧ α 13 g r < 4 ∧ (α 9 g r = 1 → αadd α g kd z a b 2 g (α 12 g r) ≠ 1)
        rw [αadd_1, αadd_2, αadd_3, if_neg (by omega), if_neg (by omega)]
        exact ⟨q1, by omega, by omega, q4, q5, q6⟩
      · obtain ⟨q1, q2⟩ := p4 w hw
        show α 14 g w ≤ αadd α g kd z a b 1 g 0 ∧ (0 < α 14 g w → αadd α g kd z a b 2 g (α 14 g w - 1) ≠ 1 ∧ α 15 g w < αadd α g kd z a b 3 g (α 14 g w - 1))
        rw [αadd_1, αadd_2, αadd_3]
        refine ⟨by omega, fun q => ?_⟩
        rw [if_neg (by omega), if_neg (by omega)]
        exact q2 q
    · exact (w1.2.1 g hg).congr (fun c j _ _ => αadd_ne e c j)
  · have hg1 : α 0 0 0 ≤ g := hg1
    have := w1.2.2 g hg1 hg2
    simp only [αadd_ne (show g ≠ f by omega)]
    exact this
  · have hr : r < α 0 3 0 := hr
    obtain ⟨q1, q2, q3, q4, q5, q6, q7⟩ := w2.2 r hr
    refine ⟨q1, q2, q3, q4, q5, q6, fun i hi => ?_⟩
    obtain ⟨s1, s2, s3⟩ := q7 i hi
    refine ⟨s1, s2, fun q => ?_⟩
    obtain ⟨u1, u2, u3⟩ := s3 q
    show α 21 r i < αadd α f kd z a b 1 (α 16 r 0) 0 ∧ αadd α f kd z a b 2 (α 16 r 0) (α 21 r i) ≠ 1 ∧ α 18 r 0 = 0
    by_cases e : α 16 r 0 = f
    · rw [e] at u1 u2 ⊢
      rw [αadd_1, αadd_2, if_neg (by omega)]
      exact ⟨by omega, u2, u3⟩
    · rw [αadd_ne e, αadd_ne e]
      exact ⟨u1, u2, u3⟩
  · obtain ⟨q1, q2⟩ := w7 h12
    have hne := top_ne hT q1
    refine ⟨q1, ?_⟩
    show α 0 12 0 - 1 < αadd α f kd z a b 1 (top α) 0 ∧ αadd α f kd z a b 2 (top α) (α 0 12 0 - 1) ≠ 1 ∧ α 7 (top α) (α 0 12 0 - 1) = 0 ∧ α 0 13 0 < αadd α f kd z a b 3 (top α) (α 0 12 0 - 1)
    rw [αadd_ne hne, αadd_ne hne, αadd_ne hne]
    exact q2
theorem RF_add {α : kα} {u u' : kO} {f kd z a b : Nat} (h : RF u α f) (e0 : u'.1 0 = nI (α 1 f 0 + 1)) (e7 : u'.1 7 = u.1 7) (e1 : u'.2 1 = upd (u.2 1) (α 1 f 0) (nI kd)) (e2 : u'.2 2 = upd (u.2 2) (α 1 f 0) (nI z)) (e3 : u'.2 3 = upd (u.2 3) (α 1 f 0) (nI a)) (e4 : u'.2 4 = upd (u.2 4) (α 1 f 0) (nI b)) (e : ∀ k, 5 ≤ k → u'.2 k = u.2 k) : RF u' (αadd α f kd z a b) f := by
  obtain ⟨⟨p1, p2, p3, p4, p5⟩, s, ⟨r1, r2⟩, w⟩ := h
  refine ⟨⟨?_, fun p hp => ?_, fun p hp => ?_, fun p hp hk => ?_, fun p hp hk => ?_⟩, ?_, ⟨?_, ?_⟩, ?_⟩
  · rw [αadd_1]; exact e0
  · rw [αadd_1] at hp
    rw [e1, upd_eq, αadd_2]
    by_cases q : p = α 1 f 0
    · rw [if_pos q, if_pos q]
    · rw [if_neg q, if_neg q]; exact p2 p (by omega)
  · rw [αadd_1] at hp
    rw [e2, upd_eq, αadd_3]
    by_cases q : p = α 1 f 0
    · rw [if_pos q, if_pos q]
    · rw [if_neg q, if_neg q]; exact p3 p (by omega)
  · rw [αadd_1] at hp
    rw [αadd_2] at hk
    rw [e3, upd_eq, αadd_4]
    by_cases q : p = α 1 f 0
    · rw [if_pos q, if_pos q]
    · rw [if_neg q] at hk
      rw [if_neg q, if_neg q]; exact p4 p (by omega) hk
  · rw [αadd_1] at hp
    rw [αadd_2] at hk
    rw [e4, upd_eq, αadd_5]
    by_cases q : p = α 1 f 0
    · rw [if_pos q, if_pos q]
    · rw [if_neg q] at hk
      rw [if_neg q, if_neg q]; exact p5 p (by omega) hk
  · rw [e 5 (by omega), e 6 (by omega)]; exact s
  · rw [e7]; exact r1
  · rw [e 8 (by omega), e 9 (by omega), e 10 (by omega), e 11 (by omega), e 12 (by omega)]; exact r2
  · rw [e 13 (by omega), e 14 (by omega)]; exact w
theorem MF_add {α : kα} {m m' : kO} {f kd z a b g : Nat} (h : MF m α g) (h5 : α 1 f 0 < 5) (hg5 : α 1 g 0 ≤ 5) (e3 : m'.2 3 = upd (m.2 3) (5 * f + α 1 f 0) (nI kd)) (e4 : m'.2 4 = upd (m.2 4) (5 * f + α 1 f 0) (nI z)) (e5 : ∀ x, (kd = 1 → x = 5 * f + α 1 f 0 → m'.2 5 x = nI (5 * f + a)) ∧ (x ≠ 5 * f + α 1 f 0 → m'.2 5 x = m.2 5 x)) (e6 : ∀ x, (kd = 1 → x = 5 * f + α 1 f 0 → m'.2 6 x = nI (5 * f + b)) ∧ (x ≠ 5 * f + α 1 f 0 → m'.2 6 x = m.2 6 x)) (e : ∀ k, 10 ≤ k → m'.2 k = m.2 k) : MF m' (αadd α f kd z a b) g := by
  obtain ⟨⟨p2, p3, p4, p5⟩, r, w⟩ := h
  by_cases hg : g = f
  · subst hg
    refine ⟨⟨fun p hp => ?_, fun p hp => ?_, fun p hp hk => ?_, fun p hp hk => ?_⟩, ?_, ?_⟩
    · rw [αadd_1] at hp
      rw [e3, upd_eq, αadd_2]
      by_cases q : p = α 1 g 0
      · rw [if_pos q, if_pos (by omega)]
      · rw [if_neg q, if_neg (by omega)]; exact p2 p (by omega)
    · rw [αadd_1] at hp
      rw [e4, upd_eq, αadd_3]
      by_cases q : p = α 1 g 0
      · rw [if_pos q, if_pos (by omega)]
      · rw [if_neg q, if_neg (by omega)]; exact p3 p (by omega)
    · rw [αadd_1] at hp
      rw [αadd_2] at hk
      rw [αadd_4]
      by_cases q : p = α 1 g 0
      · rw [if_pos q] at hk
        rw [if_pos q]
        exact (e5 _).1 hk (by omega)
      · rw [if_neg q] at hk
        rw [if_neg q, (e5 _).2 (by omega)]; exact p4 p (by omega) hk
    · rw [αadd_1] at hp
      rw [αadd_2] at hk
      rw [αadd_5]
      by_cases q : p = α 1 g 0
      · rw [if_pos q] at hk
        rw [if_pos q]
        exact (e6 _).1 hk (by omega)
      · rw [if_neg q] at hk
        rw [if_neg q, (e6 _).2 (by omega)]; exact p5 p (by omega) hk
    · rw [e 10 (by omega), e 11 (by omega), e 12 (by omega), e 13 (by omega), e 14 (by omega)]; exact r
    · rw [e 15 (by omega)]; exact w
  · have hx : ∀ p, p < α 1 g 0 → 5 * g + p ≠ 5 * f + α 1 f 0 := fun p hp => by omega
    refine MF.congr (α := α) (fun c j _ _ => αadd_ne hg c j) ⟨⟨fun p hp => ?_, fun p hp => ?_, fun p hp hk => ?_, fun p hp hk => ?_⟩, ?_, ?_⟩
    · rw [e3, upd_eq, if_neg (hx p hp)]; exact p2 p hp
    · rw [e4, upd_eq, if_neg (hx p hp)]; exact p3 p hp
    · rw [(e5 _).2 (hx p hp)]; exact p4 p hp hk
    · rw [(e6 _).2 (hx p hp)]; exact p5 p hp hk
    · rw [e 10 (by omega), e 11 (by omega), e 12 (by omega), e 13 (by omega), e 14 (by omega)]; exact r
    · rw [e 15 (by omega)]; exact w
theorem c_addPlace {α : kα} {S : kS} {o f : Nat} (hF : RF (S o) α f) (h5 : α 1 f 0 < 5) (x y z w : Int32) : ∃ S1, FX0_addPlace o S x y z w = some (nI (α 1 f 0), S1) ∧ (∀ o', o' ≠ o → S1 o' = S o') ∧ (S1 o).1 0 = nI (α 1 f 0 + 1) ∧ (S1 o).1 7 = (S o).1 7 ∧ (S1 o).2 1 = upd ((S o).2 1) (α 1 f 0) x ∧ (S1 o).2 2 = upd ((S o).2 2) (α 1 f 0) y ∧ (S1 o).2 3 = upd ((S o).2 3) (α 1 f 0) z ∧ (S1 o).2 4 = upd ((S o).2 4) (α 1 f 0) w ∧ ∀ k, 5 ≤ k → (S1 o).2 k = (S o).2 k := by
  refine ⟨kpI (kpR (kpR (kpR (kpR S o 1 (upd ((S o).2 1) (α 1 f 0) x)) o 2 (upd ((S o).2 2) (α 1 f 0) y)) o 3 (upd ((S o).2 3) (α 1 f 0) z)) o 4 (upd ((S o).2 4) (α 1 f 0) w)) o 0 (nI (α 1 f 0 + 1)), ?_, ?_, ?_, ?_, ?_, ?_, ?_, ?_, ?_⟩
  · unfold FX0_addPlace
    simp (disch := omega) only [kb, kI_eq, hF.1.1, li_5, nI_t', h5, if_true, kin_t, kgd_t, kpA_nI, pR_1, pR_2, pI_1, li_1, nI_add, and_self, and_false, Nat.reduceEqDiff, if_false]
    rw [nI_sub (by omega)]
    rfl
  · intro o' ho'
    rw [pI_ne ho', pR_ne ho', pR_ne ho', pR_ne ho', pR_ne ho']
  · simp [pI_1]
  · simp [pI_1, pR_1]
  · simp [pI_2, pR_2]
  · simp [pI_2, pR_2]
  · simp [pI_2, pR_2]
  · simp [pI_2, pR_2]
  · intro k hk
    simp [pI_2, pR_2, show k ≠ 1 by omega, show k ≠ 2 by omega, show k ≠ 3 by omega, show k ≠ 4 by omega]
theorem m_comes {α : kα} {S : kS} {f : Nat} (hS : MS (S 5) α) (hf : f < 3) (h5 : α 1 f 0 < 5) (x y : Int32) : ∃ S1, FX6_comes S (nI f) x y = some (nI (α 1 f 0), S1) ∧ (∀ o', o' ≠ 5 → S1 o' = S o') ∧ (S1 5).1 = (S 5).1 ∧ (S1 5).2 2 = upd ((S 5).2 2) f (nI (α 1 f 0 + 1)) ∧ (S1 5).2 3 = upd ((S 5).2 3) (5 * f + α 1 f 0) x ∧ (S1 5).2 4 = upd ((S 5).2 4) (5 * f + α 1 f 0) y ∧ (S1 5).2 7 = upd ((S 5).2 7) (5 * f + α 1 f 0) 0 ∧ (S1 5).2 8 = upd ((S 5).2 8) (5 * f + α 1 f 0) 0 ∧ ∀ k, k ≠ 2 → k ≠ 3 → k ≠ 4 → k ≠ 7 → k ≠ 8 → (S1 5).2 k = (S 5).2 k := by
  refine ⟨kpR (kpR (kpR (kpR (kpR S 5 3 (upd ((S 5).2 3) (5 * f + α 1 f 0) x)) 5 4 (upd ((S 5).2 4) (5 * f + α 1 f 0) y)) 5 7 (upd ((S 5).2 7) (5 * f + α 1 f 0) 0)) 5 8 (upd ((S 5).2 8) (5 * f + α 1 f 0) 0)) 5 2 (upd ((S 5).2 2) f (nI (α 1 f 0 + 1))), ?_, ?_, rfl, rfl, rfl, rfl, rfl, rfl, ?_⟩
  · unfold FX6_comes
    have e01 : (0 : Int32) &&& 1 = 0 := by decide
    simp (disch := omega) only [kb, li_5, nI_mul, nI_add, kA_nI, hS.1 f hf, kin_t, kgd_t, kpA_nI, e01, pR_2, and_false, true_and, Nat.reduceEqDiff, if_false, and_self, if_true, upd_eq]
    rw [li_1, nI_add, nI_sub (by omega)]
    rfl
  · intro o' ho'
    rw [pR_ne ho', pR_ne ho', pR_ne ho', pR_ne ho', pR_ne ho']
  · intro k h2 h3 h4 h7 h8
    simp [pR_2, h2, h3, h4, h7, h8]
