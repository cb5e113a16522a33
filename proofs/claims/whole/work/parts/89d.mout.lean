/-! reading: the reference, whole; what a place is filled with -/
def fW (S S' : kS) : Prop := (∀ o, o ≠ 5 → S' o = S o) ∧ (S' 5).1 = (S 5).1 ∧ ∀ c, (c < 34 ∨ 37 < c) → (S' 5).2 c = (S 5).2 c
theorem fw_fW {a : Nat} {S S' : kS} (h : fw a S S') : fW S S' := ⟨h.1, h.2.1, fun c hc => funext fun i => h.2.2 c i (by omega)⟩
theorem fW_tr {S S' S'' : kS} (h : fW S S') (h' : fW S' S'') : fW S S'' := ⟨fun o ho => by rw [h'.1 o ho, h.1 o ho], by rw [h'.2.1, h.2.1], fun c q => by rw [h'.2.2 c q, h.2.2 c q]⟩
theorem w47z (S : kS) (Y : Option kS) {v : Int32} (h : v < 0) : (if v < 0 then some S else Y) = some S := if_pos h
theorem w47s (G : kS → Int32 → Int32 → Int32 → Option kS) (S : kS) (v1 : Int32) {a x : Nat} (ha : a < 8) (hx : (S 5).2 34 (a + 1) = nI x) : (if nI a < 0 then (some S) else (kgd (kin (nI a + (1 : Int32)) 9) <| kb (kA S 5 34 (nI a + (1 : Int32))) fun x1 => kgd (kin (nI a) 9) <| kb (kpA S 5 34 (nI a) (x1 + (6 : Int32))) fun S1 => G S1 v1 (nI a) (0 : Int32))) = G (kpR S 5 34 (upd ((S 5).2 34) a (nI (6 + x)))) v1 (nI a) 0 := by
  have e1 : nI a + 1 = nI (a + 1) := by rw [li_1, nI_add]
  rw [if_neg (nI_pos (by omega)), e1]
  simp (disch := omega) only [kb, kin_t, kgd_t, kA_nI, kpA_nI, hx, li_6, nI_add, Nat.add_comm x 6]
theorem wS (G : kS → Int32 → Int32 → Option kS) (S : kS) (v1 : Int32) {L : Nat} (h8 : L ≤ 8) (hl : (S 5).1 33 = nI L) : (kb (kI S 5 33) fun x1 => kgd (kin x1 9) <| kb (kpA S 5 34 x1 (0 : Int32)) fun S1 => kb (kI S1 5 33) fun x2 => kgd (kin x2 9) <| kb (kpA S1 5 35 x2 (1 : Int32)) fun S2 => kb (kI S2 5 33) fun x3 => kgd (kin x3 9) <| kb (kpA S2 5 36 x3 (0 : Int32)) fun S3 => kb (kI S3 5 33) fun x4 => kgd (kin x4 9) <| kb (kpA S3 5 37 x4 ((0 : Int32) &&& 1)) fun S4 => kb (kI S4 5 33) fun x5 => G S4 v1 (x5 - (1 : Int32))) = G (kpR (kpR (kpR (kpR S 5 34 (upd ((S 5).2 34) L (nI 0))) 5 35 (upd ((S 5).2 35) L (nI 1))) 5 36 (upd ((S 5).2 36) L (nI 0))) 5 37 (upd ((S 5).2 37) L (nI 0))) v1 (nO L) := by
  have e0 : (0 : Int32) &&& 1 = nI 0 := by decide
  simp (disch := omega) only [kb, kI_eq, hl, kin_t, kgd_t, kpA_nI, pR_1, pR_2, and_false, Nat.reduceEqDiff, if_false, e0, sub1]
  rw [← nI_0, li_1]
section MO
variable {α : kα} {f : Nat}
theorem m_workL (hG : wfG α f) (hN : α 0 0 0 ≤ 3) : ∀ (a m : Nat) (S : kS), a ≤ α 0 2 0 → a < m → MD (S 5) α f → (∀ i, a ≤ i → i ≤ α 0 2 0 → MA (S 5) i (fun c => TT α f c i)) → ∃ S', kfix (fun rec (q : kS × Int32 × Int32) => FX6_work_B47 rec q.1 q.2.1 q.2.2) m (S, nI f, nO a) = some S' ∧ fW S S' ∧ ∀ i, i ≤ α 0 2 0 → MA (S' 5) i (fun c => TT α f c i) := by
  have h20 := hG.1.1
  have h8 := hG.2.1.1
  have B := fun i h => TT_b hG.1 hG.2.1 hG.2.2.1 hG.2.2.2.1 (α 0 2 0) i h (by omega)
  intro a
  induction a with
  | zero =>
    intro m S _ hm hD hT
    obtain ⟨m, rfl⟩ : ∃ m', m = m' + 1 := ⟨m - 1, by omega⟩
    refine ⟨S, ?_, ⟨fun _ _ => rfl, rfl, fun _ _ => rfl⟩, fun i hi => hT i (by omega) hi⟩
    rw [kfix_s]
    generalize kfix (fun rec (q : kS × Int32 × Int32) => FX6_work_B47 rec q.1 q.2.1 q.2.2) m = Rk
    show FX6_work_B47 Rk S (nI f) (nO 0) = _
    unfold FX6_work_B47
    exact w47z S _ (by rw [nO_0]; decide)
  | succ a ih =>
    intro m S ha hm hD hT
    obtain ⟨m, rfl⟩ : ∃ m', m = m' + 1 := ⟨m - 1, by omega⟩
    have t1 := hT (a + 1) (by omega) (by omega)
    have b1 := B (a + 1) (by omega)
    have b10 := b1.1
    have k0 : fw a S (kpR S 5 34 (upd ((S 5).2 34) a (nI (6 + TT α f 0 (a + 1))))) := fw_s (by omega) (by omega)
    obtain ⟨S1, u1, u2, u3⟩ := m_min hG hN (a := a) (by omega) (kfix (fun rec (q : kS × Int32 × Int32) => FX6_work_B47 rec q.1 q.2.1 q.2.2) m) (α 0 3 0) kfuel 0 _ (by omega) (by unfold kfuel; omega) (fw_MD k0 hD) (by rw [pR_2, if_pos (show 5 = 5 ∧ 34 = 34 from ⟨rfl, rfl⟩), upd_eq, if_pos rfl, mn_0]) (fun i h1 h2 => fw_MA k0 (by omega) (hT i (by omega) h2))
    have k1 := fw_tr k0 u2
    have u3' : (S1 5).2 34 a = nI (TT α f 0 a) := by rw [TT_0 hG.1 (by omega)]; exact u3
    have ba := (B a (by omega)).1
    obtain ⟨S2, v1, v2, v3⟩ := m_mid (α := α) (f := f) (FX6_work_L235 (kfix (fun rec (q : kS × Int32 × Int32) => FX6_work_B47 rec q.1 q.2.1 q.2.2) m)) (nI f) (S := S1) (τ := TT α f) (a := a) (m := TT α f 0 a) (by omega) (fw_MA k1 (by omega) t1) (by omega) b1.2.2.2.2.1 u3' (by omega)
    have k2 := fw_tr k1 v2
    obtain ⟨S3, w1, w2, w3⟩ := m_sum hG hN (a := a) (m := TT α f 0 a) (by omega) (by omega) (kfix (fun rec (q : kS × Int32 × Int32) => FX6_work_B47 rec q.1 q.2.1 q.2.2) m) (α 0 3 0) kfuel 0 S2 (by omega) (by unfold kfuel; omega) (fw_MD k2 hD) v3 (fun i h1 h2 => fw_MA k2 (by omega) (hT i (by omega) h2))
    have k3 := fw_tr k2 w2
    have w3' : MA (S3 5) a (fun c => TT α f c a) := by
      have e : (fun c => TT α f c a) = (fun c => if c = 0 then TT α f 0 a else fd α f (TT α f) a (TT α f 0 a) c (α 0 3 0)) := funext fun c => by
        by_cases e : c = 0
        · rw [if_pos e, e]
        · rw [if_neg e, TT_s hG.1 (by omega) e]
      rw [e]
      exact w3
    obtain ⟨S', x1, x2, x3⟩ := ih m S3 (by omega) (by omega) (fw_MD k3 hD) (fun i h1 h2 => by
      by_cases e : i = a
      · rw [e]; exact w3'
      · exact fw_MA k3 e (hT i (by omega) h2))
    refine ⟨S', ?_, fW_tr (fw_fW k3) x2, x3⟩
    clear ih
    rw [kfix_s]
    generalize kfix (fun rec (q : kS × Int32 × Int32) => FX6_work_B47 rec q.1 q.2.1 q.2.2) m = Rk at u1 v1 w1 x1 ⊢
    show FX6_work_B47 Rk S (nI f) (nO (a + 1)) = _
    rw [nO_s]
    unfold FX6_work_B47
    refine (w47s (FX6_work_L70 Rk) S (nI f) (by omega) t1.1).trans ?_
    unfold FX6_work_L70
    rw [nI_0] at u1 w1
    refine u1.trans (v1.trans ?_)
    unfold FX6_work_L235
    exact w1.trans x1
theorem m_work {S : kS} (hG : wfG α f) (hN : α 0 0 0 ≤ 3) (hD : MD (S 5) α f) : ∃ S', FX6_work S (nI f) = some S' ∧ fW S S' ∧ ∀ i, i ≤ α 0 2 0 → MA (S' 5) i (fun c => TT α f c i) := by
  have h8 := hG.2.1.1
  have k0 : fw (α 0 2 0) S (kpR (kpR (kpR (kpR S 5 34 (upd ((S 5).2 34) (α 0 2 0) (nI 0))) 5 35 (upd ((S 5).2 35) (α 0 2 0) (nI 1))) 5 36 (upd ((S 5).2 36) (α 0 2 0) (nI 0))) 5 37 (upd ((S 5).2 37) (α 0 2 0) (nI 0))) := fw_tr (fw_tr (fw_tr (fw_s (by omega) (by omega)) (fw_s (S := kpR S 5 34 _) (by omega) (by omega))) (fw_s (S := kpR (kpR S 5 34 _) 5 35 _) (by omega) (by omega))) (fw_s (S := kpR (kpR (kpR S 5 34 _) 5 35 _) 5 36 _) (by omega) (by omega))
  obtain ⟨S', x1, x2, x3⟩ := m_workL hG hN (α 0 2 0) kfuel _ (Nat.le_refl _) (by unfold kfuel; omega) (fw_MD k0 hD) (fun i h1 h2 => by
    have e : i = α 0 2 0 := by omega
    subst e
    unfold MA
    simp only [TT_L]
    refine ⟨?_, ?_, ?_, ?_⟩
    · show upd ((S 5).2 34) (α 0 2 0) (nI 0) (α 0 2 0) = nI 0
      rw [upd_eq, if_pos rfl]
    · show upd ((S 5).2 35) (α 0 2 0) (nI 1) (α 0 2 0) = nI 1
      rw [upd_eq, if_pos rfl]
    · show upd ((S 5).2 36) (α 0 2 0) (nI 0) (α 0 2 0) = nI 0
      rw [upd_eq, if_pos rfl]
    · show upd ((S 5).2 37) (α 0 2 0) (nI 0) (α 0 2 0) = nI 0
      rw [upd_eq, if_pos rfl])
  refine ⟨S', ?_, fW_tr (fw_fW k0) x2, x3⟩
  unfold FX6_work
  refine (wS FX6_work_L47 S (nI f) h8 hD.1.2).trans ?_
  unfold FX6_work_L47
  exact x1
theorem m_filledL {S : kS} (hD : MD (S 5) α f) (hG : wfG α f) {r a p b : Nat} (hr : r < α 0 3 0) (hft : fit α f r a = true) (hp : p < 5) (hb : b < 32) : ∀ (k m i : Nat), i + k = α 19 r 0 → k < m → kfix (fun rec (q : Int32 × Int32 × Int32 × Int32 × Int32 × Int32 × Int32) => FX6_filled_B7 rec S q.1 q.2.1 q.2.2.1 q.2.2.2.1 q.2.2.2.2.1 q.2.2.2.2.2.1 q.2.2.2.2.2.2) m (nI r, nI a, nI f, nI p, nI b, nI (ow α f r a p i), nI i) = some (nI (fl b (ow α f r a p (α 19 r 0)))) := by
  have ob := ow_bd (p := p) hG.2.2.1 hG.2.2.2.1 hG.2.1 hft
  obtain ⟨⟨d1, d2⟩, ⟨d3, d4, d5, d6⟩, ⟨d7, d8⟩, d9, d10⟩ := hD
  obtain ⟨hI, hL, hw, hW, hf⟩ := hG
  obtain ⟨i1, i2, i3, i4, i5, i6, i7⟩ := hI.2 r hr
  obtain ⟨f1, f2, f3⟩ := fit_d hft
  have h20 := hI.1
  have h8 := hL.1
  have h5 := hw.1
  intro k
  induction k with
  | zero =>
    intro m i hk hm
    obtain ⟨m, rfl⟩ : ∃ m', m = m' + 1 := ⟨m - 1, by omega⟩
    have e : i = α 19 r 0 := by omega
    subst e
    have o1 := (ob _ (Nat.le_refl _)).1
    rw [kfix_s]
    generalize kfix (fun rec (q : Int32 × Int32 × Int32 × Int32 × Int32 × Int32 × Int32) => FX6_filled_B7 rec S q.1 q.2.1 q.2.2.1 q.2.2.2.1 q.2.2.2.2.1 q.2.2.2.2.2.1 q.2.2.2.2.2.2) m = Rk
    simp (disch := omega) only [FX6_filled_B7, FX6_filled_J101, kb, kin_t, kgd_t, kA_nI, d6 r hr, nI_l', bit_16, bit_17, bit_or]
    rw [if_pos (by omega)]
    unfold fl
    by_cases q : b < 16
    · rw [if_pos q, if_pos q]
    · rw [if_neg q, if_neg q]
  | succ k ih =>
    intro m i hk hm
    obtain ⟨m, rfl⟩ : ∃ m', m = m' + 1 := ⟨m - 1, by omega⟩
    rw [kfix_s]
    have ihm := ih m (i + 1) (by omega) (by omega)
    clear ih
    generalize kfix (fun rec (q : Int32 × Int32 × Int32 × Int32 × Int32 × Int32 × Int32) => FX6_filled_B7 rec S q.1 q.2.1 q.2.2.1 q.2.2.2.1 q.2.2.2.2.1 q.2.2.2.2.2.1 q.2.2.2.2.2.2) m = Rk at ihm ⊢
    have hi : i < α 19 r 0 := by omega
    have hli := d9 (a + i) (by omega)
    have hlw := hL.2 (a + i) (by omega)
    have h15 := d10 _ hlw
    obtain ⟨w14, w15⟩ := hW _ hlw
    obtain ⟨k2, y64, k1⟩ := i7 i hi
    have e1 : nI i + 1 = nI (i + 1) := by rw [li_1, nI_add]
    simp (disch := omega) only [FX6_filled_B7, FX6_filled_J74, kb, kin_t, kgd_t, li_4, li_64, nI_mul, nI_add, kA_nI, d6 r hr, d7 r i hr hi, d8 r i hr hi, hli, h15, nI_l', nI_o, nI_e, e1]
    rw [if_neg (by omega)]
    rw [ow_s] at ihm
    by_cases q1 : α 20 r i = 1
    · rw [if_pos q1]
      by_cases q2 : α 21 r i = p
      · have g14 := it_1 (f3 i hi) q1
        have hv := w15 (by omega)
        have hz4 := (hw.2 (α 14 f (α 25 (a + i) 0) - 1) (by omega)).2.2.1
        rw [if_pos ⟨q1, q2⟩] at ihm
        rw [if_pos q2, if_neg (show ¬ α 14 f (α 25 (a + i) 0) = 0 by omega), nI_rem (by omega) (by omega), show (4 * (α 14 f (α 25 (a + i) 0) - 1) + α 15 f (α 25 (a + i) 0)) % 4 = α 15 f (α 25 (a + i) 0) by omega, sh_1 _ (by omega)]
        exact ihm
      · rw [if_neg (fun h => q2 h.2)] at ihm
        rw [if_neg q2]
        exact ihm
    · rw [if_neg (fun h => q1 h.1)] at ihm
      rw [if_neg q1]
      exact ihm
theorem m_filled {S : kS} (hD : MD (S 5) α f) (hG : wfG α f) {r a p b : Nat} (hr : r < α 0 3 0) (hft : fit α f r a = true) (hp : p < 5) (hb : b < 32) : FX6_filled S (nI r) (nI a) (nI f) (nI p) (nI b) = some (nI (fl b (ow α f r a p (α 19 r 0)))) := by
  have i6 := (hG.1.2 r hr).2.2.2.2.2.1
  unfold FX6_filled FX6_filled_L7
  have := m_filledL hD hG hr hft hp hb (α 19 r 0) kfuel 0 (by omega) (by unfold kfuel; omega)
  rw [ow_0, nI_0, ← li_16] at this
  exact this
end MO
