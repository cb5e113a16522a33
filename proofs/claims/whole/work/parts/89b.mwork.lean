/-! reading: the reference's tables -/
def MA (m : kO) (a : Nat) (g : Nat → Nat) : Prop := m.2 34 a = nI (g 0) ∧ m.2 35 a = nI (g 1) ∧ m.2 36 a = nI (g 2) ∧ m.2 37 a = nI (g 3)
def fw (a : Nat) (S S' : kS) : Prop := (∀ o, o ≠ 5 → S' o = S o) ∧ (S' 5).1 = (S 5).1 ∧ ∀ c i, (c < 34 ∨ 37 < c ∨ i ≠ a) → (S' 5).2 c i = (S 5).2 c i
theorem fw_rf (a : Nat) (S : kS) : fw a S S := ⟨fun _ _ => rfl, rfl, fun _ _ _ => rfl⟩
theorem fw_tr {a : Nat} {S S' S'' : kS} (h : fw a S S') (h' : fw a S' S'') : fw a S S'' := ⟨fun o ho => by rw [h'.1 o ho, h.1 o ho], by rw [h'.2.1, h.2.1], fun c i q => by rw [h'.2.2 c i q, h.2.2 c i q]⟩
theorem fw_s {a k : Nat} {S : kS} {x : Int32} (h1 : 34 ≤ k) (h2 : k ≤ 37) : fw a S (kpR S 5 k (upd ((S 5).2 k) a x)) := by
  refine ⟨fun o ho => pR_ne ho, rfl, fun c i hq => ?_⟩
  rw [pR_2]
  by_cases e : c = k
  · rw [if_pos ⟨rfl, e⟩, upd_eq, if_neg (by omega), e]
  · rw [if_neg (fun h => e h.2)]
theorem fw_MD {a f : Nat} {α : kα} {S S' : kS} (h : fw a S S') (hd : MD (S 5) α f) : MD (S' 5) α f := by
  obtain ⟨h1, h2, h3⟩ := h
  obtain ⟨⟨d1, d2⟩, ⟨d3, d4, d5, d6⟩, ⟨d7, d8⟩, d9, d10⟩ := hd
  exact ⟨⟨by rw [h2]; exact d1, by rw [h2]; exact d2⟩, ⟨fun r hr => by rw [h3 _ _ (by omega)]; exact d3 r hr, fun r hr => by rw [h3 _ _ (by omega)]; exact d4 r hr, fun r hr => by rw [h3 _ _ (by omega)]; exact d5 r hr, fun r hr => by rw [h3 _ _ (by omega)]; exact d6 r hr⟩, ⟨fun r i hr hi => by rw [h3 _ _ (by omega)]; exact d7 r i hr hi, fun r i hr hi => by rw [h3 _ _ (by omega)]; exact d8 r i hr hi⟩, fun i hi => by rw [h3 _ _ (by omega)]; exact d9 i hi, fun w hw => by rw [h3 _ _ (by omega)]; exact d10 w hw⟩
theorem fw_MA {a i : Nat} {S S' : kS} {g : Nat → Nat} (h : fw a S S') (hi : i ≠ a) (hc : MA (S 5) i g) : MA (S' 5) i g := by
  obtain ⟨h1, h2, h3⟩ := h
  obtain ⟨c1, c2, c3, c4⟩ := hc
  exact ⟨by rw [h3 _ _ (by omega)]; exact c1, by rw [h3 _ _ (by omega)]; exact c2, by rw [h3 _ _ (by omega)]; exact c3, by rw [h3 _ _ (by omega)]; exact c4⟩
theorem kbif {R r : Nat} {β : Type} (S : kS) (X Y : Option β) (h : (S 5).1 16 = nI R) (h1 : R ≤ 20) (h2 : r ≤ 20) : (kb (kI S 5 16) fun x1 => if x1 ≤ nI r then X else Y) = if R ≤ r then X else Y := by
  simp (disch := omega) only [kb, kI_eq, h, nI_l']
def j232 (G : kS → Int32 → Int32 → Int32 → Option kS) (S : kS) (v1 v2 s0 s1 : Int32) : Option kS := kgd (kin s1 9) <| kb (kpA S 5 37 s1 (s0 &&& 1)) fun S1 => G S1 v1 v2 (0 : Int32)
def j202 (G : kS → Int32 → Int32 → Int32 → Option kS) (S : kS) (v1 v2 s0 s1 : Int32) : Option kS := kgd (kin s1 9) <| kb (kpA S 5 36 s1 s0) fun S1 => (FX6_mayPass S1 v2).bind fun x1 => if x1 = 0 then (j232 G S1 v1 v2 (0 : Int32) v2) else (kgd (kin (v2 + (1 : Int32)) 9) <| kb (kA S1 5 37 (v2 + (1 : Int32))) fun x2 => if x2 = 0 then (j232 G S1 v1 v2 (0 : Int32) v2) else (j232 G S1 v1 v2 (1 : Int32) v2))
def j174 (G : kS → Int32 → Int32 → Int32 → Option kS) (S : kS) (v1 v2 s0 s1 : Int32) : Option kS := kgd (kin s1 9) <| kb (kpA S 5 35 s1 s0) fun S1 => (FX6_mayPass S1 v2).bind fun x1 => if x1 = 0 then (j202 G S1 v1 v2 (0 : Int32) v2) else (kgd (kin (v2 + (1 : Int32)) 9) <| kb (kA S1 5 36 (v2 + (1 : Int32))) fun x2 => j202 G S1 v1 v2 (x2 + (1 : Int32)) v2)
def wE (G : kS → Int32 → Int32 → Int32 → Option kS) (S : kS) (v1 v2 : Int32) : Option kS := (FX6_mayPass S v2).bind fun x2 => if x2 = 0 then (j174 G S v1 v2 (0 : Int32) v2) else (kgd (kin (v2 + (1 : Int32)) 9) <| kb (kA S 5 35 (v2 + (1 : Int32))) fun x3 => j174 G S v1 v2 x3 v2)
theorem j174_eq (c47 : kS × Int32 × Int32 → Option kS) (S : kS) (v1 v2 s0 s1 : Int32) : FX6_work_J174 c47 S v1 v2 s0 s1 = j174 (FX6_work_L235 c47) S v1 v2 s0 s1 := rfl
section MW
variable {α : kα} {f : Nat}
theorem m_min (hG : wfG α f) (hN : α 0 0 0 ≤ 3) {a : Nat} (ha : a < α 0 2 0) (c47 : kS × Int32 × Int32 → Option kS) : ∀ (k m r : Nat) (S : kS), r + k = α 0 3 0 → k < m → MD (S 5) α f → (S 5).2 34 a = nI (mn α f (TT α f) a r) → (∀ i, a < i → i ≤ α 0 2 0 → MA (S 5) i (fun c => TT α f c i)) → ∃ S', kfix (fun rec (q : kS × Int32 × Int32 × Int32) => FX6_work_B70 c47 rec q.1 q.2.1 q.2.2.1 q.2.2.2) m (S, nI f, nI a, nI r) = wE (FX6_work_L235 c47) S' (nI f) (nI a) ∧ fw a S S' ∧ (S' 5).2 34 a = nI (mn α f (TT α f) a (α 0 3 0)) := by
  have h20 := hG.1.1
  have h8 := hG.2.1.1
  have B := fun i h => TT_b hG.1 hG.2.1 hG.2.2.1 hG.2.2.2.1 (α 0 2 0) i h (by omega)
  have b1 := (B (a + 1) (by omega)).1
  intro k
  induction k with
  | zero =>
    intro m r S hk hm hD hC hT
    obtain ⟨m, rfl⟩ : ∃ m', m = m' + 1 := ⟨m - 1, by omega⟩
    have e : r = α 0 3 0 := by omega
    refine ⟨S, ?_, fw_rf _ _, by rw [← e]; exact hC⟩
    rw [kfix_s]
    generalize kfix (fun rec (q : kS × Int32 × Int32 × Int32) => FX6_work_B70 c47 rec q.1 q.2.1 q.2.2.1 q.2.2.2) m = Rk
    show FX6_work_B70 c47 Rk S (nI f) (nI a) (nI r) = _
    unfold FX6_work_B70
    refine (kbif S _ _ hD.1.1 h20 (by omega)).trans ?_
    rw [if_pos (by omega)]
    rfl
  | succ k ih =>
    intro m r S hk hm hD hC hT
    obtain ⟨m, rfl⟩ : ∃ m', m = m' + 1 := ⟨m - 1, by omega⟩
    have hr : r < α 0 3 0 := by omega
    obtain ⟨i1, i2, i3, i4, i5, i6, i7⟩ := hG.1.2 r hr
    have e1 : nI r + 1 = nI (r + 1) := by rw [li_1, nI_add]
    have hF := m_fits hD hG hN hr (a := a) (by omega)
    have bm := mn_ge (α := α) (f := f) (τ := TT α f) (a := a) r
    have step : ∀ S1, (∀ (Rk : kS × Int32 × Int32 × Int32 → Option kS), FX6_work_B70 c47 Rk S (nI f) (nI a) (nI r) = Rk (S1, nI f, nI a, nI (r + 1))) → fw a S S1 → (S1 5).2 34 a = nI (mn α f (TT α f) a (r + 1)) → ∃ S', kfix (fun rec (q : kS × Int32 × Int32 × Int32) => FX6_work_B70 c47 rec q.1 q.2.1 q.2.2.1 q.2.2.2) (m + 1) (S, nI f, nI a, nI r) = wE (FX6_work_L235 c47) S' (nI f) (nI a) ∧ fw a S S' ∧ (S' 5).2 34 a = nI (mn α f (TT α f) a (α 0 3 0)) := fun S1 q1 q2 q3 => by
      obtain ⟨S', v1, v2, v3⟩ := ih m (r + 1) S1 (by omega) (by omega) (fw_MD q2 hD) q3 (fun i h1 h2 => fw_MA q2 (by omega) (hT i h1 h2))
      refine ⟨S', ?_, fw_tr q2 v2, v3⟩
      rw [kfix_s]
      exact (q1 _).trans v1
    clear ih
    by_cases hft : fit α f r a = true
    · obtain ⟨f1, f2, f3⟩ := fit_d hft
      have t1 := (hT _ (by omega) f2).1
      have b2' := (B _ f2).1
      have d4 := hD.2.1.2.1 r hr
      have d6 := hD.2.1.2.2.2 r hr
      by_cases q : mn α f (TT α f) a r ≤ α 17 r 0 + TT α f 0 (a + α 19 r 0)
      · refine step S (fun Rk => ?_) (fw_rf _ _) (by rw [mn_s, if_pos hft, Nat.min_eq_left q]; exact hC)
        unfold FX6_work_B70
        refine (kbif S _ _ hD.1.1 h20 (by omega)).trans ?_
        rw [if_neg (by omega), hF, Option.bind_some, hft, b2_1, if_neg (by decide)]
        simp (disch := omega) only [kb, kin_t, kgd_t, kA_nI, d4, d6, nI_add, t1, hC, nI_l', FX6_work_J143, e1]
        rw [if_pos q]
      · refine step (kpR S 5 34 (upd ((S 5).2 34) a (nI (α 17 r 0 + TT α f 0 (a + α 19 r 0))))) (fun Rk => ?_) (fw_s (by omega) (by omega)) (by rw [mn_s, if_pos hft, Nat.min_eq_right (by omega), pR_2, if_pos ⟨rfl, rfl⟩, upd_eq, if_pos rfl])
        unfold FX6_work_B70
        refine (kbif S _ _ hD.1.1 h20 (by omega)).trans ?_
        rw [if_neg (by omega), hF, Option.bind_some, hft, b2_1, if_neg (by decide)]
        simp (disch := omega) only [kb, kin_t, kgd_t, kA_nI, kpA_nI, d4, d6, nI_add, t1, hC, nI_l', FX6_work_J143, e1]
        rw [if_neg q]
    · refine step S (fun Rk => ?_) (fw_rf _ _) (by rw [mn_s, if_neg hft]; exact hC)
      unfold FX6_work_B70
      refine (kbif S _ _ hD.1.1 h20 (by omega)).trans ?_
      have hff : fit α f r a = false := by cases q : fit α f r a with
        | true => exact absurd q hft
        | false => rfl
      rw [if_neg (by omega), hF, Option.bind_some, hff, b2_0, if_pos rfl]
      simp only [FX6_work_J143, e1]
end MW
