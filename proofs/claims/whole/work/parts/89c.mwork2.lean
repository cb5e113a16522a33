/-! reading: the reference's tables, whole -/
section MW2
variable {α : kα} {f : Nat}
theorem fd_b (hG : wfG α f) {a : Nat} (ha : a < α 0 2 0) (m : Nat) {r : Nat} (hr : r ≤ α 0 3 0) : fd α f (TT α f) a m 1 r ≤ 1000000 ∧ fd α f (TT α f) a m 2 r ≤ 8 ∧ fd α f (TT α f) a m 3 r ≤ 1 ∧ ∀ p, p < 5 → fbd α f p (fd α f (TT α f) a m (4 + p) r) := by
  obtain ⟨hI, hL, hw, hW, hf⟩ := hG
  have h8 := hL.1
  have B := fun i h => TT_b hI hL hw hW (α 0 2 0) i h (by omega)
  have b1 := B (a + 1) (by omega)
  refine ⟨?_, ?_, ?_, fun p hp => ?_⟩
  · refine fd_ind (Q := fun x => x ≤ 1000000) (by omega) (by unfold st0; rw [if_neg (by omega)]; exact b1.2.2.1) (fun r w hr hf _ => ?_) _ hr
    unfold cb
    rw [if_pos rfl]
    omega
  · refine fd_ind (Q := fun x => x ≤ 8) (by omega) ?_ (fun r w hr hf hq => ?_) _ hr
    · have := b1.2.2.2.1
      unfold st0
      rw [if_pos rfl]
      omega
    · have := (B (a + α 19 r 0) (fit_d hf).2.1).2.2.2.1
      unfold cb
      rw [if_neg (by omega), if_pos rfl]
      omega
  · refine fd_ind (Q := fun x => x ≤ 1) (by omega) (by unfold st0; rw [if_neg (by omega)]; exact b1.2.2.2.2.1) (fun r w hr hf _ => ?_) _ hr
    unfold cb
    rw [if_neg (by omega), if_neg (by omega), if_pos rfl]
    omega
  · refine fd_ind (Q := fun x => fbd α f p x) (fbd_0 _ _ _) ?_ (fun r w hr hf hq => ?_) _ hr
    · unfold st0
      rw [if_neg (by omega)]
      exact b1.2.2.2.2.2 p hp
    · unfold cb
      rw [if_neg (by omega), if_neg (by omega), if_neg (by omega), show 4 + p - 4 = p by omega]
      exact fbd_or hq (fbd_fl ((B (a + α 19 r 0) (fit_d hf).2.1).2.2.2.2.2 p hp) (ow_bd hw hW hL hf _ (Nat.le_refl _)))
theorem m_mid (G : kS → Int32 → Int32 → Int32 → Option kS) (v1 : Int32) {S : kS} {τ : Nat → Nat → Nat} {a m : Nat} (ha : a < 8) (h1 : MA (S 5) (a + 1) (fun c => τ c (a + 1))) (b0 : τ 0 (a + 1) ≤ 100) (b3 : τ 3 (a + 1) ≤ 1) (hm : (S 5).2 34 a = nI m) (bm : m ≤ 100) : ∃ S', wE G S v1 (nI a) = G S' v1 (nI a) 0 ∧ fw a S S' ∧ MA (S' 5) a (fun c => if c = 0 then m else fd α f τ a m c 0) := by
  obtain ⟨n0, n1, n2, n3⟩ := h1
  have e1 : nI a + 1 = nI (a + 1) := by rw [li_1, nI_add]
  have mp : ∀ T : kS, (T 5).2 34 = (S 5).2 34 → FX6_mayPass T (nI a) = some (b2 (decide (6 + τ 0 (a + 1) = m))) := fun T hT => m_mayPass ha (by rw [hT]; exact n0) b0 (by rw [hT]; exact hm) bm
  have go : ∀ s1 s2 s3 : Nat, wE G S v1 (nI a) = G (kpR (kpR (kpR S 5 35 (upd ((S 5).2 35) a (nI s1))) 5 36 (upd ((S 5).2 36) a (nI s2))) 5 37 (upd ((S 5).2 37) a (nI s3))) v1 (nI a) 0 → s1 = fd α f τ a m 1 0 → s2 = fd α f τ a m 2 0 → s3 = fd α f τ a m 3 0 → ∃ S', wE G S v1 (nI a) = G S' v1 (nI a) 0 ∧ fw a S S' ∧ MA (S' 5) a (fun c => if c = 0 then m else fd α f τ a m c 0) := fun s1 s2 s3 hg k1 k2 k3 => by
    refine ⟨_, hg, fw_tr (fw_tr (fw_s (by omega) (by omega)) (fw_s (S := kpR S 5 35 _) (by omega) (by omega))) (fw_s (S := kpR (kpR S 5 35 _) 5 36 _) (by omega) (by omega)), ?_, ?_, ?_, ?_⟩
    · exact hm
    · show upd ((S 5).2 35) a (nI s1) a = nI (fd α f τ a m 1 0)
      rw [upd_eq, if_pos rfl, k1]
    · show upd ((S 5).2 36) a (nI s2) a = nI (fd α f τ a m 2 0)
      rw [upd_eq, if_pos rfl, k2]
    · show upd ((S 5).2 37) a (nI s3) a = nI (fd α f τ a m 3 0)
      rw [upd_eq, if_pos rfl, k3]
  by_cases q : 6 + τ 0 (a + 1) = m
  · rw [decide_eq_true q, b2_1] at mp
    have mp2 : ∀ g h, FX6_mayPass (kpR (kpR S 5 35 g) 5 36 h) (nI a) = some 1 := fun g h => mp _ rfl
    refine go (τ 1 (a + 1)) (τ 2 (a + 1) + 1) (τ 3 (a + 1)) ?_ (by rw [fd_0, if_pos q]; rfl) (by rw [fd_0, if_pos q]; rfl) (by rw [fd_0, if_pos q]; rfl)
    unfold wE j174 j202
    simp (disch := omega) only [mp S rfl, e1, Option.bind_some, o_ne, if_false, kb, kin_t, kgd_t, kA_nI, kpA_nI, n1, mp (kpR S 5 35 (upd ((S 5).2 35) a (nI (τ 1 (a + 1))))) rfl, pR_2, and_false, Nat.reduceEqDiff, n2]
    rw [mp2, Option.bind_some, if_neg (by decide)]
    simp (disch := omega) only [n3, nI_z]
    unfold j232
    have hz : τ 3 (a + 1) = 0 ∨ τ 3 (a + 1) = 1 := by omega
    rcases hz with z | z
    · rw [if_pos z, z]
      simp (disch := omega) only [kin_t, kgd_t, kb, kpA_nI, pR_2, and_false, Nat.reduceEqDiff, if_false, li_1, nI_add]
      rfl
    · rw [if_neg (by omega), z]
      simp (disch := omega) only [kin_t, kgd_t, kb, kpA_nI, pR_2, and_false, Nat.reduceEqDiff, if_false, li_1, nI_add]
      rfl
  · rw [decide_eq_false q, b2_0] at mp
    have mp1 : ∀ g, FX6_mayPass (kpR S 5 35 g) (nI a) = some 0 := fun g => mp _ rfl
    have mp2 : ∀ g h, FX6_mayPass (kpR (kpR S 5 35 g) 5 36 h) (nI a) = some 0 := fun g h => mp _ rfl
    refine go 0 0 0 ?_ (by rw [fd_0, if_neg q]) (by rw [fd_0, if_neg q]) (by rw [fd_0, if_neg q])
    unfold wE j174 j202
    rw [mp S rfl, Option.bind_some, if_pos rfl]
    simp (disch := omega) only [kb, kin_t, kgd_t, kpA_nI]
    rw [mp1, Option.bind_some, if_pos rfl, mp2, Option.bind_some, if_pos rfl]
    unfold j232
    simp (disch := omega) only [kin_t, kgd_t, kb, kpA_nI, pR_2, and_false, Nat.reduceEqDiff, if_false, nI_0]
    rfl
theorem m_sum (hG : wfG α f) (hN : α 0 0 0 ≤ 3) {a m : Nat} (ha : a < α 0 2 0) (bm : m ≤ 100) (c47 : kS × Int32 × Int32 → Option kS) : ∀ (k n r : Nat) (S : kS), r + k = α 0 3 0 → k < n → MD (S 5) α f → MA (S 5) a (fun c => if c = 0 then m else fd α f (TT α f) a m c r) → (∀ i, a < i → i ≤ α 0 2 0 → MA (S 5) i (fun c => TT α f c i)) → ∃ S', kfix (fun rec (q : kS × Int32 × Int32 × Int32) => FX6_work_B235 c47 rec q.1 q.2.1 q.2.2.1 q.2.2.2) n (S, nI f, nI a, nI r) = c47 (S', nI f, nO a) ∧ fw a S S' ∧ MA (S' 5) a (fun c => if c = 0 then m else fd α f (TT α f) a m c (α 0 3 0)) := by
  have h20 := hG.1.1
  have h8 := hG.2.1.1
  have B := fun i h => TT_b hG.1 hG.2.1 hG.2.2.1 hG.2.2.2.1 (α 0 2 0) i h (by omega)
  intro k
  induction k with
  | zero =>
    intro n r S hk hm hD hC hT
    obtain ⟨n, rfl⟩ : ∃ m', n = m' + 1 := ⟨n - 1, by omega⟩
    have e : r = α 0 3 0 := by omega
    refine ⟨S, ?_, fw_rf _ _, by rw [← e]; exact hC⟩
    rw [kfix_s]
    generalize kfix (fun rec (q : kS × Int32 × Int32 × Int32) => FX6_work_B235 c47 rec q.1 q.2.1 q.2.2.1 q.2.2.2) n = Rk
    show FX6_work_B235 c47 Rk S (nI f) (nI a) (nI r) = _
    unfold FX6_work_B235
    refine (kbif S _ _ hD.1.1 h20 (by omega)).trans ?_
    rw [if_pos (by omega), nI_m]
  | succ k ih =>
    intro n r S hk hm hD hC hT
    obtain ⟨n, rfl⟩ : ∃ m', n = m' + 1 := ⟨n - 1, by omega⟩
    have hr : r < α 0 3 0 := by omega
    obtain ⟨i1, i2, i3, i4, i5, i6, i7⟩ := hG.1.2 r hr
    have e1 : nI r + 1 = nI (r + 1) := by rw [li_1, nI_add]
    have hF := m_isLeast (τ := TT α f) hD hG hN hr (a := a) (m := m) (by omega) (fun i h1 h2 => ⟨(hT i h1 h2).1, by have := (B i h2).1; omega⟩) hC.1 bm
    have step : ∀ S1, (∀ (Rk : kS × Int32 × Int32 × Int32 → Option kS), FX6_work_B235 c47 Rk S (nI f) (nI a) (nI r) = Rk (S1, nI f, nI a, nI (r + 1))) → fw a S S1 → MA (S1 5) a (fun c => if c = 0 then m else fd α f (TT α f) a m c (r + 1)) → ∃ S', kfix (fun rec (q : kS × Int32 × Int32 × Int32) => FX6_work_B235 c47 rec q.1 q.2.1 q.2.2.1 q.2.2.2) (n + 1) (S, nI f, nI a, nI r) = c47 (S', nI f, nO a) ∧ fw a S S' ∧ MA (S' 5) a (fun c => if c = 0 then m else fd α f (TT α f) a m c (α 0 3 0)) := fun S1 q1 q2 q3 => by
      obtain ⟨S', v1, v2, v3⟩ := ih n (r + 1) S1 (by omega) (by omega) (fw_MD q2 hD) q3 (fun i h1 h2 => fw_MA q2 (by omega) (hT i h1 h2))
      refine ⟨S', ?_, fw_tr q2 v2, v3⟩
      rw [kfix_s]
      exact (q1 _).trans v1
    clear ih
    cases hl : lst α f (TT α f) a m r with
    | true =>
      have hl' := of_decide_eq_true hl
      obtain ⟨f1, f2, f3⟩ := fit_d hl'.1
      obtain ⟨t0, t1, t2, t3⟩ := hT _ (by omega) f2
      obtain ⟨c0, c1, c2, c3⟩ := hC
      obtain ⟨y0, y1, y1', y2, y3, y4⟩ := B _ f2
      obtain ⟨z1, z2, z3, z4⟩ := fd_b hG ha m (r := r) (by omega)
      have d6 := hD.2.1.2.2.2 r hr
      have go : ∀ x y : Nat, (∀ (Rk : kS × Int32 × Int32 × Int32 → Option kS), FX6_work_B235 c47 Rk S (nI f) (nI a) (nI r) = Rk (kpR (kpR (kpR (kpR S 5 35 (upd ((S 5).2 35) a (nI (fd α f (TT α f) a m 1 r + TT α f 1 (a + α 19 r 0))))) 5 35 (upd (upd ((S 5).2 35) a (nI (fd α f (TT α f) a m 1 r + TT α f 1 (a + α 19 r 0)))) a (nI x))) 5 36 (upd ((S 5).2 36) a (nI y))) 5 37 (upd ((S 5).2 37) a (nI 1)), nI f, nI a, nI (r + 1))) → x = min 1000000 (fd α f (TT α f) a m 1 r + TT α f 1 (a + α 19 r 0)) → y = max (fd α f (TT α f) a m 2 r) (TT α f 2 (a + α 19 r 0)) → ∃ S', kfix (fun rec (q : kS × Int32 × Int32 × Int32) => FX6_work_B235 c47 rec q.1 q.2.1 q.2.2.1 q.2.2.2) (n + 1) (S, nI f, nI a, nI r) = c47 (S', nI f, nO a) ∧ fw a S S' ∧ MA (S' 5) a (fun c => if c = 0 then m else fd α f (TT α f) a m c (α 0 3 0)) := fun x y hg k1 k2 => by
        refine step _ hg (fw_tr (fw_tr (fw_tr (fw_s (by omega) (by omega)) (fw_s (S := kpR S 5 35 _) (by omega) (by omega))) (fw_s (S := kpR (kpR S 5 35 _) 5 35 _) (by omega) (by omega))) (fw_s (S := kpR (kpR (kpR S 5 35 _) 5 35 _) 5 36 _) (by omega) (by omega))) ⟨c0, ?_, ?_, ?_⟩
        · show upd (upd ((S 5).2 35) a _) a (nI x) a = nI (fd α f (TT α f) a m 1 (r + 1))
          rw [upd_eq, if_pos rfl, k1, fd_s, if_pos hl']
          rfl
        · show upd ((S 5).2 36) a (nI y) a = nI (fd α f (TT α f) a m 2 (r + 1))
          rw [upd_eq, if_pos rfl, k2, fd_s, if_pos hl']
          rfl
        · show upd ((S 5).2 37) a (nI 1) a = nI (fd α f (TT α f) a m 3 (r + 1))
          rw [upd_eq, if_pos rfl, fd_s, if_pos hl']
          rfl
      have c1 : (S 5).2 35 a = nI (fd α f (TT α f) a m 1 r) := c1
      have c2 : (S 5).2 36 a = nI (fd α f (TT α f) a m 2 r) := c2
      have t1 : (S 5).2 35 (a + α 19 r 0) = nI (TT α f 1 (a + α 19 r 0)) := t1
      have t2 : (S 5).2 36 (a + α 19 r 0) = nI (TT α f 2 (a + α 19 r 0)) := t2
      have e11 : (1 : Int32) &&& 1 = nI 1 := by decide
      have open1 : ∀ (Rk : kS × Int32 × Int32 × Int32 → Option kS), FX6_work_B235 c47 Rk S (nI f) (nI a) (nI r) = (if fd α f (TT α f) a m 1 r + TT α f 1 (a + α 19 r 0) ≤ 1000000 then FX6_work_J309 c47 Rk (kpR S 5 35 (upd ((S 5).2 35) a (nI (fd α f (TT α f) a m 1 r + TT α f 1 (a + α 19 r 0))))) (nI f) (nI a) (nI r) (nI (a + α 19 r 0)) (nI (fd α f (TT α f) a m 1 r + TT α f 1 (a + α 19 r 0))) (nI a) else FX6_work_J309 c47 Rk (kpR S 5 35 (upd ((S 5).2 35) a (nI (fd α f (TT α f) a m 1 r + TT α f 1 (a + α 19 r 0))))) (nI f) (nI a) (nI r) (nI (a + α 19 r 0)) (nI 1000000) (nI a)) := fun Rk => by
        unfold FX6_work_B235
        refine (kbif S _ _ hD.1.1 h20 (by omega)).trans ?_
        rw [if_neg (by omega), hF, Option.bind_some, hl, b2_1, if_neg (by decide)]
        simp (disch := omega) only [kb, kin_t, kgd_t, kA_nI, kpA_nI, d6, nI_add, c1, t1, pR_2, and_self, if_true, upd_eq, nI_l', li_1000000]
      have open2 : ∀ (Rk : kS × Int32 × Int32 × Int32 → Option kS) (x z : Nat), FX6_work_J309 c47 Rk (kpR S 5 35 (upd ((S 5).2 35) a (nI z))) (nI f) (nI a) (nI r) (nI (a + α 19 r 0)) (nI x) (nI a) = (if TT α f 2 (a + α 19 r 0) ≤ fd α f (TT α f) a m 2 r then Rk (kpR (kpR (kpR (kpR S 5 35 (upd ((S 5).2 35) a (nI z))) 5 35 (upd (upd ((S 5).2 35) a (nI z)) a (nI x))) 5 36 (upd ((S 5).2 36) a (nI (fd α f (TT α f) a m 2 r)))) 5 37 (upd ((S 5).2 37) a (nI 1)), nI f, nI a, nI (r + 1)) else Rk (kpR (kpR (kpR (kpR S 5 35 (upd ((S 5).2 35) a (nI z))) 5 35 (upd (upd ((S 5).2 35) a (nI z)) a (nI x))) 5 36 (upd ((S 5).2 36) a (nI (TT α f 2 (a + α 19 r 0))))) 5 37 (upd ((S 5).2 37) a (nI 1)), nI f, nI a, nI (r + 1))) := fun Rk x z => by
        unfold FX6_work_J309 FX6_work_J347 FX6_work_J355
        simp (disch := omega) only [kb, kin_t, kgd_t, kA_nI, kpA_nI, c2, t2, pR_2, and_self, if_true, and_false, Nat.reduceEqDiff, if_false, nI_l', e1, e11]
      by_cases q1 : fd α f (TT α f) a m 1 r + TT α f 1 (a + α 19 r 0) ≤ 1000000
      · by_cases q2 : TT α f 2 (a + α 19 r 0) ≤ fd α f (TT α f) a m 2 r
        · exact go _ _ (fun Rk => by rw [open1, if_pos q1, open2, if_pos q2]) (by omega) (by omega)
        · exact go _ _ (fun Rk => by rw [open1, if_pos q1, open2, if_neg q2]) (by omega) (by omega)
      · by_cases q2 : TT α f 2 (a + α 19 r 0) ≤ fd α f (TT α f) a m 2 r
        · exact go _ _ (fun Rk => by rw [open1, if_neg q1, open2, if_pos q2]) (by omega) (by omega)
        · exact go _ _ (fun Rk => by rw [open1, if_neg q1, open2, if_neg q2]) (by omega) (by omega)
    | false =>
      have hl' := of_decide_eq_false hl
      refine step S (fun Rk => ?_) (fw_rf _ _) ?_
      · unfold FX6_work_B235
        refine (kbif S _ _ hD.1.1 h20 (by omega)).trans ?_
        rw [if_neg (by omega), hF, Option.bind_some, hl, b2_0, if_pos rfl]
        simp only [FX6_work_J355, e1]
      · have : ∀ c, fd α f (TT α f) a m c (r + 1) = fd α f (TT α f) a m c r := fun c => by rw [fd_s, if_neg hl']
        simp only [this]
        exact hC
end MW2
