/-! reading: the class's tables, a position -/
theorem c_start {S : kS} {a : Nat} (h8 : a ≤ 8) (hl : (S 2).1 1 = nI a) : ∃ S', FX3_startAtEnd S = some S' ∧ kp a S S' ∧ CA (S' 2) a (fun c => if c = 1 then 1 else if 4 ≤ c then 16 else 0) := by
  obtain ⟨S', q1, q2⟩ := f_start (kpR (kpR (kpR (kpR S 2 2 (upd ((S 2).2 2) a (nI 0))) 2 3 (upd ((S 2).2 3) a (nI 1))) 2 4 (upd ((S 2).2 4) a (nI 0))) 2 5 (upd ((S 2).2 5) a (nI 0))) h8 hl
  refine ⟨S', ?_, ?_, ?_⟩
  · rw [← q1]
    unfold FX3_startAtEnd
    generalize FX3_startAtEnd_L42 = G
    simp (disch := omega) only [kb, kI_eq, hl, kin_t, kgd_t, kpA_nI, pR_1, pR_2, and_false, Nat.reduceEqDiff, if_false, li_1, nI_0]
    rfl
  · refine kp_tr ?_ (ff_kp q2)
    exact kp_tr (kp_tr (kp_tr (kp_s (by omega) (by omega)) (kp_s (S := kpR S 2 2 _) (by omega) (by omega))) (kp_s (S := kpR (kpR S 2 2 _) 2 3 _) (by omega) (by omega))) (kp_s (S := kpR (kpR (kpR S 2 2 _) 2 3 _) 2 4 _) (by omega) (by omega))
  · obtain ⟨_, _, h3, h4⟩ := q2
    refine ⟨?_, ?_, ?_, ?_, fun p hp => ?_⟩
    · rw [h3 2 (by omega)]
      simp only [pR_2, and_false, Nat.reduceEqDiff, if_false, upd_eq, and_true, if_true] <;> rfl
    · rw [h3 3 (by omega)]
      simp only [pR_2, and_false, Nat.reduceEqDiff, if_false, upd_eq, and_true, if_true] <;> rfl
    · rw [h3 4 (by omega)]
      simp only [pR_2, and_false, Nat.reduceEqDiff, if_false, upd_eq, and_true, if_true] <;> rfl
    · rw [h3 5 (by omega)]
      simp only [pR_2, and_false, Nat.reduceEqDiff, if_false, upd_eq, and_true, if_true] <;> rfl
    · rw [h4, if_pos (by omega)]
      show nI 16 = nI (if 4 + p = 1 then 1 else if 4 ≤ 4 + p then 16 else 0)
      rw [if_neg (by omega), if_pos (by omega)]
theorem c_pass {S : kS} {a : Nat} {g : Nat → Nat} (h8 : a < 8) (hn : CA (S 2) (a + 1) g) (b3 : g 3 ≤ 1) : ∃ S', FX3_passWord S (nI a) = some S' ∧ kp a S S' ∧ CA (S' 2) a (fun c => if c = 0 then 6 + g 0 else if c = 2 then g 2 + 1 else g c) := by
  obtain ⟨n0, n1, n2, n3, n4⟩ := hn
  obtain ⟨S', q1, q2⟩ := f_pass (kpR (kpR (kpR (kpR S 2 2 (upd ((S 2).2 2) a (nI (6 + g 0)))) 2 3 (upd ((S 2).2 3) a (nI (g 1)))) 2 4 (upd ((S 2).2 4) a (nI (1 + g 2)))) 2 5 (upd ((S 2).2 5) a (nI (g 3)))) h8
  refine ⟨S', ?_, ?_, ?_⟩
  · rw [← q1]
    unfold FX3_passWord
    generalize FX3_passWord_L63 = G
    simp (disch := omega) only [kb, li_1, nI_add, kin_t, kgd_t, kA_nI, kpA_nI, pR_2, and_false, Nat.reduceEqDiff, if_false, n0, n1, n2, n3, li_6]
    rw [← li_1, bit_1 b3]
  · refine kp_tr ?_ (ff_kp q2)
    exact kp_tr (kp_tr (kp_tr (kp_s (by omega) (by omega)) (kp_s (S := kpR S 2 2 _) (by omega) (by omega))) (kp_s (S := kpR (kpR S 2 2 _) 2 3 _) (by omega) (by omega))) (kp_s (S := kpR (kpR (kpR S 2 2 _) 2 3 _) 2 4 _) (by omega) (by omega))
  · obtain ⟨_, _, h3, h4⟩ := q2
    refine ⟨?_, ?_, ?_, ?_, fun p hp => ?_⟩
    · rw [h3 2 (by omega)]
      simp only [pR_2, and_false, Nat.reduceEqDiff, if_false, upd_eq, and_true, if_true] <;> rfl
    · rw [h3 3 (by omega)]
      simp only [pR_2, and_false, Nat.reduceEqDiff, if_false, upd_eq, and_true, if_true] <;> rfl
    · rw [h3 4 (by omega)]
      simp only [pR_2, and_false, Nat.reduceEqDiff, if_false, upd_eq, and_true, if_true, Nat.add_comm 1] <;> rfl
    · rw [h3 5 (by omega)]
      simp only [pR_2, and_false, Nat.reduceEqDiff, if_false, upd_eq, and_true, if_true] <;> rfl
    · rw [h4, if_pos (by omega), show 5 * a + p - 5 * a = p by omega]
      show _ = nI (if 4 + p = 0 then 6 + g 0 else if 4 + p = 2 then g 2 + 1 else g (4 + p))
      rw [if_neg (by omega), if_neg (by omega)]
      exact n4 p hp
theorem c_clearS (S : kS) (G : kS → Int32 → Int32 → Option kS) {a x : Nat} (h8 : a ≤ 8) : (kgd (kin (nI a) 9) <| kb (kpA S 2 2 (nI a) (nI x)) fun S1 => kgd (kin (nI a) 9) <| kb (kpA S1 2 3 (nI a) (0 : Int32)) fun S2 => kgd (kin (nI a) 9) <| kb (kpA S2 2 4 (nI a) (0 : Int32)) fun S3 => G S3 (nI a) (0 : Int32)) = G (kpR (kpR (kpR S 2 2 (upd ((S 2).2 2) a (nI x))) 2 3 (upd ((S 2).2 3) a (nI 0))) 2 4 (upd ((S 2).2 4) a (nI 0))) (nI a) 0 := by
  simp (disch := omega) only [kb, kin_t, kgd_t, kpA_nI, pR_2, and_false, Nat.reduceEqDiff, if_false, nI_0]
theorem c_clear {S : kS} {a x : Nat} {g : Nat → Nat} (h8 : a ≤ 8) (hn : CA (S 2) a g) : ∃ S', FX3_clearAt S (nI a) (nI x) = some S' ∧ kp a S S' ∧ CA (S' 2) a (fun c => if c = 0 then x else if c = 3 then g 3 else 0) := by
  obtain ⟨n0, n1, n2, n3, n4⟩ := hn
  obtain ⟨S', q1, q2⟩ := f_clear (kpR (kpR (kpR S 2 2 (upd ((S 2).2 2) a (nI x))) 2 3 (upd ((S 2).2 3) a (nI 0))) 2 4 (upd ((S 2).2 4) a (nI 0))) h8
  refine ⟨S', ?_, ?_, ?_⟩
  · unfold FX3_clearAt
    exact (c_clearS S FX3_clearAt_L23 h8).trans q1
  · refine kp_tr ?_ (ff_kp q2)
    exact kp_tr (kp_tr (kp_s (by omega) (by omega)) (kp_s (S := kpR S 2 2 _) (by omega) (by omega))) (kp_s (S := kpR (kpR S 2 2 _) 2 3 _) (by omega) (by omega))
  · obtain ⟨_, _, h3, h4⟩ := q2
    refine ⟨?_, ?_, ?_, ?_, fun p hp => ?_⟩
    · rw [h3 2 (by omega)]
      simp only [pR_2, and_false, Nat.reduceEqDiff, if_false, upd_eq, and_true, if_true] <;> rfl
    · rw [h3 3 (by omega)]
      simp only [pR_2, and_false, Nat.reduceEqDiff, if_false, upd_eq, and_true, if_true] <;> rfl
    · rw [h3 4 (by omega)]
      simp only [pR_2, and_false, Nat.reduceEqDiff, if_false, upd_eq, and_true, if_true] <;> rfl
    · rw [h3 5 (by omega)]
      simp only [pR_2, and_false, Nat.reduceEqDiff, if_false]
      exact n3
    · rw [h4, if_pos (by omega)]
      show nI 0 = nI (if 4 + p = 0 then x else if 4 + p = 3 then g 3 else 0)
      rw [if_neg (by omega), if_neg (by omega)]
section CU
variable {S : kS} {α : kα} {f : Nat} {τ : Nat → Nat → Nat} {g : Nat → Nat} {a r : Nat}
theorem c_use58 (hD : CD S α f) (hG : wfG α f) (hr : r < α 0 3 0) (hft : fit α f r a = true) (ha : CA (S 2) a g) (hn : CA (S 2) (a + α 19 r 0) (fun c => τ c (a + α 19 r 0))) (bg : g 1 ≤ 1000000 ∧ g 2 ≤ 8 ∧ ∀ p, p < 5 → g (4 + p) < 32) (bt : τ 1 (a + α 19 r 0) ≤ 1000000 ∧ τ 2 (a + α 19 r 0) ≤ 8 ∧ ∀ p, p < 5 → τ (4 + p) (a + α 19 r 0) < 32) : ∃ S', FX3_useRow_J58 (6 + f) S (nI r) (nI a) (nI (a + α 19 r 0)) = some S' ∧ kp a S S' ∧ CA (S' 2) a (fun c => if c = 0 then g 0 else cb α f τ a r c (g c)) := by
  obtain ⟨n0, n1, n2, n3, n4⟩ := hn
  obtain ⟨a0, a1, a2, a3, a4⟩ := ha
  have i5 := (hG.1.2 r hr).2.2.2.2.1
  have f2 := (fit_d hft).2.1
  have h8 := hG.2.1.1
  have hk : kp a S (kpR (kpR (kpR S 2 3 (upd ((S 2).2 3) a (nI (min 1000000 (g 1 + τ 1 (a + α 19 r 0)))))) 2 4 (upd ((S 2).2 4) a (nI (max (g 2) (τ 2 (a + α 19 r 0)))))) 2 5 (upd ((S 2).2 5) a (nI 1))) := kp_tr (kp_tr (kp_s (by omega) (by omega)) (kp_s (S := kpR S 2 3 _) (by omega) (by omega))) (kp_s (S := kpR (kpR S 2 3 _) 2 4 _) (by omega) (by omega))
  obtain ⟨S', q1, q2⟩ := f_use (τ := τ) (g := g) (a := a) (r := r) (S := kpR (kpR (kpR S 2 3 (upd ((S 2).2 3) a (nI (min 1000000 (g 1 + τ 1 (a + α 19 r 0)))))) 2 4 (upd ((S 2).2 4) a (nI (max (g 2) (τ 2 (a + α 19 r 0)))))) 2 5 (upd ((S 2).2 5) a (nI 1))) (kp_CD hk hD) hG hr hft (fun p hp => by simp only [pR_2, and_false, Nat.reduceEqDiff, if_false]; exact a4 p hp) (fun p hp => by simp only [pR_2, and_false, Nat.reduceEqDiff, if_false]; exact n4 p hp) bg.2.2 bt.2.2
  obtain ⟨g1, g2, _⟩ := bg
  obtain ⟨t1, t2, _⟩ := bt
  refine ⟨S', ?_, kp_tr hk (ff_kp q2), ?_⟩
  · rw [← q1]
    unfold FX3_useRow_J58
    generalize FX3_useRow_L120 = G
    simp (disch := omega) only [kb, kin_t, kgd_t, kA_nI, kpA_nI, pR_2, and_false, Nat.reduceEqDiff, if_false, a1, a2, n1, n2, nI_add, li_1000000, kmin_n, kmax_n]
    rfl
  · obtain ⟨_, _, h3, h4⟩ := q2
    refine ⟨?_, ?_, ?_, ?_, fun p hp => ?_⟩
    · rw [h3 2 (by omega)]
      simp only [pR_2, and_false, Nat.reduceEqDiff, if_false, if_true]
      exact a0
    · rw [h3 3 (by omega)]
      simp only [pR_2, and_false, Nat.reduceEqDiff, if_false, upd_eq, and_true, if_true] <;> rfl
    · rw [h3 4 (by omega)]
      simp only [pR_2, and_false, Nat.reduceEqDiff, if_false, upd_eq, and_true, if_true] <;> rfl
    · rw [h3 5 (by omega)]
      simp only [pR_2, and_false, Nat.reduceEqDiff, if_false, upd_eq, and_true, if_true] <;> rfl
    · rw [h4, if_pos (by omega), show 5 * a + p - 5 * a = p by omega]
      show nI _ = nI (if 4 + p = 0 then g 0 else cb α f τ a r (4 + p) (g (4 + p)))
      rw [if_neg (by omega)]
theorem c_use (hD : CD S α f) (hG : wfG α f) (hr : r < α 0 3 0) (hft : fit α f r a = true) (ha : CA (S 2) a g) (hn : CA (S 2) (a + α 19 r 0) (fun c => τ c (a + α 19 r 0))) (b0 : g 0 ≤ 100 ∧ τ 0 (a + α 19 r 0) ≤ 100) (bg : g 1 ≤ 1000000 ∧ g 2 ≤ 8 ∧ ∀ p, p < 5 → g (4 + p) < 32) (bt : τ 1 (a + α 19 r 0) ≤ 1000000 ∧ τ 2 (a + α 19 r 0) ≤ 8 ∧ ∀ p, p < 5 → τ (4 + p) (a + α 19 r 0) < 32) : ∃ S', FX3_useRow (6 + f) S (nI r) (nI a) = some S' ∧ kp a S S' ∧ CA (S' 2) a (fun c => if g 0 < α 17 r 0 + τ 0 (a + α 19 r 0) then g c else if c = 0 then α 17 r 0 + τ 0 (a + α 19 r 0) else cb α f τ a r c (if α 17 r 0 + τ 0 (a + α 19 r 0) < g 0 then 0 else g c)) := by
  obtain ⟨i1, i2, i3, i4, i5, i6, i7⟩ := hG.1.2 r hr
  have f2 := (fit_d hft).2.1
  have h8 := hG.2.1.1
  have hL := c_lengthOf hD.1 hG.1 hr
  have hC := c_costOf hD.1 hG.1 hr
  unfold FX3_useRow
  simp (disch := omega) only [hL, hC, Option.bind_some, nI_add, kin_t, kgd_t, kb, kA_nI, hn.1, ha.1, nI_l']
  by_cases q1 : g 0 < α 17 r 0 + τ 0 (a + α 19 r 0)
  · rw [if_neg (by omega)]
    exact ⟨S, rfl, kp_rf _ _, CA_cg ha (fun c => by rw [if_pos q1])⟩
  · rw [if_pos (by omega)]
    by_cases q2 : α 17 r 0 + τ 0 (a + α 19 r 0) < g 0
    · rw [if_neg (by omega)]
      obtain ⟨S1, u1, u2, u3⟩ := c_clear (x := α 17 r 0 + τ 0 (a + α 19 r 0)) (by omega) ha
      obtain ⟨S2, v1, v2, v3⟩ := c_use58 (τ := τ) (kp_CD u2 hD) hG hr hft u3 (kp_CA u2 (by omega) hn) ⟨by simp, by simp, fun p hp => by rw [if_neg (by omega), if_neg (by omega)]; omega⟩ bt
      refine ⟨S2, by rw [u1, Option.bind_some]; exact v1, kp_tr u2 v2, CA_cg v3 (fun c => ?_)⟩
      rw [if_neg q1, if_pos q2, if_pos rfl]
      by_cases e : c = 0
      · rw [if_pos e, if_pos e]
      · rw [if_neg e, if_neg e, if_neg e]
        by_cases e3 : c = 3
        · subst e3; rfl
        · rw [if_neg e3]
    · rw [if_pos (by omega)]
      obtain ⟨S2, v1, v2, v3⟩ := c_use58 (τ := τ) hD hG hr hft ha hn bg bt
      refine ⟨S2, v1, v2, CA_cg v3 (fun c => ?_)⟩
      rw [if_neg q1, if_neg q2]
      by_cases e : c = 0
      · rw [if_pos e, if_pos e]; omega
      · rw [if_neg e, if_neg e]
end CU
/-- what the class's tables hold at a behind the first r rows -/
def gr (α : kα) (f : Nat) (τ : Nat → Nat → Nat) (a r c : Nat) : Nat := if c = 0 then mn α f τ a r else fd α f τ a (mn α f τ a r) c r
theorem gr_y {α : kα} {f : Nat} {τ : Nat → Nat → Nat} {a r : Nat} (h : fit α f r a = true) (c : Nat) : gr α f τ a (r + 1) c = if gr α f τ a r 0 < α 17 r 0 + τ 0 (a + α 19 r 0) then gr α f τ a r c else if c = 0 then α 17 r 0 + τ 0 (a + α 19 r 0) else cb α f τ a r c (if α 17 r 0 + τ 0 (a + α 19 r 0) < gr α f τ a r 0 then 0 else gr α f τ a r c) := by
  unfold gr
  rw [mn_s, if_pos h, if_pos rfl, fd_s]
  generalize hx : α 17 r 0 + τ 0 (a + α 19 r 0) = x
  by_cases q1 : mn α f τ a r < x
  · rw [if_pos q1, Nat.min_eq_left (by omega), if_neg (show ¬ (fit α f r a = true ∧ x = mn α f τ a r) by omega)]
  · rw [if_neg q1, Nat.min_eq_right (by omega)]
    by_cases e : c = 0
    · rw [if_pos e, if_pos e]
    · rw [if_neg e, if_neg e, if_neg e, if_pos ⟨h, rfl⟩]
      by_cases q2 : x < mn α f τ a r
      · rw [if_pos q2, fd_lt c r q2]
      · rw [if_neg q2, show mn α f τ a r = x by omega]
theorem gr_n {α : kα} {f : Nat} {τ : Nat → Nat → Nat} {a r : Nat} (h : ¬ fit α f r a = true) (c : Nat) : gr α f τ a (r + 1) c = gr α f τ a r c := by
  unfold gr
  rw [mn_s, if_neg h, fd_s, if_neg (show ¬ (fit α f r a = true ∧ α 17 r 0 + τ 0 (a + α 19 r 0) = mn α f τ a r) from fun q => h q.1)]
theorem gr_b {α : kα} {f a : Nat} (hG : wfG α f) (ha : a < α 0 2 0) {r : Nat} (hr : r ≤ α 0 3 0) : gr α f (TT α f) a r 0 ≤ 100 ∧ gr α f (TT α f) a r 1 ≤ 1000000 ∧ gr α f (TT α f) a r 2 ≤ 8 ∧ ∀ p, p < 5 → gr α f (TT α f) a r (4 + p) < 32 := by
  obtain ⟨hI, hL, hw, hW, hf⟩ := hG
  have h8 := hL.1
  have B := fun i h => TT_b hI hL hw hW (α 0 2 0) i h (by omega)
  have b1 := B (a + 1) (by omega)
  refine ⟨?_, ?_, ?_, fun p hp => ?_⟩
  · show mn α f (TT α f) a r ≤ 100
    have := mn_ge (α := α) (f := f) (τ := TT α f) (a := a) r
    have := b1.1
    omega
  · refine fd_ind (Q := fun x => x ≤ 1000000) (by omega) (by unfold st0; rw [if_neg (by omega)]; exact b1.2.2.1) (fun r w hr hf _ => ?_) _ hr
    unfold cb
    rw [if_pos rfl]
    omega
  · refine fd_ind (Q := fun x => x ≤ 8) (by omega) ?_ (fun r w hr hf hq => ?_) _ hr
    · have := b1.2.2.2.1
      unfold st0
      rw [if_pos rfl]
      omega
    · have := (B (a + α 19 r 0) (fit_d hf).2.1).2.2.2.1
      unfold cb
      rw [if_neg (by omega), if_pos rfl]
      omega
  · show (if 4 + p = 0 then _ else fd α f (TT α f) a (mn α f (TT α f) a r) (4 + p) r) < 32
    rw [if_neg (by omega)]
    refine (fd_ind (Q := fun x => fbd α f p x) (fbd_0 _ _ _) ?_ (fun r w hr hf hq => ?_) _ hr).1
    · unfold st0
      rw [if_neg (by omega)]
      exact b1.2.2.2.2.2 p hp
    · unfold cb
      rw [if_neg (by omega), if_neg (by omega), if_neg (by omega), show 4 + p - 4 = p by omega]
      exact fbd_or hq (fbd_fl ((B (a + α 19 r 0) (fit_d hf).2.1).2.2.2.2.2 p hp) (ow_bd hw hW hL hf _ (Nat.le_refl _)))
