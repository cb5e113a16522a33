/-! the reference's planning: a state's worst -/
def anyA (α : kα) (f : Nat) : Nat → Nat → Bool
  | 0, _ => false
  | k + 1, p => ask α f p || anyA α f k (p + 1)
theorem anyA_s (α : kα) (f k p : Nat) : anyA α f (k + 1) p = (ask α f p || anyA α f k (p + 1)) := rfl
theorem anyA_no {α : kα} {f : Nat} : ∀ (k p : Nat), anyA α f k p = false → ∀ q, p ≤ q → q < p + k → ask α f q = false
  | 0, p, h, q, h1, h2 => by omega
  | k + 1, p, h, q, h1, h2 => by
    rw [anyA_s, Bool.or_eq_false_iff] at h
    by_cases e : q = p
    · subst e; exact h.1
    · exact anyA_no k (p + 1) h.2 q (by omega) (by omega)
theorem anyA_yes {α : kα} {f : Nat} : ∀ (k p : Nat), anyA α f k p = true → ∃ q, p ≤ q ∧ q < p + k ∧ ask α f q = true
  | 0, p, h => by cases h
  | k + 1, p, h => by
    rw [anyA_s, Bool.or_eq_true] at h
    rcases h with h | h
    · exact ⟨p, by omega, by omega, h⟩
    · obtain ⟨q, q1, q2, q3⟩ := anyA_yes k (p + 1) h
      exact ⟨q, by omega, by omega, q3⟩
theorem as1_0 {α : kα} {f p : Nat} (h : ask α f p = false) : as1 α f p = 0 := by unfold as1; rw [h]; rfl
theorem as1_1 {α : kα} {f p : Nat} (h : ask α f p = true) : as1 α f p = 1 := by unfold as1; rw [h]; rfl
theorem ask_hi {α : kα} {f p : Nat} (h : α 1 f 0 ≤ p) : ask α f p = false := by
  unfold ask
  rw [show decide (p < α 1 f 0) = false from decide_eq_false (by omega)]
  rfl
theorem anyA_asks {α : kα} {f : Nat} (h5 : α 1 f 0 ≤ 5) : (anyA α f (α 1 f 0) 0 = true) = ¬ (asks α f = 0) := by
  cases h : anyA α f (α 1 f 0) 0
  · have hn : ∀ q, ask α f q = false := fun q => by
      rcases Nat.lt_or_ge q (α 1 f 0) with w | w
      · exact anyA_no _ _ h q (by omega) (by omega)
      · exact ask_hi w
    have : asks α f = 0 := by unfold asks; rw [as1_0 (hn 0), as1_0 (hn 1), as1_0 (hn 2), as1_0 (hn 3), as1_0 (hn 4)]
    simp [this]
  · obtain ⟨q, q1, q2, q3⟩ := anyA_yes _ _ h
    have : asks α f ≠ 0 := by
      have := as1_1 q3
      unfold asks
      rcases (show q = 0 ∨ q = 1 ∨ q = 2 ∨ q = 3 ∨ q = 4 by omega) with rfl | rfl | rfl | rfl | rfl <;> omega
    simp [this]
theorem VV_any {α : kα} {f : Nat} (h5 : α 1 f 0 ≤ 5) : (if (false || anyA α f (α 1 f 0) 0) = true then wof (fun β => VV β f) α f (α 1 f 0) 0 100 else 0) = VV α f := by
  rw [VV_eq h5]
  unfold Wst
  rw [Bool.false_or]
  by_cases h : asks α f = 0
  · rw [if_pos h, if_neg (by rw [anyA_asks h5]; simpa using h)]
  · rw [if_neg h, if_pos (by rw [anyA_asks h5]; exact h)]
theorem PM_mem {S0 S : kS} {α0 α : kα} {f : Nat} (hB : sameB α0 α f) (hd : dig α f) (h : PM S0 S α0 α f) : PM S0 (kpR S 5 44 (upd ((S 5).2 44) (encM α f) (nI (VV α f)))) α0 α f := by
  obtain ⟨p1, p2, p3, p4, p5⟩ := h
  refine ⟨fun o ho => by rw [pR_ne ho]; exact p1 o ho, by rw [← p2]; rfl, fun c h7 h8 h44 => by rw [pR_2, if_neg (fun h => h44 h.2)]; exact p3 c h7 h8 h44, p4, fun β hβ hdβ => ?_⟩
  rw [pR_2, if_pos ⟨rfl, rfl⟩, upd_eq]
  by_cases e : encM β f = encM α f
  · rw [if_pos e]
    exact Or.inr (by rw [sim_VV (sameB_sim hB hβ (encM_inj hd hdβ e.symm))])
  · rw [if_neg e]
    exact p5 β hβ hdβ
theorem m_vloop {S0 : kS} {α0 α : kα} {f : Nat} (hB : sameB α0 α f) (hM0 : MF (S0 5) α0 f) (hw0 : wfP α0 f) (hr0 : wfR α0 f) (hs : wfS α f) (hf : f < 3) {rc : kS × Int32 → Option (Int32 × kS)} (hrc : ∀ (p v : Nat) (S : kS), ask α f p = true → v < α 3 f p → PM S0 S α0 (ap α f p v) f → ∃ S', rc (S, nI f) = some (nI (VV (ap α f p v) f), S') ∧ PM S0 S' α0 (ap α f p v) f) : ∀ (k m p r : Nat) (b : Bool) (S : kS), p + k = α 1 f 0 → k < m → r ≤ 100 → (if (b || anyA α f k p) = true then wof (fun β => VV β f) α f k p r else 0) = VV α f → PM S0 S α0 α f → ∃ S', kfix (fun rec (q : kS × Int32 × Int32 × Int32 × Int32 × Int32) => FX6_worstOf_B32 rc rec q.1 q.2.1 q.2.2.1 q.2.2.2.1 q.2.2.2.2.1 q.2.2.2.2.2) m (S, nI f, nI (encM α f), nI r, b2 b, nI p) = some (nI (VV α f), S') ∧ PM S0 S' α0 α f := by
  have hw := wfP_same hB hw0
  have hr := wfR_same hB hr0
  have h5 := hw.1
  have hd := dig_wf hw hs
  have hen := encM_lt hd
  intro k
  induction k with
  | zero =>
    intro m p r b S hpk hm hr100 hres hP
    obtain ⟨m, rfl⟩ : ∃ m', m = m' + 1 := ⟨m - 1, by omega⟩
    rw [kfix_s]
    generalize kfix (fun rec (q : kS × Int32 × Int32 × Int32 × Int32 × Int32) => FX6_worstOf_B32 rc rec q.1 q.2.1 q.2.2.1 q.2.2.2.1 q.2.2.2.2.1 q.2.2.2.2.2) m = Rk
    refine ⟨_, ?_, PM_mem hB hd hP⟩
    show FX6_worstOf_B32 rc Rk S (nI f) (nI (encM α f)) (nI r) (b2 b) (nI p) = _
    unfold FX6_worstOf_B32 FX6_worstOf_J116
    have hA : anyA α f 0 p = false := rfl
    rw [hA, Bool.or_false, wof_0] at hres
    simp (disch := omega) only [kin_t, kgd_t, kb, kA_nI, hP.2.2.2.1.1 f hf, nI_l', show α 1 f 0 ≤ p by omega, if_true, kpA_nI, pR_2, and_self, upd_eq]
    cases b
    · rw [if_neg (by decide)] at hres
      rw [← hres]
      rfl
    · rw [if_pos rfl] at hres
      rw [← hres]
      rfl
  | succ k ih =>
    intro m p r b S hpk hm hr100 hres hP
    obtain ⟨m, rfl⟩ : ∃ m', m = m' + 1 := ⟨m - 1, by omega⟩
    rw [kfix_s]
    have ihm := fun r b S hr => ih m (p + 1) r b S (by omega) (by omega) hr
    clear ih
    generalize kfix (fun rec (q : kS × Int32 × Int32 × Int32 × Int32 × Int32) => FX6_worstOf_B32 rc rec q.1 q.2.1 q.2.2.1 q.2.2.2.1 q.2.2.2.2.1 q.2.2.2.2.2) m = Rk at ihm ⊢
    show ∃ S', FX6_worstOf_B32 rc Rk S (nI f) (nI (encM α f)) (nI r) (b2 b) (nI p) = _ ∧ _
    unfold FX6_worstOf_B32 FX6_worstOf_J95 FX6_worstOf_J94 FX6_worstOf_J95
    have hp : p < α 1 f 0 := by omega
    have hMF := PM_MF hP hB hM0
    have hwa := m_isWanted hP.2.2.2.1 hMF hw hs hr hf hp
    have e1 : (5 : Int32) * nI f + nI p = nI (5 * f + p) := by rw [li_5, nI_mul, nI_add]
    have ep : nI p + 1 = nI (p + 1) := by rw [li_1, nI_add]
    have m8 := hP.2.2.2.1.2.2.2 f p hf (by omega)
    simp (disch := omega) only [kin_t, kgd_t, kb, kA_nI, hP.2.2.2.1.1 f hf, nI_l', show ¬ α 1 f 0 ≤ p by omega, if_false, hwa, Option.bind_some, e1, m8, ep]
    rw [anyA_s, wof_s] at hres
    by_cases ha : ask α f p = true
    · obtain ⟨a1, a2, a3⟩ := ask_p ha
      rw [a3, if_neg (show ¬ b2 true = 0 by decide), if_pos a2, if_pos (show (0 : Int32) = 0 from rfl)]
      rw [ha, Bool.true_or, Bool.or_true, if_pos rfl, if_pos (show true = true from rfl)] at hres
      obtain ⟨S', c1, c2⟩ := m_worstBy hB hM0 hw0 hr0 hs hf hp (ask_w ha) a2 (fun v S hv hP => hrc p v S ha hv hP) hP
      have hWB : WB (fun β => VV β f) α f p ≤ 100 := wby_100 _ _ _
      rw [c1, kb2_some]
      simp (disch := omega) only [nI_l']
      by_cases h : r ≤ WB (fun β => VV β f) α f p
      · rw [if_pos h]
        rw [Nat.min_eq_left h] at hres
        exact ihm r true S' hr100 (by rw [Bool.true_or, if_pos rfl]; exact hres) c2
      · rw [if_neg h]
        rw [Nat.min_eq_right (by omega)] at hres
        exact ihm _ true S' hWB (by rw [Bool.true_or, if_pos rfl]; exact hres) c2
    · have ha : ask α f p = false := by simpa using ha
      rw [ha, Bool.false_or, if_neg (show ¬ false = true by decide)] at hres
      cases hwn : wanted α f p
      · rw [if_pos (show b2 false = 0 from rfl)]
        exact ihm r b S hr100 hres hP
      · rw [if_neg (show ¬ b2 true = 0 by decide)]
        have h7 : ¬ α 7 f p = 0 := fun h => by
          unfold ask at ha
          rw [hwn, show decide (p < α 1 f 0) = true from decide_eq_true hp, show decide (α 7 f p = 0) = true from decide_eq_true h] at ha
          cases ha
        rw [if_neg h7, if_neg (show ¬ (1 : Int32) = 0 by decide)]
        exact ihm r b S hr100 hres hP
theorem wo_shape (L : Option (Int32 × kS)) (S : kS) (st x : Int32) (hk : kin st 3125 = true) (hx : kA S 5 44 st = x) : (kgd (kin st 3125) <| kb (kA S 5 44 st) fun x2 => if x2 = (-1 : Int32) then L else (kgd (kin st 3125) <| kb (kA S 5 44 st) fun x3 => some (x3, S))) = if x = -1 then L else some (x, S) := by
  rw [hk, hx]
  rfl
theorem m_worstOf {S0 : kS} {α0 : kα} {f : Nat} (hM0 : MF (S0 5) α0 f) (hw0 : wfP α0 f) (hr0 : wfR α0 f) (hf : f < 3) : ∀ (m : Nat) (α : kα) (S : kS), sameB α0 α f → wfS α f → uns α f < m → PM S0 S α0 α f → ∃ S', FX6_worstOfR m (S, nI f) = some (nI (VV α f), S') ∧ PM S0 S' α0 α f
  | 0, α, S, hB, hs, hu, hP => by omega
  | m + 1, α, S, hB, hs, hu, hP => by
    have hw := wfP_same hB hw0
    have hd := dig_wf hw hs
    have hen := encM_lt hd
    have h5 := hw.1
    have hMF := PM_MF hP hB hM0
    have hst := m_state hP.2.2.2.1 hMF hw hs hf
    show ∃ S', FX6_worstOf (FX6_worstOfR m) S (nI f) = _ ∧ _
    unfold FX6_worstOf
    rw [hst, Option.bind_some]
    have hk := kin_t (n := 3125) hen (by omega)
    rw [wo_shape _ S _ _ hk (kA_nI (by omega))]
    by_cases e : (S 5).2 44 (encM α f) = -1
    · rw [if_pos e]
      obtain ⟨S', c1, c2⟩ := m_vloop hB hM0 hw0 hr0 hs hf (rc := FX6_worstOfR m) (fun p v S ha hv hP1 => by
        have h1 := (ask_p ha).1
        have hua := uns_ap (v := v) ha (by omega)
        exact m_worstOf hM0 hw0 hr0 hf m (ap α f p v) S (sameB_ap hB (by omega)) (wfS_ap hs h1 (ask_w ha) hv) (by omega) hP1) (α 1 f 0) kfuel 0 100 false S (by omega) (by unfold kfuel; omega) (by omega) (VV_any h5) hP
      refine ⟨S', ?_, c2⟩
      unfold FX6_worstOf_L32
      rw [nI_0, ← li_100] at c1
      exact c1
    · rw [if_neg e]
      have := (hP.2.2.2.2 α hB hd).resolve_left e
      exact ⟨S, by rw [this], hP⟩
