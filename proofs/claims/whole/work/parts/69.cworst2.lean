/-! the class's planning: a state -/
theorem c_fewestBy {S0 : kS} {α0 α : kα} {f p dep : Nat} (hC : sameC α0 α f) (hF0 : RF (S0 (6 + f)) α0 f) (hw0 : wfP α0 f) (hr0 : wfR α0 f) (hs : wfS α f) (ha : ask α f p = true) (hdep : dep < 5) {rc : kS × Nat × Int32 × Int32 → Option (Int32 × kS)} (hrc : ∀ (v : Nat) (S : kS), v < α 3 f p → PC S0 S α0 (ap α f p v) f → ∃ S', rc (S, 6 + f, nI (encC α0 (ap α f p v) f), nI (dep + 1)) = some (nI (VV (ap α f p v) f), S') ∧ PC S0 S' α0 (ap α f p v) f) {S : kS} (hP : PC S0 S α0 α f) : ∃ S', FX2_fewestBy (6 + f) rc S (nI p) (nI (encC α0 α f)) (nI dep) = some (nI (WB (fun β => VV β f) α f p), S') ∧ PC S0 S' α0 α f := by
  have hw := wfP_same hC.1 hw0
  have h5 := hw.1
  obtain ⟨hp, h7, _⟩ := ask_p ha
  have hk := ask_w ha
  have hsz := (hw.2 p hp).2.2.1
  obtain ⟨S', q1, q2⟩ := c_wloop hC hF0 hw0 hr0 hs hp hk h7 hdep hrc (α 3 f p) kfuel 0 0 S α (by omega) (by unfold kfuel; omega) (by omega) (Or.inl rfl) hP
  refine ⟨S', ?_, q2⟩
  have hF := PC_RF hP hC.1 hF0
  have hL : FX2_fewestBy_L31 (6 + f) rc S (nI p) (nI (encC α0 α f)) (nI dep) (nI (α 6 f p)) (-1) 0 = some (nI (WB (fun β => VV β f) α f p), S') := by
    unfold FX2_fewestBy_L31
    rw [nI_0, nO_0] at q1
    exact q1
  have hso : setOf α f p = α 6 f p := by unfold setOf; rw [if_neg hk]
  unfold FX2_fewestBy
  rw [if_neg (show ¬ (5 : Int32) ≤ nI dep by rw [li_5, nI_l' (by omega) (by omega)]; omega), if_neg (nI_pos (by omega)), if_pos (show nI p < 5 by rw [li_5, nI_t' (by omega) (by omega)]; omega), c_setOf hF hw hs hp, Option.bind_some, hso]
  exact hL
theorem wof_stop {W : kα → Nat} {α : kα} {f : Nat} : ∀ (k p r : Nat), (∀ q, p ≤ q → q < p + k → ask α f q = true → r ≤ WB W α f q) → wof W α f k p r = r
  | 0, p, r, h => rfl
  | k + 1, p, r, h => by
    rw [wof_s]
    have e : (if ask α f p = true then min r (WB W α f p) else r) = r := by
      by_cases ha : ask α f p = true
      · rw [if_pos ha, Nat.min_eq_left (h p (by omega) (by omega) ha)]
      · rw [if_neg ha]
    rw [e]
    exact wof_stop k (p + 1) r (fun q h1 h2 => h q (by omega) (by omega))
theorem wof_app {W : kα → Nat} {α : kα} {f : Nat} : ∀ (k j p r : Nat), wof W α f (k + j) p r = wof W α f j (p + k) (wof W α f k p r)
  | 0, j, p, r => by rw [Nat.zero_add, wof_0, Nat.add_zero]
  | k + 1, j, p, r => by
    rw [show k + 1 + j = (k + j) + 1 by omega, wof_s, wof_s, wof_app k j (p + 1), show p + 1 + k = p + (k + 1) by omega]
theorem wof_5 {W : kα → Nat} {α : kα} {f r : Nat} (h5 : α 1 f 0 ≤ 5) : wof W α f 5 0 r = wof W α f (α 1 f 0) 0 r := by
  have h : (5 : Nat) = α 1 f 0 + (5 - α 1 f 0) := by omega
  rw [h, wof_app]
  refine wof_stop _ _ _ (fun q h1 h2 ha => ?_)
  have := (ask_p ha).1
  omega
theorem c_vloop {S0 : kS} {α0 α : kα} {f dep : Nat} (hC : sameC α0 α f) (hF0 : RF (S0 (6 + f)) α0 f) (hw0 : wfP α0 f) (hr0 : wfR α0 f) (hs : wfS α f) (hdep : dep + uns α f ≤ 5) {rc : kS × Nat × Int32 × Int32 → Option (Int32 × kS)} (hrc : ∀ (p v : Nat) (S : kS), ask α f p = true → v < α 3 f p → PC S0 S α0 (ap α f p v) f → ∃ S', rc (S, 6 + f, nI (encC α0 (ap α f p v) f), nI (dep + 1)) = some (nI (VV (ap α f p v) f), S') ∧ PC S0 S' α0 (ap α f p v) f) : ∀ (k m p r : Nat) (S : kS), p + k = 5 → k < m → r ≤ 100 → wof (fun β => VV β f) α f k p r = VV α f → PC S0 S α0 α f → ∃ S', kfix (fun rec (q : kS × Int32 × Int32 × Int32 × Int32 × Int32 × Int32) => FX2_fewest_B60 (6 + f) rc rec q.1 q.2.1 q.2.2.1 q.2.2.2.1 q.2.2.2.2.1 q.2.2.2.2.2.1 q.2.2.2.2.2.2) m (S, nI (encC α0 α f), nI dep, nI (qm α f), nI (asks α f), nI r, nI p) = some (nI (VV α f), S') ∧ PC S0 S' α0 α f := by
  have hw := wfP_same hC.1 hw0
  have h5 := hw.1
  have hen := encC_lt hC hw0
  have h55 := asks_5 α f
  have hend : ∀ (S : kS), PC S0 S α0 α f → FX2_fewest_J105 (6 + f) rc S (nI (encC α0 α f)) (nI (VV α f)) = some (nI (VV α f), kpR S 3 0 (upd ((S 3).2 0) (encC α0 α f) (nI (VV α f)))) := fun S hP => by
    unfold FX2_fewest_J105
    rw [kin_t hen (by omega), kgd_t, kpA_nI (by omega)]
    rfl
  intro k
  induction k with
  | zero =>
    intro m p r S hpk hm hr100 hres hP
    obtain ⟨m, rfl⟩ : ∃ m', m = m' + 1 := ⟨m - 1, by omega⟩
    rw [kfix_s]
    generalize kfix (fun rec (q : kS × Int32 × Int32 × Int32 × Int32 × Int32 × Int32) => FX2_fewest_B60 (6 + f) rc rec q.1 q.2.1 q.2.2.1 q.2.2.2.1 q.2.2.2.2.1 q.2.2.2.2.2.1 q.2.2.2.2.2.2) m = Rk
    refine ⟨_, ?_, PC_mem hC hP⟩
    show FX2_fewest_B60 (6 + f) rc Rk S (nI (encC α0 α f)) (nI dep) (nI (qm α f)) (nI (asks α f)) (nI r) (nI p) = _
    unfold FX2_fewest_B60
    rw [wof_0] at hres
    rw [if_pos (show (5 : Int32) ≤ nI p by rw [li_5, nI_l' (by omega) (by omega)]; omega), hres]
    exact hend S hP
  | succ k ih =>
    intro m p r S hpk hm hr100 hres hP
    obtain ⟨m, rfl⟩ : ∃ m', m = m' + 1 := ⟨m - 1, by omega⟩
    rw [kfix_s]
    have ihm := fun r S hr => ih m (p + 1) r S (by omega) (by omega) hr
    clear ih
    generalize kfix (fun rec (q : kS × Int32 × Int32 × Int32 × Int32 × Int32 × Int32) => FX2_fewest_B60 (6 + f) rc rec q.1 q.2.1 q.2.2.1 q.2.2.2.1 q.2.2.2.2.1 q.2.2.2.2.2.1 q.2.2.2.2.2.2) m = Rk at ihm ⊢
    show ∃ S', FX2_fewest_B60 (6 + f) rc Rk S (nI (encC α0 α f)) (nI dep) (nI (qm α f)) (nI (asks α f)) (nI r) (nI p) = _ ∧ _
    unfold FX2_fewest_B60 FX2_fewest_J99
    rw [if_neg (show ¬ (5 : Int32) ≤ nI p by rw [li_5, nI_l' (by omega) (by omega)]; omega)]
    by_cases hst : r ≤ asks α f
    · rw [if_pos (show nI r ≤ nI (asks α f) by rw [nI_l' (by omega) (by omega)]; exact hst)]
      rw [wof_stop _ _ _ (fun q _ _ ha => Nat.le_trans hst (WB_ge h5 ha))] at hres
      rw [hres]
      exact ⟨_, hend S hP, PC_mem hC hP⟩
    · rw [if_neg (show ¬ nI r ≤ nI (asks α f) by rw [nI_l' (by omega) (by omega)]; exact hst)]
      have ep : nI p + 1 = nI (p + 1) := by rw [li_1, nI_add]
      have hb := qm_bit α f p (by omega)
      rw [wof_s] at hres
      rw [ep]
      cases ha : ask α f p
      · rw [if_pos (show (nI (qm α f) >>> (nI p &&& 31)) &&& 1 = 0 by rw [q_bit _ (qm_lt α f) p (by omega), hb, as1_0 ha])]
        rw [ha, if_neg (by decide)] at hres
        exact ihm r S hr100 hres hP
      · rw [if_neg (show ¬ (nI (qm α f) >>> (nI p &&& 31)) &&& 1 = 0 by rw [q_bit _ (qm_lt α f) p (by omega), hb, as1_1 ha]; omega)]
        rw [ha, if_pos rfl] at hres
        have hu := uns_ap (v := 0) ha (by omega)
        obtain ⟨S', c1, c2⟩ := c_fewestBy hC hF0 hw0 hr0 hs ha (by omega) (fun v S hv hP => hrc p v S ha hv hP) hP
        have hWB : WB (fun β => VV β f) α f p ≤ 100 := wby_100 _ _ _
        rw [c1, kb2_some, kmin_r (by omega) (by omega)]
        exact ihm _ S' (Nat.le_trans (Nat.min_le_left _ _) hr100) hres c2
theorem fw_shape (A : Option (Int32 × kS)) (Q : Option Int32) (BC : Int32 → Option Int32) (J : Int32 → Int32 → Int32 → Option (Int32 × kS)) (S : kS) (st : Int32) (h0 : ¬ st < 0) (h1 : st < 3125) (hk : kin st 3125 = true) : (if st < 0 then A else (if st < (3125 : Int32) then (kgd (kin st 3125) <| kb (kA S 3 0 st) fun x1 => if x1 = (-1 : Int32) then (Q.bind fun x2 => (BC x2).bind fun x3 => if x3 = 0 then (J x2 x3 (0 : Int32)) else (J x2 x3 (100 : Int32))) else (kgd (kin st 3125) <| kb (kA S 3 0 st) fun x4 => some (x4, S))) else A)) = if kA S 3 0 st = -1 then (Q.bind fun x2 => (BC x2).bind fun x3 => if x3 = 0 then (J x2 x3 (0 : Int32)) else (J x2 x3 (100 : Int32))) else some (kA S 3 0 st, S) := by
  rw [if_neg h0, if_pos h1, hk]
  rfl
theorem c_fewest {S0 : kS} {α0 : kα} {f : Nat} (hF0 : RF (S0 (6 + f)) α0 f) (hw0 : wfP α0 f) (hr0 : wfR α0 f) : ∀ (m dep : Nat) (α : kα) (S : kS), sameC α0 α f → wfS α f → uns α f < m → dep + uns α f ≤ 5 → PC S0 S α0 α f → ∃ S', FX2_fewestR m (S, 6 + f, nI (encC α0 α f), nI dep) = some (nI (VV α f), S') ∧ PC S0 S' α0 α f
  | 0, dep, α, S, hC, hs, hu, hdp, hP => by omega
  | m + 1, dep, α, S, hC, hs, hu, hdp, hP => by
    have hw := wfP_same hC.1 hw0
    have hr := wfR_same hC.1 hr0
    have hen := encC_lt hC hw0
    have h5 := hw.1
    have h55 := asks_5 α f
    have hF := PC_RF hP hC.1 hF0
    show ∃ S', FX2_fewest (6 + f) (FX2_fewestR m) S (nI (encC α0 α f)) (nI dep) = _ ∧ _
    unfold FX2_fewest
    rw [fw_shape _ _ (FJ6_bitCount_0f7a4 S) (fun x2 x3 => FX2_fewest_J55 (6 + f) (FX2_fewestR m) S (nI (encC α0 α f)) (nI dep) x2 x3) S _ (nI_pos (by omega)) (by rw [l3125, nI_t' (by omega) (by omega)]; exact hen) (kin_t hen (by omega)), kA_nI (by omega)]
    by_cases e : (S 3).2 0 (encC α0 α f) = -1
    · rw [if_pos e, c_questions hF hw hs hr, Option.bind_some, q_cnt S _ (qm_lt α f), Option.bind_some, qm_cnt]
      have key : ∀ r, r ≤ 100 → wof (fun β => VV β f) α f 5 0 r = VV α f → ∃ S', FX2_fewest_L60 (6 + f) (FX2_fewestR m) S (nI (encC α0 α f)) (nI dep) (nI (qm α f)) (nI (asks α f)) (nI r) 0 = some (nI (VV α f), S') ∧ PC S0 S' α0 α f := fun r hr100 hres => by
        obtain ⟨S', c1, c2⟩ := c_vloop hC hF0 hw0 hr0 hs hdp (rc := FX2_fewestR m) (fun p v S ha hv hP1 => by
          have h1 := (ask_p ha).1
          have hua := uns_ap (v := v) ha (by omega)
          have hu0 := un1_back hC (show p < 5 by omega) h1 (ask_w ha) (ask_p ha).2.1
          exact c_fewest hF0 hw0 hr0 m (dep + 1) (ap α f p v) S (sameC_ap hC (by omega) hu0 (by rw [← hC.1.1 3 f p (by omega) (by omega)]; exact hv)) (wfS_ap hs h1 (ask_w ha) hv) (by omega) (by omega) hP1) 5 kfuel 0 r S (by omega) (by unfold kfuel; omega) hr100 hres hP
        refine ⟨S', ?_, c2⟩
        unfold FX2_fewest_L60
        rw [nI_0] at c1
        exact c1
      have hV := VV_eq h5 (f := f)
      unfold Wst at hV
      by_cases e0 : asks α f = 0
      · rw [if_pos e0] at hV
        rw [if_pos (show nI (asks α f) = 0 by rw [e0, nI_0])]
        obtain ⟨S', c1, c2⟩ := key 0 (by omega) (by rw [wof_stop _ _ _ (fun q _ _ _ => Nat.zero_le _), hV])
        refine ⟨S', ?_, c2⟩
        unfold FX2_fewest_J55
        rw [nI_0] at c1
        exact c1
      · rw [if_neg e0] at hV
        rw [if_neg (show ¬ nI (asks α f) = 0 by rw [nI_z (by omega)]; exact e0)]
        obtain ⟨S', c1, c2⟩ := key 100 (by omega) (by rw [wof_5 h5, ← hV])
        refine ⟨S', ?_, c2⟩
        unfold FX2_fewest_J55
        rw [← li_100] at c1
        exact c1
    · rw [if_neg e]
      have := (hP.2.2.2.2.2 α hC).resolve_left e
      exact ⟨S, by rw [this], hP⟩
