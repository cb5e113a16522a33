/-! the class's planning -/
theorem wby_hi {W : kα → Nat} {α : kα} {f p : Nat} : ∀ (k v r : Nat), 100 ≤ r → wby W α f p k v r = 100
  | 0, v, r, h => by rw [wby_0, if_neg (by omega), Nat.min_eq_left h]
  | k + 1, v, r, h => by
    rw [wby_s]
    refine wby_hi k (v + 1) _ ?_
    split
    · exact Nat.le_trans h (Nat.le_max_left _ _)
    · exact h
theorem kmax_r {r x : Nat} (hr : r ≤ 101) (hx : x ≤ 100) : kmax (nO r) (nI x) = nO (max r (x + 1)) := by
  unfold kmax
  by_cases h : r ≤ x
  · rw [if_pos (by rw [nO_tI (by omega) (by omega)]; exact h), Nat.max_eq_right (by omega), nO_s]
  · rw [if_neg (by rw [nO_tI (by omega) (by omega)]; exact h), Nat.max_eq_left (by omega)]
theorem kmin_r {r x : Nat} (hr : r ≤ 101) (hx : x ≤ 101) : kmin (nI r) (nI x) = nI (min r x) := by
  unfold kmin
  by_cases h : x < r
  · rw [if_pos (by rw [nI_t' (by omega) (by omega)]; exact h), Nat.min_eq_right (by omega)]
  · rw [if_neg (by rw [nI_t' (by omega) (by omega)]; exact h), Nat.min_eq_left (by omega)]
theorem nO_1 (r : Nat) : nO r + 1 = nI r := by
  have e : nO r = nI r - 1 := rfl
  rw [e, Int32.sub_add_cancel]
theorem nO_100 {r : Nat} (hr : r ≤ 101) : ((100 : Int32) ≤ nO r) = (101 ≤ r) := by
  rw [show (100 : Int32) = nO 101 by decide +kernel]
  by_cases h0 : r = 0
  · subst h0; simp; decide
  · rw [nO_31 (by omega) h0, nO_31 (by omega) (by omega), nI_l' (by omega) (by omega)]
    exact propext ⟨fun h => by omega, fun h => by omega⟩
theorem c_wloop {S0 : kS} {α0 α : kα} {f p dep : Nat} (hC : sameC α0 α f) (hF0 : RF (S0 (6 + f)) α0 f) (hw0 : wfP α0 f) (hr0 : wfR α0 f) (hs : wfS α f) (hp : p < α 1 f 0) (hk : α 2 f p ≠ 1) (h7 : α 7 f p = 0) (hdep : dep < 5) {rc : kS × Nat × Int32 × Int32 → Option (Int32 × kS)} (hrc : ∀ (v : Nat) (S : kS), v < α 3 f p → PC S0 S α0 (ap α f p v) f → ∃ S', rc (S, 6 + f, nI (encC α0 (ap α f p v) f), nI (dep + 1)) = some (nI (VV (ap α f p v) f), S') ∧ PC S0 S' α0 (ap α f p v) f) : ∀ (k m v r : Nat) (S : kS) (γ : kα), v + k = α 3 f p → k < m → r ≤ 101 → (γ = α ∨ ∃ j, γ = ap α f p j) → PC S0 S α0 γ f → ∃ S', kfix (fun rec (q : kS × Int32 × Int32 × Int32 × Int32 × Int32 × Int32) => FX2_fewestBy_B31 (6 + f) rc rec q.1 q.2.1 q.2.2.1 q.2.2.2.1 q.2.2.2.2.1 q.2.2.2.2.2.1 q.2.2.2.2.2.2) m (S, nI p, nI (encC α0 α f), nI dep, nI (α 6 f p), nO r, nI v) = some (nI (wby (fun β => VV β f) α f p k v r), S') ∧ PC S0 S' α0 α f := by
  have hB := hC.1
  have hw := wfP_same hB hw0
  have h5 := hw.1
  have hsz := (hw.2 p hp).2.2.1
  have hu0 := un1_back hC (show p < 5 by omega) hp hk h7
  have e3 : α 3 f p = α0 3 f p := hB.1 3 f p (by omega) (by omega)
  have hsame : ∀ γ : kα, (γ = α ∨ ∃ j, γ = ap α f p j) → sameB α0 γ f ∧ (∀ q, q ≠ p → α 6 f q = γ 6 f q ∧ α 7 f q = γ 7 f q) ∧ (∀ c g j, c ≠ 6 → c ≠ 7 → α c g j = γ c g j) := fun γ h => by
    rcases h with rfl | ⟨j, rfl⟩
    · exact ⟨hB, fun _ _ => ⟨rfl, rfl⟩, fun _ _ _ _ _ => rfl⟩
    · refine ⟨sameB_ap hB (by omega), fun q hq => ?_, fun c g i h6 h7 => (ap_o _ _ _ _ _ _ _ h6 h7).symm⟩
      rw [ap_6, ap_7, if_neg hq, if_neg hq]
      exact ⟨rfl, rfl⟩
  have hend : ∀ (r : Nat) (S : kS) (γ : kα), r ≤ 101 → (γ = α ∨ ∃ j, γ = ap α f p j) → PC S0 S α0 γ f → ∃ S', FX2_fewestBy_J106 (6 + f) rc S (nI p) (nI (α 6 f p)) (nO r) = some (nI (if r = 0 then 100 else min 100 r), S') ∧ PC S0 S' α0 α f := fun r S γ hr hγ hP => by
    obtain ⟨g1, g2, g3⟩ := hsame γ hγ
    have hF := PC_RF hP g1 hF0
    have hp' : p < γ 1 f 0 := by rw [← g3 1 f 0 (by omega) (by omega)]; exact hp
    refine ⟨_, ?_, PC_put (x := nI (α 6 f p)) (y := -1) hP g2 rfl (by rw [h7, nO_0])⟩
    unfold FX2_fewestBy_J106 FX2_fewestBy_J134
    rw [c_put hF (wfP_same g1 hw0) hp', Option.bind_some]
    by_cases e : r = 0
    · rw [if_pos (by rw [nO_m1 (by omega)]; exact e), if_pos e, li_100]
    · rw [if_neg (by rw [nO_m1 (by omega)]; exact e), if_neg e, nO_1, li_100, kmin_r (by omega) hr]
  intro k
  induction k with
  | zero =>
    intro m v r S γ hvk hm hr101 hγ hP
    obtain ⟨g1, g2, g3⟩ := hsame γ hγ
    obtain ⟨m, rfl⟩ : ∃ m', m = m' + 1 := ⟨m - 1, by omega⟩
    rw [kfix_s]
    generalize kfix (fun rec (q : kS × Int32 × Int32 × Int32 × Int32 × Int32 × Int32) => FX2_fewestBy_B31 (6 + f) rc rec q.1 q.2.1 q.2.2.1 q.2.2.2.1 q.2.2.2.2.1 q.2.2.2.2.2.1 q.2.2.2.2.2.2) m = Rk
    show ∃ S', FX2_fewestBy_B31 (6 + f) rc Rk S (nI p) (nI (encC α0 α f)) (nI dep) (nI (α 6 f p)) (nO r) (nI v) = _ ∧ _
    unfold FX2_fewestBy_B31
    have hF := PC_RF hP g1 hF0
    have hp' : p < γ 1 f 0 := by rw [← g3 1 f 0 (by omega) (by omega)]; exact hp
    rw [c_sizeOf hF (wfP_same g1 hw0) hp', Option.bind_some, ← g3 3 f p (by omega) (by omega), if_pos (by rw [nI_l' (by omega) (by omega)]; omega), wby_0]
    exact hend r S γ hr101 hγ hP
  | succ k ih =>
    intro m v r S γ hvk hm hr101 hγ hP
    obtain ⟨g1, g2, g3⟩ := hsame γ hγ
    obtain ⟨m, rfl⟩ : ∃ m', m = m' + 1 := ⟨m - 1, by omega⟩
    rw [kfix_s]
    have ihm := fun r S hr => ih m (v + 1) r S (ap α f p v) (by omega) (by omega) hr (Or.inr ⟨v, rfl⟩)
    clear ih
    generalize kfix (fun rec (q : kS × Int32 × Int32 × Int32 × Int32 × Int32 × Int32) => FX2_fewestBy_B31 (6 + f) rc rec q.1 q.2.1 q.2.2.1 q.2.2.2.1 q.2.2.2.2.1 q.2.2.2.2.2.1 q.2.2.2.2.2.2) m = Rk at ihm ⊢
    show ∃ S', FX2_fewestBy_B31 (6 + f) rc Rk S (nI p) (nI (encC α0 α f)) (nI dep) (nI (α 6 f p)) (nO r) (nI v) = _ ∧ _
    unfold FX2_fewestBy_B31
    have hv : v < α 3 f p := by omega
    have hF := PC_RF hP g1 hF0
    have hwγ := wfP_same g1 hw0
    have hp' : p < γ 1 f 0 := by rw [← g3 1 f 0 (by omega) (by omega)]; exact hp
    rw [c_sizeOf hF hwγ hp', Option.bind_some, ← g3 3 f p (by omega) (by omega), if_neg (show ¬ nI (α 3 f p) ≤ nI v by rw [nI_l' (by omega) (by omega)]; omega)]
    by_cases hr : 101 ≤ r
    · rw [if_pos (show (100 : Int32) ≤ nO r by rw [nO_100 hr101]; exact hr), wby_hi _ _ _ (by omega)]
      obtain ⟨S', c1, c2⟩ := hend r S γ hr101 hγ hP
      rw [if_neg (by omega), Nat.min_eq_left (by omega)] at c1
      exact ⟨S', c1, c2⟩
    · rw [if_neg (show ¬ (100 : Int32) ≤ nO r by rw [nO_100 hr101]; exact hr), c_put hF hwγ hp', Option.bind_some, sh_1 v (by omega), wby_s]
      have hP1 : PC S0 (kpR (kpR S (6 + f) 5 (upd ((S (6 + f)).2 5) p (nI (2 ^ v)))) (6 + f) 6 (upd ((S (6 + f)).2 6) p (nI v))) α0 (ap α f p v) f := by
        refine PC_put hP (fun q hq => ?_) (by rw [ap_6, if_pos rfl]) (by rw [ap_7, if_pos rfl, nO_s])
        rw [ap_6, ap_7, if_neg hq, if_neg hq]
        exact g2 q hq
      generalize (kpR (kpR S (6 + f) 5 (upd ((S (6 + f)).2 5) p (nI (2 ^ v)))) (6 + f) 6 (upd ((S (6 + f)).2 6) p (nI v))) = S1 at hP1 ⊢
      have hB1 := sameB_ap (v := v) hB (show p < 5 by omega)
      have hs1 := wfS_ap hs hp hk hv
      have hbr := c_broken (PC_RF hP1 hB1 hF0) (wfP_same hB1 hw0) hs1 (wfR_same hB1 hr0)
      have hbr6 : broken (ap α f p v) f ≤ 6 + 1 := by
        have := (wfR_same hB1 hr0).1
        have hgo : ∀ k r, r + k ≤ 6 → bgo (ap α f p v) f k r ≤ 6 + 1 := by
          intro k
          induction k with
          | zero => intro r _; exact Nat.zero_le _
          | succ k ih =>
            intro r hr
            unfold bgo
            split
            · omega
            · exact ih (r + 1) (by omega)
        exact hgo _ 0 (by omega)
      rw [hbr, Option.bind_some]
      unfold FX2_fewestBy_J100
      have ev : nI v + 1 = nI (v + 1) := by rw [li_1, nI_add]
      rw [ev]
      by_cases e : broken (ap α f p v) f = 0
      · rw [if_pos (show nO (broken (ap α f p v) f) = -1 by rw [nO_m1 (by omega)]; exact e), if_pos e]
        have hwt := hP1.2.2.2.2.1 p (by omega)
        have hst : nI (encC α0 α f) + nI (ww α0 f p) * nI (v + 1) = nI (encC α0 (ap α f p v) f) := by rw [nI_mul, nI_add, encC_ap (by omega) hu0 h7]
        have hde : nI dep + 1 = nI (dep + 1) := by rw [li_1, nI_add]
        obtain ⟨S', c1, c2⟩ := hrc v S1 hv hP1
        have hV := VV_100 (ap α f p v) f
        simp (disch := omega) only [kin_t, kgd_t, kb, kA_nI, hwt, hst, hde, c1, kb2_some]
        rw [kmax_r hr101 hV]
        exact ihm _ S' (by omega) c2
      · rw [if_neg (show ¬ nO (broken (ap α f p v) f) = -1 by rw [nO_m1 (by omega)]; exact e), if_neg e]
        exact ihm r S1 hr101 hP1
