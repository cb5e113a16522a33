/-! typed calls, forms out of the row, words for shallow programs -/
def kvo (G : kG) (v : Option Nat) : Value := va_rf (v.map (fun o => kg_ad G (kbo o)))
def kfo (n : Nat) (i : Int32) : Option Nat := if i.toNatClampNeg < n then some (6 + i.toNatClampNeg) else none
def kfm (n o : Nat) : Bool := Nat.ble 6 o && Nat.blt o (6 + n)
theorem kOk_fm {G : kG} {n o : Nat} (hG : kg_N G = 55 + 14 * n) (h : kfm n o = true) : kOk G n o := by
  simp only [kfm, Bool.and_eq_true] at h
  exact ⟨Nat.le_of_ble_eq_true h.2, hG⟩
theorem kci_fm {n o : Nat} (h : kfm n o = true) : kci o = 0 := by
  simp only [kfm, Bool.and_eq_true] at h
  have := Nat.le_of_ble_eq_true h.1
  rcases ko_cases o with q | ⟨i, rfl⟩
  · omega
  · exact kci_form i
def kopt {β : Type} (v : Option Nat) (a : β) (b : Nat → β) : β := match v with
  | none => a
  | some o => b o
theorem kopt_ex {β : Type} {v : Option Nat} {a : Option β} {b : Nat → Option β} {r : β} (h : kopt v a b = some r) : (v = none ∧ a = some r) ∨ ∃ o, v = some o ∧ b o = some r := by
  cases v with
  | none => exact Or.inl ⟨rfl, h⟩
  | some o => exact Or.inr ⟨o, rfl, h⟩
theorem kif_ex {β : Type} {c : Prop} [Decidable c] {a b : Option β} {r : β} (h : (if c then a else b) = some r) : (c ∧ a = some r) ∨ (¬ c ∧ b = some r) := by
  by_cases q : c
  · rw [if_pos q] at h; exact Or.inl ⟨q, h⟩
  · rw [if_neg q] at h; exact Or.inr ⟨q, h⟩
def kb2 {α β γ : Type} (v : Option (α × β)) (k : α → β → Option γ) : Option γ := v.bind (fun q => k q.1 q.2)
theorem kb2_ex {α β γ : Type} {v : Option (α × β)} {k : α → β → Option γ} {r : γ} (h : kb2 v k = some r) : ∃ x y, v = some (x, y) ∧ k x y = some r := by
  obtain ⟨⟨x, y⟩, h1, h2⟩ := Option.bind_eq_some_iff.mp h
  exact ⟨x, y, h1, h2⟩
def kfuel : Nat := 4000
def kfix {α β : Type} (B : (α → Option β) → α → Option β) : Nat → α → Option β
  | 0, _ => none
  | m + 1, x => B (kfix B m) x
theorem kfix_ok {α β : Type} {B : (α → Option β) → α → Option β} {P : α → β → Prop} (h : ∀ rec : α → Option β, (∀ x r, rec x = some r → P x r) → ∀ x r, B rec x = some r → P x r) : ∀ (m : Nat) (x : α) (r : β), kfix B m x = some r → P x r
  | 0, _, _, h0 => by cases h0
  | m + 1, x, r, h1 => h (kfix B m) (kfix_ok h m) x r h1
theorem kfix_okD {α β : Type} {B : (α → Option β) → α → Option β} {P : Nat → α → β → Prop} (h : ∀ (m : Nat) (rec : α → Option β), (∀ x r, rec x = some r → P m x r) → ∀ x r, B rec x = some r → P (m + 1) x r) : ∀ (m : Nat) (x : α) (r : β), kfix B m x = some r → P m x r
  | 0, _, _, h0 => by cases h0
  | m + 1, x, r, h1 => h m (kfix B m) (kfix_okD h m) x r h1
def kz (v : Int32) : Bool := decide (v &&& 1 = v)
def knz (v : Int32) : Bool := decide (¬ v = 0)
def kmin (x y : Int32) : Int32 := if y < x then y else x
def kmax (x y : Int32) : Int32 := if x < y then y else x
def kcp (sp dp n : Int32) (l0 l1 : Nat) : Bool := decide (¬ sp < 0 ∧ ¬ dp < 0 ∧ ¬ n < 0 ∧ sp.toNatClampNeg + n.toNatClampNeg ≤ l0 ∧ dp.toNatClampNeg + n.toNatClampNeg ≤ l1)
theorem ktab_out (hi : Nat) (x : Int32) (h : ∀ j : Nat, j ≤ hi → x ≠ Int32.ofNat j) : x.toInt < ((0 : Nat) : Int) ∨ ((hi : Nat) : Int) < x.toInt := by
  rcases Int.lt_or_le x.toInt 0 with q | q
  · exact Or.inl q
  · refine Or.inr ?_
    rcases Int.lt_or_le (hi : Int) x.toInt with z | z
    · exact z
    · exfalso
      refine h x.toInt.toNat (by omega) ?_
      have e : ((x.toInt.toNat : Nat) : Int) = x.toInt := by omega
      have h3 : Int32.ofInt ((x.toInt.toNat : Nat) : Int) = Int32.ofNat x.toInt.toNat := rfl
      rw [← h3, e]
      exact (Int32.ofInt_toInt x).symm
section KT6
variable {X : kX} {nL : Nat} {ret : Option FieldType} {G : kG} {Q : State → Prop} {cc : ByteArray} {lv : List (Option Value)} {st : List Value} {pc n o : Nat} {S S' : kS} {own : String} {d : Nat} {R : Room} {cs : Nat × Nat} {Y : kY} {f : Nat → va_E}
theorem kC_V {M : kM} {m ci index : Nat} {r : Option Value} {As stk : List Value} (pc' : Nat) (st st' : List Value) (hd : decode cc pc = .ok (.invokevirtual index, 3)) (hE : kEv X.2.1 G d M (.ref (kg_ad G (kbo o)) :: As) (kgl G n S) r (kgl G n S')) (hM : kMv M m ci) (hlink : Cond.methodLink own index M.1 ∈ wsL_law) (hO : kOk G n o) (hc : kci o = ci) (hn : As.length = m) (hst : Nat.ble ((st.map fun v => v.category).sum) 8 = true) (hs : stk = As.reverse ++ .ref (kg_ad G (kbo o)) :: st) (hs' : r.toList ++ st = st') (hp : pc + 3 = pc')
    (kk : kV (X, own, nL, ret, G, krm (d + 1), (0, 0), Q) cc (kgl G n S') lv st' pc') : kV (X, own, nL, ret, G, krm (d + 1), (0, 0), Q) cc (kgl G n S) lv stk pc := by
  subst hc; subst hs'
  exact kV_callV (Y := (X, own, nL, ret, G, krm (d + 1), (0, 0), Q)) pc' hd hE hM hlink (kN_obj hO) (kgl_obj G n S o) hn hst ⟨Nat.le_refl _, Nat.le_refl _⟩ ⟨Nat.zero_le _, Nat.zero_le _⟩ hs hp kk
theorem kC_S {M : kM} {m index : Nat} {r : Option Value} {As stk : List Value} (pc' : Nat) (st st' : List Value) (hd : decode cc pc = .ok (.invokestatic index, 3)) (hE : kEv X.2.1 G d M As (kgl G n S) r (kgl G n S')) (hM : kMt M m) (hlink : Cond.methodLink own index M.1 ∈ wsL_law) (hn : As.length = m) (hst : Nat.ble ((st.map fun v => v.category).sum) 8 = true) (hs : stk = As.reverse ++ st) (hs' : r.toList ++ st = st') (hp : pc + 3 = pc')
    (kk : kV (X, own, nL, ret, G, krm (d + 1), (0, 0), Q) cc (kgl G n S') lv st' pc') : kV (X, own, nL, ret, G, krm (d + 1), (0, 0), Q) cc (kgl G n S) lv stk pc := by
  subst hs'
  exact kV_callS (Y := (X, own, nL, ret, G, krm (d + 1), (0, 0), Q)) pc' hd hE hM hlink hn hst ⟨Nat.le_refl _, Nat.le_refl _⟩ ⟨Nat.zero_le _, Nat.zero_le _⟩ hs hp kk
theorem kC_SN {M : kM} {m index : Nat} {r : Option Value} {As stk : List Value} {host : String} (pc' : Nat) (st st' : List Value) (hd : decode cc pc = .ok (.invokestatic index, 3)) (hE : kEv X.2.1 G d M As (kgl G n S) r (kgl G n S')) (hM : kMt M m) (hlink : ∀ s, kNw s → va_Nw (.methodLinkNest own index M.1 host) s) (hn : As.length = m) (hst : Nat.ble ((st.map fun v => v.category).sum) 8 = true) (hs : stk = As.reverse ++ st) (hs' : r.toList ++ st = st') (hp : pc + 3 = pc')
    (kk : kV (X, own, nL, ret, G, krm (d + 1), (0, 0), Q) cc (kgl G n S') lv st' pc') : kV (X, own, nL, ret, G, krm (d + 1), (0, 0), Q) cc (kgl G n S) lv stk pc := by
  subst hs'
  exact kV_callSN (Y := (X, own, nL, ret, G, krm (d + 1), (0, 0), Q)) pc' hd hE hM hlink hn hst ⟨Nat.le_refl _, Nat.le_refl _⟩ ⟨Nat.zero_le _, Nat.zero_le _⟩ hs hp kk
theorem kmr (d : Nat) : 1 ≤ (krm (d + 1)).frames ∧ 40 ≤ (krm (d + 1)).locals ∧ 0 ≤ (krm (d + 1)).cells ∧ 0 ≤ (krm (d + 1)).slots := by simp only [krm]; omega
theorem kC_min {index : Nat} {x y : Int32} (pc' : Nat) (hd : decode cc pc = .ok (.invokestatic index, 3)) (hlink : Cond.methodLink own index Lib.Math.min.name ∈ wsL_law) (hst : Nat.ble ((st.map fun v => v.category).sum) 8 = true) (hp : pc + 3 = pc') (kk : kV (X, own, nL, ret, G, krm (d + 1), (0, 0), Q) cc f lv (.int (kmin x y) :: st) pc') : kV (X, own, nL, ret, G, krm (d + 1), (0, 0), Q) cc f lv (.int y :: .int x :: st) pc :=
  kV_mmin (Y := (X, own, nL, ret, G, krm (d + 1), (0, 0), Q)) pc' hd hlink hst (kmr d) (wi_r15 _ (List.mem_of_getElem? (i := 12) rfl)) (wi_r15 _ (List.mem_of_getElem? (i := 13) rfl)) (wi_r15 _ (List.mem_of_getElem? (i := 14) rfl)) hp kk
theorem kC_max {index : Nat} {x y : Int32} (pc' : Nat) (hd : decode cc pc = .ok (.invokestatic index, 3)) (hlink : Cond.methodLink own index Lib.Math.max.name ∈ wsL_law) (hst : Nat.ble ((st.map fun v => v.category).sum) 8 = true) (hp : pc + 3 = pc') (kk : kV (X, own, nL, ret, G, krm (d + 1), (0, 0), Q) cc f lv (.int (kmax x y) :: st) pc') : kV (X, own, nL, ret, G, krm (d + 1), (0, 0), Q) cc f lv (.int y :: .int x :: st) pc :=
  kV_mmax (Y := (X, own, nL, ret, G, krm (d + 1), (0, 0), Q)) pc' hd hlink hst (kmr d) (wi_r18 _ (List.mem_of_getElem? (i := 2) rfl)) (wi_r15 _ (List.mem_of_getElem? (i := 13) rfl)) (wi_r18 _ (List.mem_of_getElem? (i := 3) rfl)) hp kk
theorem kC_copy {index o2 ci ci2 k k2 l0 l1 j j2 : Nat} {sp dp nn : Int32} (pc' : Nat) (hd : decode cc pc = .ok (.invokestatic index, 3)) (hlink : Cond.methodLink own index arraycopyName ∈ wsL_law) (hst : Nat.ble ((st.map fun v => v.category).sum) 8 = true) (hO : kOk G n o) (hc : kci o = ci) (hO2 : kOk G n o2) (hc2 : kci o2 = ci2) (hcp : kcp sp dp nn l0 l1 = true) (hx : kpR S o2 k2 (va_cpy ((S o).2 k) ((S o2).2 k2) sp.toNatClampNeg dp.toNatClampNeg nn.toNatClampNeg) = S') (hp : pc + 3 = pc') (h0 : ¬ (o = 0 ∧ k = 0)) (h02 : ¬ (o2 = 0 ∧ k2 = 0)) (ha : karr ci k = true) (hl : (kln ci).getD k (false, 0) = (false, l0)) (hj : koff ci k = j) (ha2 : karr ci2 k2 = true) (hl2 : (kln ci2).getD k2 (false, 0) = (false, l1)) (hj2 : koff ci2 k2 = j2)
    (kk : kV (X, own, nL, ret, G, krm (d + 1), (0, 0), Q) cc (kgl G n S') lv st pc') : kV (X, own, nL, ret, G, krm (d + 1), (0, 0), Q) cc (kgl G n S) lv (.int nn :: .int dp :: .ref (kg_ad G (kbo o2 + j2)) :: .int sp :: .ref (kg_ad G (kbo o + j)) :: st) pc := by
  subst hc; subst hc2; subst hx; subst hj; subst hj2
  obtain ⟨q1, q2, q3, q4, q5⟩ := of_decide_eq_true hcp
  have e := kgl_arr G n S ha h0
  rw [hl] at e
  have e2 := kgl_arr G n S ha2 h02
  rw [hl2] at e2
  have e3 := fun g => kgl_putR G n S g ha2 h02
  simp only [hl2] at e3
  exact kV_copy (Y := (X, own, nL, ret, G, krm (d + 1), (0, 0), Q)) pc' hd hlink (wi_r19 _ (List.mem_of_getElem? (i := 22) rfl)) (wi_r19 _ (List.mem_of_getElem? (i := 23) rfl)) (wi_r20 _ (List.mem_of_getElem? (i := 0) rfl)) hst ⟨(kmr d).1, (kmr d).2.1⟩ (kN_arr hO ha) (kN_arr hO2 ha2) e e2 q1 q2 q3 q4 q5 hp (kV_congr (e3 _) kk)
theorem kf_get {i : Int32} {v : Option Nat} (pc' : Nat) (hd : decode cc pc = .ok (.aaload, 1)) (hO : kOk G n 0) (hi : kin i 3 = true) (hx : kfo n i = v) (hp : pc + 1 = pc') (kk : kV (X, own, nL, ret, G, R, cs, Q) cc (kgl G n S) lv (kvo G v :: st) pc') : kV (X, own, nL, ret, G, R, cs, Q) cc (kgl G n S) lv (.int i :: .ref (kg_ad G (kbo 0 + 1)) :: st) pc := by
  subst hx
  refine rf_get pc' hd hO hi ?_ hp kk
  unfold kvo kfo krf
  split <;> rfl
theorem kV_aloadno {k : Fin 4} {v : Option Nat} {G : kG} (pc' : Nat) (hd : decode cc pc = .ok (.aload_n k, 1)) (hl : lv[(k : Nat)]? = some (some (kvo G v))) (hp : pc + 1 = pc') (kk : kV Y cc f lv (kvo G v :: st) pc') : kV Y cc f lv st pc := by
  cases v with
  | none => exact kV_aloadnN pc' hd hl hp kk
  | some o => exact kV_aloadn pc' hd hl hp kk
theorem kV_aloado {k : Nat} {v : Option Nat} {G : kG} (pc' : Nat) (hd : decode cc pc = .ok (.aload k, 2)) (hl : lv[k]? = some (some (kvo G v))) (hp : pc + 2 = pc') (kk : kV Y cc f lv (kvo G v :: st) pc') : kV Y cc f lv st pc := by
  cases v with
  | none => exact kV_aloadN pc' hd hl hp kk
  | some o => exact kV_aload pc' hd hl hp kk
theorem kV_astoreno {k : Fin 4} {v : Option Nat} {G : kG} (pc' : Nat) (lv' : List (Option Value)) (hd : decode cc pc = .ok (.astore_n k, 1)) (hn : Nat.blt (k : Nat) (ky_nL Y) = true) (hl : lv.set (k : Nat) (some (kvo G v)) = lv') (hp : pc + 1 = pc') (kk : kV Y cc f lv' st pc') : kV Y cc f lv (kvo G v :: st) pc := by
  cases v with
  | none => exact kV_astorenN pc' lv' hd hn hl hp kk
  | some o => exact kV_astoren pc' lv' hd hn hl hp kk
theorem kV_astoreo {k : Nat} {v : Option Nat} {G : kG} (pc' : Nat) (lv' : List (Option Value)) (hd : decode cc pc = .ok (.astore k, 2)) (hn : Nat.blt k (ky_nL Y) = true) (hl : lv.set k (some (kvo G v)) = lv') (hp : pc + 2 = pc') (kk : kV Y cc f lv' st pc') : kV Y cc f lv (kvo G v :: st) pc := by
  cases v with
  | none => exact kV_astoreN pc' lv' hd hn hl hp kk
  | some o => exact kV_astore pc' lv' hd hn hl hp kk
theorem kvo_ref (G : kG) (v : Option Nat) : kvo G v = .null ∨ ∃ a, kvo G v = .ref a := by
  cases v with
  | none => exact Or.inl rfl
  | some o => exact Or.inr ⟨_, rfl⟩
theorem kgd2_ex {β : Type} {k : Option β} {r : β} {y : Int32} (h : kgd (knz y) k = some r) : ¬ y = 0 ∧ k = some r := by
  obtain ⟨h1, h2⟩ := kgd_ex h
  exact ⟨of_decide_eq_true h1, h2⟩
end KT6
theorem ic_m1 : Int32.ofInt (-1) = (-1 : Int32) := by decide +kernel
theorem ic_0 : Int32.ofInt (0) = (0 : Int32) := by decide +kernel
theorem ic_1 : Int32.ofInt (1) = (1 : Int32) := by decide +kernel
theorem ic_2 : Int32.ofInt (2) = (2 : Int32) := by decide +kernel
theorem ic_3 : Int32.ofInt (3) = (3 : Int32) := by decide +kernel
theorem ic_4 : Int32.ofInt (4) = (4 : Int32) := by decide +kernel
theorem ic_5 : Int32.ofInt (5) = (5 : Int32) := by decide +kernel
theorem bp_m17 : (Int8.ofInt (-17)).toInt32 = (-17 : Int32) := by decide +kernel
theorem bp_m4 : (Int8.ofInt (-4)).toInt32 = (-4 : Int32) := by decide +kernel
theorem bp_m3 : (Int8.ofInt (-3)).toInt32 = (-3 : Int32) := by decide +kernel
theorem bp_m2 : (Int8.ofInt (-2)).toInt32 = (-2 : Int32) := by decide +kernel
theorem bp_6 : (Int8.ofInt (6)).toInt32 = (6 : Int32) := by decide +kernel
theorem bp_8 : (Int8.ofInt (8)).toInt32 = (8 : Int32) := by decide +kernel
theorem bp_9 : (Int8.ofInt (9)).toInt32 = (9 : Int32) := by decide +kernel
theorem bp_10 : (Int8.ofInt (10)).toInt32 = (10 : Int32) := by decide +kernel
theorem bp_15 : (Int8.ofInt (15)).toInt32 = (15 : Int32) := by decide +kernel
theorem bp_16 : (Int8.ofInt (16)).toInt32 = (16 : Int32) := by decide +kernel
theorem bp_18 : (Int8.ofInt (18)).toInt32 = (18 : Int32) := by decide +kernel
theorem bp_20 : (Int8.ofInt (20)).toInt32 = (20 : Int32) := by decide +kernel
theorem bp_31 : (Int8.ofInt (31)).toInt32 = (31 : Int32) := by decide +kernel
theorem bp_45 : (Int8.ofInt (45)).toInt32 = (45 : Int32) := by decide +kernel
theorem bp_63 : (Int8.ofInt (63)).toInt32 = (63 : Int32) := by decide +kernel
theorem bp_64 : (Int8.ofInt (64)).toInt32 = (64 : Int32) := by decide +kernel
theorem bp_80 : (Int8.ofInt (80)).toInt32 = (80 : Int32) := by decide +kernel
theorem bp_84 : (Int8.ofInt (84)).toInt32 = (84 : Int32) := by decide +kernel
theorem bp_100 : (Int8.ofInt (100)).toInt32 = (100 : Int32) := by decide +kernel
theorem sp_135 : (Int16.ofInt (135)).toInt32 = (135 : Int32) := by decide +kernel
theorem sp_150 : (Int16.ofInt (150)).toInt32 = (150 : Int32) := by decide +kernel
theorem sp_192 : (Int16.ofInt (192)).toInt32 = (192 : Int32) := by decide +kernel
theorem sp_200 : (Int16.ofInt (200)).toInt32 = (200 : Int32) := by decide +kernel
theorem sp_3125 : (Int16.ofInt (3125)).toInt32 = (3125 : Int32) := by decide +kernel
theorem sp_10000 : (Int16.ofInt (10000)).toInt32 = (10000 : Int32) := by decide +kernel
theorem kinc_m1 (y : Int32) : y + Int32.ofInt (-1) = y + (-1 : Int32) := by rw [show Int32.ofInt (-1) = (-1 : Int32) by decide +kernel]
theorem kinc_1 (y : Int32) : y + Int32.ofInt (1) = y + (1 : Int32) := by rw [show Int32.ofInt (1) = (1 : Int32) by decide +kernel]
theorem kinc_6 (y : Int32) : y + Int32.ofInt (6) = y + (6 : Int32) := by rw [show Int32.ofInt (6) = (6 : Int32) by decide +kernel]
