/-! form(): a form more -/
abbrev mX5_form : kM := (yX5_form, cX5_form, 1, some .int)
theorem kmvX5_form : kMv mX5_form 0 5 := ⟨⟨(wi_r5 _ (List.mem_of_getElem? (i := 23) rfl)), (wi_r1 _ (List.mem_of_getElem? (i := 2) rfl)), ⟨by decide +kernel, by decide +kernel, by decide +kernel⟩, by decide⟩, (wi_r5 _ (List.mem_of_getElem? (i := 21) rfl)), (wi_r5 _ (List.mem_of_getElem? (i := 22) rfl)), rfl⟩
theorem okX5_formFull {l : Launch} {G : kG} {n : Nat} (hG : kg_N G = 55 + 14 * n) (d : Nat) {S : kS} (hx : kI S 0 1 = 3) : kEv l G d mX5_form [.ref (kg_ad G (kbo 0))] (kgl G n S) (some (.int (-4))) (kgl G n S) := by
  refine kEv_of RX5 [some (.ref (kg_ad G (kbo 0)))] rfl (by decide +kernel) rfl rfl rfl rfl (fun X hX => ?_)
  refine kV_aloadn 1 dX5_form_0 rfl rfl ?_
  refine rg5_15 4 dX5_form_1 (kOk_of hG rfl) rfl hx rfl ?_
  refine kV_iconst 5 dX5_form_4 ic_3 rfl ?_
  refine kV_icmp_lt_f 11 8 dX5_form_5 (by decide) (by decide) rfl ?_
  refine kV_bipush 10 dX5_form_8 bp_m4 rfl ?_
  exact kV_iret dX5_form_10
/-- a new form's numbers and rows -/
def kU0 : kO := (fun _ => 0, fun k => if k = 6 then kfill 5 (-1) (fun _ => 0) else if k = 13 ∨ k = 14 then kfill 64 (-1) (fun _ => 0) else fun _ => 0)
def kNew (n : Nat) (S : kS) : kS := va_up (kpI S 0 1 (nI n + 1)) (6 + n) kU0
def kadq (ad : Nat → Nat) (N : Nat) (q : Nat → Nat) (q0 : Nat) : Nat → Nat := fun d => if d < N then ad d else if d = N then q0 else q (d - N)
theorem kadq_lt {ad : Nat → Nat} {N : Nat} {q : Nat → Nat} {q0 d : Nat} (h : d < N) : kadq ad N q q0 d = ad d := by simp [kadq, h]
theorem kadq_0 {ad : Nat → Nat} {N : Nat} {q : Nat → Nat} {q0 : Nat} : kadq ad N q q0 N = q0 := by simp [kadq]
theorem kadq_s {ad : Nat → Nat} {N : Nat} {q : Nat → Nat} {q0 j : Nat} (h : 0 < j) : kadq ad N q q0 (N + j) = q j := by
  unfold kadq
  rw [if_neg (by omega), if_neg (by omega)]
  congr 1
  omega
theorem kfl_congr {ad ad' : Nat → Nat} {u : kO} {b : Nat} {l : List (Option Nat)} (h : ∀ (k j : Nat), l[k]? = some (some j) → ad' (b + j) = ad (b + j)) : kfl ad' u b l 0 = kfl ad u b l 0 := by
  apply List.ext_getElem?
  intro i
  rw [kfl_get, kfl_get]
  cases hz : l[i]? with
  | none => rfl
  | some x => cases x with
    | none => rfl
    | some j => simp [h i j hz]
theorem kfk_lt : ∀ o, o < 6 → ∀ k, k < 45 → ∀ j, (kfk (kci o))[k]? = some (some j) → kbo o + j < 55 := by
  intro o ho k hk j hj
  have key : ∀ o, o < 6 → ∀ k, k < 45 → kbo o + (((kfk (kci o)).getD k none).getD 0) < 55 := by decide +kernel
  have := key o ho k hk
  simpa [List.getD_eq_getElem?_getD, hj] using this
theorem kfk_lt0 : ∀ k, k < 15 → ∀ j, (kfk 0)[k]? = some (some j) → j < 14 := by
  intro k hk j hj
  have key : ∀ k, k < 15 → (((kfk 0).getD k none).getD 0) < 14 := by decide +kernel
  have := key k hk
  simpa [List.getD_eq_getElem?_getD, hj] using this
theorem kfk_len (ci k : Nat) (j : Option Nat) (h : (kfk ci)[k]? = some j) : k < 45 := by
  have h1 := (List.getElem?_eq_some_iff.mp h).1
  have h2 : (kfk ci).length ≤ 45 := by
    unfold kfk
    split <;> simp
  omega
theorem kfk_len0 (k : Nat) (j : Option Nat) (h : (kfk 0)[k]? = some j) : k < 15 := by
  have h1 := (List.getElem?_eq_some_iff.mp h).1
  have h2 : (kfk 0).length = 15 := rfl
  omega
theorem kloc_o {d n : Nat} (h : d < 55 + 14 * n) : (kloc d).1 < 6 + n := by
  rcases Nat.lt_or_ge d 55 with q | q
  · have key : ∀ d, d < 55 → (kloc d).1 < 6 := by decide +kernel
    have := key d q
    omega
  · unfold kloc
    rw [if_neg (by omega)]
    dsimp only
    omega
theorem kgrow_lt (G : kG) (q : Nat → Nat) (q0 : Nat) {n : Nat} (S : kS) (hN : kg_N G = 55 + 14 * n) (hn : n < 3) (hx : kI S 0 1 = nI n) (d : Nat) (hd : d < kg_N G) :
    va_up (va_up (kgl G n S) 1 (.inl (kg_F G, 3, .inr (.inr (.inr (.inr (va_up (krf (kg_ad G) n) n (some q0)))))))) 0 (.inr (5, (kfl (kg_ad G) (S 0) (kbo 0) (kfk 5) 0).set 1 (.int (nI n + 1)))) d
      = kgl (kg_b G, kadq (kg_ad G) (kg_N G) q q0, kg_N G + 14, kg_D G, kg_I G, kg_Z G, kg_F G) (n + 1) (kNew n S) d := by
  by_cases h0 : d = 0
  · subst h0
    rw [va_up_self]
    have e := kgl_obj (kg_b G, kadq (kg_ad G) (kg_N G) q q0, kg_N G + 14, kg_D G, kg_I G, kg_Z G, kg_F G) (n + 1) (kNew n S) 0
    refine Eq.trans ?_ e.symm
    show Sum.inr (5, _) = Sum.inr (5, kfl (kadq (kg_ad G) (kg_N G) q q0) (kNew n S 0) (kbo 0) (kfk 5) 0)
    congr 2
    rw [kfl_set (kg_ad G) (S 0) (kbo 0) (kfk 5) (k := 1) (nI n + 1) rfl]
    have e2 : kNew n S 0 = (va_up (S 0).1 1 (nI n + 1), (S 0).2) := by
      unfold kNew
      rw [va_up_ne _ _ (by omega)]
      simp [kpI, va_up]
    rw [e2]
    exact (kfl_congr (fun k j hj => kadq_lt (by have := kfk_lt 0 (by decide) k (kfk_len _ _ _ hj) j hj; omega))).symm
  · rw [va_up_ne _ _ h0]
    by_cases h1 : d = 1
    · subst h1
      rw [va_up_self]
      show _ = Sum.inl (kg_F G, 3, Sum.inr (Sum.inr (Sum.inr (Sum.inr (krf _ (n + 1))))))
      congr 7
      funext i
      unfold krf
      by_cases hi : i = n
      · subst hi
        rw [va_up_self, if_pos (by omega), kbo_form, ← hN]
        show some q0 = some (kadq (kg_ad G) (kg_N G) q q0 (kg_N G))
        rw [kadq_0]
      · rw [va_up_ne _ _ hi]
        by_cases h2 : i < n
        · rw [if_pos h2, if_pos (by omega), kbo_form]
          show _ = some (kadq (kg_ad G) (kg_N G) q q0 (55 + 14 * i))
          rw [kadq_lt (by omega)]
        · rw [if_neg h2, if_neg (by omega)]
    · rw [va_up_ne _ _ h1]
      have ho := kloc_o (d := d) (n := n) (by omega)
      have hi := kinv d
      unfold kgl kcell
      have e2 : ∀ o, o < 6 + n → o ≠ 0 → kNew n S o = S o := fun o h1 h2 => by
        unfold kNew
        rw [va_up_ne _ _ (by omega)]
        simp [kpI, va_up, h2]
      have e3 : ∀ o, o < 6 + n → (kNew n S o).2 = (S o).2 := fun o h1 => by
        by_cases h2 : o = 0
        · subst h2
          unfold kNew
          rw [va_up_ne _ _ (by omega)]
          simp [kpI, va_up]
        · rw [e2 o h1 h2]
      revert hi
      unfold kpos
      cases hz : (kloc d).2 with
      | none =>
        intro hi
        dsimp only at hi ⊢
        have hne : (kloc d).1 ≠ 0 := fun e => h0 (by rw [hi, e]; rfl)
        rw [e2 _ ho hne]
        congr 2
        refine (kfl_congr (fun k j hj => kadq_lt ?_)).symm
        rcases ko_cases (kloc d).1 with q1 | ⟨i, e⟩
        · have := kfk_lt _ q1 k (kfk_len _ _ _ hj) j hj
          omega
        · rw [e, kci_form] at hj
          have := kfk_lt0 k (kfk_len0 _ _ hj) j hj
          rw [e, kbo_form]
          omega
      | some k =>
        intro hi
        dsimp only at hi ⊢
        by_cases hz0 : (kloc d).1 = 0 ∧ k = 0
        · exfalso
          apply h1
          rw [hi, hz0.1, hz0.2]
          rfl
        · rw [if_neg hz0, if_neg hz0, e3 _ ho]
theorem kU_perm {Z : kZ} {cc : ByteArray} {ws ws' : va_W} {lv : List (Option Value)} {st : List Value} {pc : Nat} (idx : Nat → Nat) (h : ∀ i q, ws'[i]? = some q → ws[idx i]? = some q) (hinj : ∀ i j, i < ws'.length → j < ws'.length → idx i = idx j → i = j) (kk : kU Z cc ws' lv st pc) : kU Z cc ws lv st pc := by
  obtain ⟨X, own, nL, ret, nm, β, D, tys, R, cs, Q⟩ := Z
  intro F H locs ls hP hD hS hL
  refine kk F H locs ls (fun k q hq => hP (idx k) q (h k q hq)) ⟨fun i j p q hp hq hpq => ?_, fun k q hq => hD.2 (idx k) q (h k q hq)⟩ hS hL
  exact hinj i j (List.getElem?_eq_some_iff.mp hp).1 (List.getElem?_eq_some_iff.mp hq).1 (hD.1 _ _ p q (h i p hp) (h j q hq) hpq)
set_option maxRecDepth 10000 in
theorem okX5_form {l : Launch} {β : Nat} {D : va_G} {cI cZ cF : ClassId} {ad : Nat → Nat} {n : Nat} (d : Nat) {S : kS} (hn : n < 3) (hx : kI S 0 1 = nI n) : kCt l β D [(cI, .int), (cZ, .boolean), (cF, .object RX0)] (d + 2) 14 203 mX5_form [.ref (ad (kbo 0))] (kwl ad (55 + 14 * n) (kgl (β, ad, 55 + 14 * n, D, cI, cZ, cF) n S)) (some (.int (nI n)))
    (fun tys' ws' => tys' = [(cI, .int), (cZ, .boolean), (cF, .object RX0)] ∧ ∃ ad' : Nat → Nat, (∀ d, d < 55 + 14 * n → ad' d = ad d) ∧ ws' = kwl ad' (55 + 14 * (n + 1)) (kgl (β, ad', 55 + 14 * (n + 1), D, cI, cZ, cF) (n + 1) (kNew n S))) := by
  refine kCt_of RX5 [some (.ref (ad (kbo 0)))] rfl (by decide +kernel) rfl rfl rfl rfl (fun X hX => ?_)
  have e0 : (kwl ad (55 + 14 * n) (kgl (β, ad, 55 + 14 * n, D, cI, cZ, cF) n S))[0]? = some (ad 0, .inr (5, kfl ad (S 0) (kbo 0) (kfk 5) 0)) := by rw [kwl_get (by omega)]; rfl
  have e1 : (kwl ad (55 + 14 * n) (kgl (β, ad, 55 + 14 * n, D, cI, cZ, cF) n S))[1]? = some (ad 1, .inl (cF, 3, .inr (.inr (.inr (.inr (krf ad n)))))) := by rw [kwl_get (by omega)]; rfl
  have ef : (kfl ad (S 0) (kbo 0) (kfk 5) 0)[1]? = some (.int (nI n)) := by
    rw [kfl_get]
    show some (Value.int ((S 0).1 (0 + 1))) = _
    rw [← hx]
    rfl
  have el : (kfl ad (S 0) (kbo 0) (kfk 5) 0).length = 14 := rfl
  refine kU_aloadn 1 dX5_form_0 rfl rfl ?_
  refine kU_get (ci := 5) 1 0 4 dX5_form_1 inlX5 rfl rfl (wi_r1 _ (List.mem_of_getElem? (i := 14) rfl)) e0 ef rfl ?_
  refine kU_iconst 5 dX5_form_4 ic_3 rfl ?_
  refine kU_icmp_lt_t 11 dX5_form_5 (by decide) (show nI n < nI 3 from nI_lt hn (by decide)) ?_
  refine kU_aloadn 12 dX5_form_11 rfl rfl ?_
  refine kU_get (ci := 5) (v := .ref (ad 1)) 0 0 15 dX5_form_12 inlX5 rfl rfl (wi_r1 _ (List.mem_of_getElem? (i := 13) rfl)) e0 rfl rfl ?_
  refine kU_aloadn 16 dX5_form_15 rfl rfl ?_
  refine kU_get (ci := 5) 1 0 19 dX5_form_16 inlX5 rfl rfl (wi_r1 _ (List.mem_of_getElem? (i := 14) rfl)) e0 ef rfl ?_
  refine kU_new (ci := 0) (ty := tyX0) [.int 0, .null, .null, .null, .null, .null, .null, .int 0, .null, .null, .null, .null, .null, .null, .null] 22 dX5_form_19 inlX0 tyX0_ok (wi_r1 _ (List.mem_of_getElem? (i := 12) rfl)) (wi_r6 _ (List.mem_of_getElem? (i := 0) rfl)) (wi_r6 _ (List.mem_of_getElem? (i := 1) rfl)) rfl (by decide +kernel) (by simp [kcr]) (by simp [kcr]) rfl (fun q0 => ?_)
  refine kU_dup 23 dX5_form_22 rfl rfl ?_
  refine kU_callI 26 dX5_form_23 (ctX0 d q0 _) kmsX0_init rfl rfl (wi_r6 _ (List.mem_of_getElem? (i := 3) rfl)) (wi_r6 _ (List.mem_of_getElem? (i := 2) rfl)) rfl ⟨by simp only [kcr]; omega, by simp only [kcr]; omega⟩ (by simp [kcr]) rfl (fun tys' ws' hpost => ?_)
  obtain ⟨rfl, q, rfl⟩ := hpost
  refine kU_aast 2 15 13 (((q 13), .inl (cI, 64, .inl (kfill 64 (-1) (fun _ => 0)))) :: ((q 12), .inl (cI, 64, .inl (kfill 64 (-1) (fun _ => 0)))) :: ((q 11), .inl (cI, 6, .inl (fun _ => 0))) :: ((q 10), .inl (cI, 6, .inl (fun _ => 0))) :: ((q 9), .inl (cI, 6, .inl (fun _ => 0))) :: ((q 8), .inl (cI, 6, .inl (fun _ => 0))) :: ((q 7), .inl (cI, 6, .inl (fun _ => 0))) :: ((q 6), .inl (cI, 5, .inl (kfill 5 (-1) (fun _ => 0)))) :: ((q 5), .inl (cI, 5, .inl (fun _ => 0))) :: ((q 4), .inl (cI, 5, .inl (fun _ => 0))) :: ((q 3), .inl (cI, 5, .inl (fun _ => 0))) :: ((q 2), .inl (cI, 5, .inl (fun _ => 0))) :: ((q 1), .inl (cI, 5, .inl (fun _ => 0))) :: (q0, .inr (0, [.int (0), .ref (q 1), .ref (q 2), .ref (q 3), .ref (q 4), .ref (q 5), .ref (q 6), .int (0), .ref (q 7), .ref (q 8), .ref (q 9), .ref (q 10), .ref (q 11), .ref (q 12), .ref (q 13)])) :: (kwl ad (55 + 14 * n) (kgl (β, ad, 55 + 14 * n, D, cI, cZ, cF) n S)).set 1 (ad 1, .inl (cF, 3, .inr (.inr (.inr (.inr (va_up (krf ad n) n (some q0)))))))) 27 dX5_form_26 rfl e1 rfl (kin_nI hn (by decide)) (by rw [nI_clamp (by omega)]; rfl) rfl ?_
  have hs0 : ((kwl ad (55 + 14 * n) (kgl (β, ad, 55 + 14 * n, D, cI, cZ, cF) n S)).set 1 (ad 1, .inl (cF, 3, .inr (.inr (.inr (.inr (va_up (krf ad n) n (some q0)))))))) = kwl ad (55 + 14 * n) (va_up (kgl (β, ad, 55 + 14 * n, D, cI, cZ, cF) n S) 1 (.inl (cF, 3, .inr (.inr (.inr (.inr (va_up (krf ad n) n (some q0)))))))) := kwl_set
  rw [hs0]
  have e2 : (kwl ad (55 + 14 * n) (va_up (kgl (β, ad, 55 + 14 * n, D, cI, cZ, cF) n S) 1 (.inl (cF, 3, .inr (.inr (.inr (.inr (va_up (krf ad n) n (some q0)))))))))[0]? = some (ad 0, .inr (5, kfl ad (S 0) (kbo 0) (kfk 5) 0)) := by rw [kwl_get (by omega)]; rfl
  refine kU_aloadn 28 dX5_form_27 rfl rfl ?_
  refine kU_dup 29 dX5_form_28 rfl rfl ?_
  refine kU_get (ci := 5) 1 14 32 dX5_form_29 inlX5 rfl rfl (wi_r1 _ (List.mem_of_getElem? (i := 14) rfl)) e2 ef rfl ?_
  refine kU_iconst 33 dX5_form_32 ic_1 rfl ?_
  refine kU_iadd 34 dX5_form_33 rfl ?_
  refine kU_put (ci := 5) 1 14 (((q 13), .inl (cI, 64, .inl (kfill 64 (-1) (fun _ => 0)))) :: ((q 12), .inl (cI, 64, .inl (kfill 64 (-1) (fun _ => 0)))) :: ((q 11), .inl (cI, 6, .inl (fun _ => 0))) :: ((q 10), .inl (cI, 6, .inl (fun _ => 0))) :: ((q 9), .inl (cI, 6, .inl (fun _ => 0))) :: ((q 8), .inl (cI, 6, .inl (fun _ => 0))) :: ((q 7), .inl (cI, 6, .inl (fun _ => 0))) :: ((q 6), .inl (cI, 5, .inl (kfill 5 (-1) (fun _ => 0)))) :: ((q 5), .inl (cI, 5, .inl (fun _ => 0))) :: ((q 4), .inl (cI, 5, .inl (fun _ => 0))) :: ((q 3), .inl (cI, 5, .inl (fun _ => 0))) :: ((q 2), .inl (cI, 5, .inl (fun _ => 0))) :: ((q 1), .inl (cI, 5, .inl (fun _ => 0))) :: (q0, .inr (0, [.int (0), .ref (q 1), .ref (q 2), .ref (q 3), .ref (q 4), .ref (q 5), .ref (q 6), .int (0), .ref (q 7), .ref (q 8), .ref (q 9), .ref (q 10), .ref (q 11), .ref (q 12), .ref (q 13)])) :: (kwl ad (55 + 14 * n) (va_up (kgl (β, ad, 55 + 14 * n, D, cI, cZ, cF) n S) 1 (.inl (cF, 3, .inr (.inr (.inr (.inr (va_up (krf ad n) n (some q0)))))))) ).set 0 (ad 0, .inr (5, (kfl ad (S 0) (kbo 0) (kfk 5) 0).set 1 (.int (nI n + 1))))) 37 dX5_form_34 inlX5 tyX5_ok nmX5 rfl rfl (wi_r1 _ (List.mem_of_getElem? (i := 14) rfl)) rfl rfl rfl e2 rfl rfl rfl ?_
  have hs1 : ((kwl ad (55 + 14 * n) (va_up (kgl (β, ad, 55 + 14 * n, D, cI, cZ, cF) n S) 1 (.inl (cF, 3, .inr (.inr (.inr (.inr (va_up (krf ad n) n (some q0)))))))) ).set 0 (ad 0, .inr (5, (kfl ad (S 0) (kbo 0) (kfk 5) 0).set 1 (.int (nI n + 1))))) = kwl ad (55 + 14 * n) (va_up (va_up (kgl (β, ad, 55 + 14 * n, D, cI, cZ, cF) n S) 1 (.inl (cF, 3, .inr (.inr (.inr (.inr (va_up (krf ad n) n (some q0))))))) ) 0 (.inr (5, (kfl ad (S 0) (kbo 0) (kfk 5) 0).set 1 (.int (nI n + 1))))) := kwl_set
  rw [hs1]
  have e3 : (kwl ad (55 + 14 * n) (va_up (va_up (kgl (β, ad, 55 + 14 * n, D, cI, cZ, cF) n S) 1 (.inl (cF, 3, .inr (.inr (.inr (.inr (va_up (krf ad n) n (some q0))))))) ) 0 (.inr (5, (kfl ad (S 0) (kbo 0) (kfk 5) 0).set 1 (.int (nI n + 1))))))[0]? = some (ad 0, .inr (5, (kfl ad (S 0) (kbo 0) (kfk 5) 0).set 1 (.int (nI n + 1)))) := by rw [kwl_get (by omega), va_up_self]
  refine kU_aloadn 38 dX5_form_37 rfl rfl ?_
  refine kU_get (ci := 5) (v := .int (nI n + 1)) 1 14 41 dX5_form_38 inlX5 rfl rfl (wi_r1 _ (List.mem_of_getElem? (i := 14) rfl)) e3 rfl rfl ?_
  refine kU_iconst 42 dX5_form_41 ic_1 rfl ?_
  refine kU_isub 43 dX5_form_42 rfl ?_
  have e4 : nI n + 1 - 1 = nI n := by rw [nI_1, nI_pred]
  rw [e4]
  refine kU_perm (ws' := kwl (kadq ad (55 + 14 * n) q q0) (55 + 14 * (n + 1)) (kgl (β, kadq ad (55 + 14 * n) q q0, 55 + 14 * (n + 1), D, cI, cZ, cF) (n + 1) (kNew n S))) (fun i => if i < 55 + 14 * n then 14 + i else 13 - (i - (55 + 14 * n))) ?_ ?_ ?_
  · intro i p hp
    obtain ⟨hi, rfl⟩ := kwl_of hp
    by_cases h : i < 55 + 14 * n
    · rw [if_pos h]
      have hg := kgrow_lt (β, ad, 55 + 14 * n, D, cI, cZ, cF) q q0 S rfl hn hx i h
      rw [kadq_lt h]
      show _ = some (ad i, kgl (β, kadq ad (55 + 14 * n) q q0, 55 + 14 * n + 14, D, cI, cZ, cF) (n + 1) (kNew n S) i)
      rw [← hg]
      have := kwl_get (ad := ad) (f := va_up (va_up (kgl (β, ad, 55 + 14 * n, D, cI, cZ, cF) n S) 1 (.inl (cF, 3, .inr (.inr (.inr (.inr (va_up (krf ad n) n (some q0)))))))) 0 (.inr (5, (kfl ad (S 0) (kbo 0) (kfk 5) 0).set 1 (.int (nI n + 1))))) h
      rw [Nat.add_comm 14 i]
      exact this
    · rw [if_neg h]
      obtain ⟨j, rfl⟩ : ∃ j, i = 55 + 14 * n + j := ⟨i - (55 + 14 * n), by omega⟩
      have hj : j < 14 := by omega
      have hsub : 55 + 14 * n + j - (55 + 14 * n) = j := by omega
      rw [hsub]
      have hnew : kNew n S (6 + n) = kU0 := by unfold kNew; rw [va_up_self]
      have hk : kgl (β, kadq ad (55 + 14 * n) q q0, 55 + 14 * (n + 1), D, cI, cZ, cF) (n + 1) (kNew n S) (55 + 14 * n + j) = kcell (β, kadq ad (55 + 14 * n) q q0, 55 + 14 * (n + 1), D, cI, cZ, cF) (n + 1) (kNew n S) (6 + n, kft.getD j none) := by
        unfold kgl kloc
        rw [if_neg (by omega)]
        have d1 : (55 + 14 * n + j - 55) / 14 = n := by omega
        have d2 : (55 + 14 * n + j - 55) % 14 = j := by omega
        rw [d1, d2]
      rw [hk]
      unfold kcell
      have hne : ∀ k, ¬ (6 + n = 0 ∧ k = 0) := fun k => by omega
      match j, hj with
      | 0, _ =>
        show some (q0, _) = some (kadq ad (55 + 14 * n) q q0 (55 + 14 * n + 0), Sum.inr (kci (6 + n), kfl (kadq ad (55 + 14 * n) q q0) (kNew n S (6 + n)) (kbo (6 + n)) (kfk (kci (6 + n))) 0))
        rw [hnew, kci_form, kbo_form, Nat.add_zero, kadq_0]
        simp only [kfk, kfl, kadq_s (show 0 < 1 by decide), kadq_s (show 0 < 2 by decide), kadq_s (show 0 < 3 by decide), kadq_s (show 0 < 4 by decide), kadq_s (show 0 < 5 by decide), kadq_s (show 0 < 6 by decide), kadq_s (show 0 < 7 by decide), kadq_s (show 0 < 8 by decide), kadq_s (show 0 < 9 by decide), kadq_s (show 0 < 10 by decide), kadq_s (show 0 < 11 by decide), kadq_s (show 0 < 12 by decide), kadq_s (show 0 < 13 by decide)]
        rfl
      | 1, _ =>
        show some (q 1, _) = some (kadq ad (55 + 14 * n) q q0 (55 + 14 * n + 1), if 6 + n = 0 ∧ 1 = 0 then _ else Sum.inl (if ((kln (kci (6 + n))).getD 1 (false, 0)).1 = true then cZ else cI, ((kln (kci (6 + n))).getD 1 (false, 0)).2, Sum.inl ((kNew n S (6 + n)).2 1)))
        rw [if_neg (hne 1), hnew, kci_form, kadq_s (by decide)]
        rfl
      | 2, _ =>
        show some (q 2, _) = some (kadq ad (55 + 14 * n) q q0 (55 + 14 * n + 2), if 6 + n = 0 ∧ 2 = 0 then _ else Sum.inl (if ((kln (kci (6 + n))).getD 2 (false, 0)).1 = true then cZ else cI, ((kln (kci (6 + n))).getD 2 (false, 0)).2, Sum.inl ((kNew n S (6 + n)).2 2)))
        rw [if_neg (hne 2), hnew, kci_form, kadq_s (by decide)]
        rfl
      | 3, _ =>
        show some (q 3, _) = some (kadq ad (55 + 14 * n) q q0 (55 + 14 * n + 3), if 6 + n = 0 ∧ 3 = 0 then _ else Sum.inl (if ((kln (kci (6 + n))).getD 3 (false, 0)).1 = true then cZ else cI, ((kln (kci (6 + n))).getD 3 (false, 0)).2, Sum.inl ((kNew n S (6 + n)).2 3)))
        rw [if_neg (hne 3), hnew, kci_form, kadq_s (by decide)]
        rfl
      | 4, _ =>
        show some (q 4, _) = some (kadq ad (55 + 14 * n) q q0 (55 + 14 * n + 4), if 6 + n = 0 ∧ 4 = 0 then _ else Sum.inl (if ((kln (kci (6 + n))).getD 4 (false, 0)).1 = true then cZ else cI, ((kln (kci (6 + n))).getD 4 (false, 0)).2, Sum.inl ((kNew n S (6 + n)).2 4)))
        rw [if_neg (hne 4), hnew, kci_form, kadq_s (by decide)]
        rfl
      | 5, _ =>
        show some (q 5, _) = some (kadq ad (55 + 14 * n) q q0 (55 + 14 * n + 5), if 6 + n = 0 ∧ 5 = 0 then _ else Sum.inl (if ((kln (kci (6 + n))).getD 5 (false, 0)).1 = true then cZ else cI, ((kln (kci (6 + n))).getD 5 (false, 0)).2, Sum.inl ((kNew n S (6 + n)).2 5)))
        rw [if_neg (hne 5), hnew, kci_form, kadq_s (by decide)]
        rfl
      | 6, _ =>
        show some (q 6, _) = some (kadq ad (55 + 14 * n) q q0 (55 + 14 * n + 6), if 6 + n = 0 ∧ 6 = 0 then _ else Sum.inl (if ((kln (kci (6 + n))).getD 6 (false, 0)).1 = true then cZ else cI, ((kln (kci (6 + n))).getD 6 (false, 0)).2, Sum.inl ((kNew n S (6 + n)).2 6)))
        rw [if_neg (hne 6), hnew, kci_form, kadq_s (by decide)]
        rfl
      | 7, _ =>
        show some (q 7, _) = some (kadq ad (55 + 14 * n) q q0 (55 + 14 * n + 7), if 6 + n = 0 ∧ 8 = 0 then _ else Sum.inl (if ((kln (kci (6 + n))).getD 8 (false, 0)).1 = true then cZ else cI, ((kln (kci (6 + n))).getD 8 (false, 0)).2, Sum.inl ((kNew n S (6 + n)).2 8)))
        rw [if_neg (hne 8), hnew, kci_form, kadq_s (by decide)]
        rfl
      | 8, _ =>
        show some (q 8, _) = some (kadq ad (55 + 14 * n) q q0 (55 + 14 * n + 8), if 6 + n = 0 ∧ 9 = 0 then _ else Sum.inl (if ((kln (kci (6 + n))).getD 9 (false, 0)).1 = true then cZ else cI, ((kln (kci (6 + n))).getD 9 (false, 0)).2, Sum.inl ((kNew n S (6 + n)).2 9)))
        rw [if_neg (hne 9), hnew, kci_form, kadq_s (by decide)]
        rfl
      | 9, _ =>
        show some (q 9, _) = some (kadq ad (55 + 14 * n) q q0 (55 + 14 * n + 9), if 6 + n = 0 ∧ 10 = 0 then _ else Sum.inl (if ((kln (kci (6 + n))).getD 10 (false, 0)).1 = true then cZ else cI, ((kln (kci (6 + n))).getD 10 (false, 0)).2, Sum.inl ((kNew n S (6 + n)).2 10)))
        rw [if_neg (hne 10), hnew, kci_form, kadq_s (by decide)]
        rfl
      | 10, _ =>
        show some (q 10, _) = some (kadq ad (55 + 14 * n) q q0 (55 + 14 * n + 10), if 6 + n = 0 ∧ 11 = 0 then _ else Sum.inl (if ((kln (kci (6 + n))).getD 11 (false, 0)).1 = true then cZ else cI, ((kln (kci (6 + n))).getD 11 (false, 0)).2, Sum.inl ((kNew n S (6 + n)).2 11)))
        rw [if_neg (hne 11), hnew, kci_form, kadq_s (by decide)]
        rfl
      | 11, _ =>
        show some (q 11, _) = some (kadq ad (55 + 14 * n) q q0 (55 + 14 * n + 11), if 6 + n = 0 ∧ 12 = 0 then _ else Sum.inl (if ((kln (kci (6 + n))).getD 12 (false, 0)).1 = true then cZ else cI, ((kln (kci (6 + n))).getD 12 (false, 0)).2, Sum.inl ((kNew n S (6 + n)).2 12)))
        rw [if_neg (hne 12), hnew, kci_form, kadq_s (by decide)]
        rfl
      | 12, _ =>
        show some (q 12, _) = some (kadq ad (55 + 14 * n) q q0 (55 + 14 * n + 12), if 6 + n = 0 ∧ 13 = 0 then _ else Sum.inl (if ((kln (kci (6 + n))).getD 13 (false, 0)).1 = true then cZ else cI, ((kln (kci (6 + n))).getD 13 (false, 0)).2, Sum.inl ((kNew n S (6 + n)).2 13)))
        rw [if_neg (hne 13), hnew, kci_form, kadq_s (by decide)]
        rfl
      | 13, _ =>
        show some (q 13, _) = some (kadq ad (55 + 14 * n) q q0 (55 + 14 * n + 13), if 6 + n = 0 ∧ 14 = 0 then _ else Sum.inl (if ((kln (kci (6 + n))).getD 14 (false, 0)).1 = true then cZ else cI, ((kln (kci (6 + n))).getD 14 (false, 0)).2, Sum.inl ((kNew n S (6 + n)).2 14)))
        rw [if_neg (hne 14), hnew, kci_form, kadq_s (by decide)]
        rfl
      | j + 14, hj => omega
  · intro i j hi hj hij
    have hl : ∀ f, (kwl (kadq ad (55 + 14 * n) q q0) (55 + 14 * (n + 1)) f).length = 55 + 14 * (n + 1) := fun f => by simp [kwl]
    rw [hl] at hi hj
    try dsimp only at hij
    split at hij <;> split at hij <;> omega
  · exact kU_iret dX5_form_43 ⟨rfl, kadq ad (55 + 14 * n) q q0, fun d hd => kadq_lt hd, rfl⟩
