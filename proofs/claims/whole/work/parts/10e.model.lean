abbrev mX6_in : kM := (yX6_in, cX6_in, 3, (some .boolean))
theorem kmtX6_in : kMt mX6_in 3 := ⟨⟨(wi_r8 _ (List.mem_of_getElem? (i := 8) rfl)), (wi_r1 _ (List.mem_of_getElem? (i := 5) rfl)), ⟨by decide +kernel, by decide +kernel, by decide +kernel⟩, by decide⟩, (wi_r8 _ (List.mem_of_getElem? (i := 7) rfl))⟩
def FX6_in_J15 (S : kS) (s0 : Int32) : Option (Int32) :=
  kgd (kz s0) <| some s0
def FX6_in_J14 (S : kS) : Option (Int32) :=
  FX6_in_J15 S (0 : Int32)
def FX6_in (S : kS) (a1 : Int32) (a2 : Int32) (a3 : Int32) : Option (Int32) :=
  if a1 < a2 then (FX6_in_J14 S) else (if a3 < a1 then (FX6_in_J14 S) else (FX6_in_J15 S (1 : Int32)))
theorem TX6_in_J15 {G : kG} {n : Nat} {d : Nat} {X : kX} (hG : kg_N G = 55 + 14 * n) {S : kS} {s0 : Int32} {res : Int32} (h : FX6_in_J15 S s0 = some res) : kV (X, RX6, 3, (some .boolean), G, krm (d + 0), (0, 0), kQ X G (some (.int res)) (kgl G n S)) cX6_in (kgl G n S) [none, none, none] [.int s0] 15 := by
  unfold FX6_in_J15 at h
  obtain ⟨hz, h⟩ := kgd_ex h
  cases h
  exact kV_zret dX6_in_15 (of_decide_eq_true hz)
theorem TX6_in_J14 {G : kG} {n : Nat} {d : Nat} {X : kX} (hG : kg_N G = 55 + 14 * n) {S : kS} {res : Int32} (h : FX6_in_J14 S = some res) : kV (X, RX6, 3, (some .boolean), G, krm (d + 0), (0, 0), kQ X G (some (.int res)) (kgl G n S)) cX6_in (kgl G n S) [none, none, none] [] 14 := by
  unfold FX6_in_J14 at h
  refine kV_iconst 15 dX6_in_14 ic_0 rfl ?_
  refine kV_drop [false, false, false] rfl ?_
  exact TX6_in_J15 hG h
theorem okX6_in {l : Launch} {G : kG} {n : Nat} (hG : kg_N G = 55 + 14 * n) (d : Nat) {S : kS} {a1 : Int32} {a2 : Int32} {a3 : Int32} {res : Int32} (h : FX6_in S a1 a2 a3 = some res) : kEv l G (d + 0) mX6_in [.int a1, .int a2, .int a3] (kgl G n S) (some (.int res)) (kgl G n S) := by
  refine kEv_of RX6 [some (.int a1), some (.int a2), some (.int a3)] rfl (by decide +kernel) rfl rfl rfl rfl (fun X hX => ?_)
  subst hX
  unfold FX6_in at h
  refine kV_iloadn 1 dX6_in_0 rfl rfl ?_
  refine kV_iloadn 2 dX6_in_1 rfl rfl ?_
  rcases kif_ex h with ⟨hc, h⟩ | ⟨hc, h⟩
  · refine kV_icmp_lt_t 14 dX6_in_2 (by decide) hc ?_
    clear hc
    refine kV_drop [false, false, false] rfl ?_
    exact TX6_in_J14 hG h
  · refine kV_icmp_lt_f 14 5 dX6_in_2 (by decide) hc rfl ?_
    clear hc
    refine kV_iloadn 6 dX6_in_5 rfl rfl ?_
    refine kV_iloadn 7 dX6_in_6 rfl rfl ?_
    rcases kif_ex h with ⟨hc, h⟩ | ⟨hc, h⟩
    · refine kV_icmp_gt_t 14 dX6_in_7 (by decide) hc ?_
      clear hc
      refine kV_drop [false, false, false] rfl ?_
      exact TX6_in_J14 hG h
    · refine kV_icmp_gt_f 14 10 dX6_in_7 (by decide) hc rfl ?_
      clear hc
      refine kV_iconst 11 dX6_in_10 ic_1 rfl ?_
      refine kV_goto 15 dX6_in_11 (by decide) ?_
      refine kV_drop [false, false, false] rfl ?_
      exact TX6_in_J15 hG h
abbrev mX6_isForm : kM := (yX6_isForm, cX6_isForm, 2, (some .boolean))
theorem kmvX6_isForm : kMv mX6_isForm 1 6 := ⟨⟨(wi_r8 _ (List.mem_of_getElem? (i := 5) rfl)), (wi_r1 _ (List.mem_of_getElem? (i := 5) rfl)), ⟨by decide +kernel, by decide +kernel, by decide +kernel⟩, by decide⟩, (wi_r8 _ (List.mem_of_getElem? (i := 3) rfl)), (wi_r8 _ (List.mem_of_getElem? (i := 4) rfl)), rfl⟩
def FX6_isForm (S : kS) (a1 : Int32) : Option (Int32) :=
  kb (kI S 5 1) fun x1 => (FX6_in S a1 (0 : Int32) (x1 - (1 : Int32))).bind fun x2 => kgd (kz x2) <| some x2
theorem okX6_isForm {l : Launch} {G : kG} {n : Nat} (hG : kg_N G = 55 + 14 * n) (d : Nat) {S : kS} {a1 : Int32} {res : Int32} (h : FX6_isForm S a1 = some res) : kEv l G (d + 1) mX6_isForm [.ref (kg_ad G (kbo 5)), .int a1] (kgl G n S) (some (.int res)) (kgl G n S) := by
  refine kEv_of RX6 [some (.ref (kg_ad G (kbo 5))), some (.int a1)] rfl (by decide +kernel) rfl rfl rfl rfl (fun X hX => ?_)
  subst hX
  unfold FX6_isForm at h
  refine kV_iloadn 1 dX6_isForm_0 rfl rfl ?_
  refine kV_iconst 2 dX6_isForm_1 ic_0 rfl ?_
  refine kV_aloadn 3 dX6_isForm_2 rfl rfl ?_
  obtain ⟨x1, hx, h⟩ := kb_ex h
  refine rg6_111 6 dX6_isForm_3 (kOk_of hG rfl) rfl hx rfl ?_
  clear hx
  refine kV_iconst 7 dX6_isForm_6 ic_1 rfl ?_
  refine kV_isub 8 dX6_isForm_7 rfl ?_
  obtain ⟨x2, hx, h⟩ := kbi_ex h
  refine kC_S 11 [] [.int x2] dX6_isForm_8 (okX6_in hG d  hx) kmtX6_in (wi_r8 _ (List.mem_of_getElem? (i := 6) rfl)) rfl rfl rfl rfl rfl ?_
  clear hx
  obtain ⟨hz, h⟩ := kgd_ex h
  cases h
  exact kV_zret dX6_isForm_11 (of_decide_eq_true hz)
abbrev mX6_isPlace : kM := (yX6_isPlace, cX6_isPlace, 3, (some .boolean))
theorem kmvX6_isPlace : kMv mX6_isPlace 2 6 := ⟨⟨(wi_r9 _ (List.mem_of_getElem? (i := 14) rfl)), (wi_r1 _ (List.mem_of_getElem? (i := 5) rfl)), ⟨by decide +kernel, by decide +kernel, by decide +kernel⟩, by decide⟩, (wi_r9 _ (List.mem_of_getElem? (i := 12) rfl)), (wi_r9 _ (List.mem_of_getElem? (i := 13) rfl)), rfl⟩
def FX6_isPlace_J29 (S : kS) (s0 : Int32) : Option (Int32) :=
  kgd (kz s0) <| some s0
def FX6_isPlace_J28 (S : kS) : Option (Int32) :=
  FX6_isPlace_J29 S (0 : Int32)
def FX6_isPlace (S : kS) (a1 : Int32) (a2 : Int32) : Option (Int32) :=
  (FX6_isForm S a1).bind fun x1 => if x1 = 0 then (FX6_isPlace_J28 S) else (kgd (kin a1 3) <| kb (kA S 5 2 a1) fun x2 => (FX6_in S a2 (0 : Int32) (x2 - (1 : Int32))).bind fun x3 => if x3 = 0 then (FX6_isPlace_J28 S) else (FX6_isPlace_J29 S (1 : Int32)))
theorem TX6_isPlace_J29 {G : kG} {n : Nat} {d : Nat} {X : kX} (hG : kg_N G = 55 + 14 * n) {S : kS} {s0 : Int32} {res : Int32} (h : FX6_isPlace_J29 S s0 = some res) : kV (X, RX6, 3, (some .boolean), G, krm (d + 2), (0, 0), kQ X G (some (.int res)) (kgl G n S)) cX6_isPlace (kgl G n S) [none, none, none] [.int s0] 29 := by
  unfold FX6_isPlace_J29 at h
  obtain ⟨hz, h⟩ := kgd_ex h
  cases h
  exact kV_zret dX6_isPlace_29 (of_decide_eq_true hz)
theorem TX6_isPlace_J28 {G : kG} {n : Nat} {d : Nat} {X : kX} (hG : kg_N G = 55 + 14 * n) {S : kS} {res : Int32} (h : FX6_isPlace_J28 S = some res) : kV (X, RX6, 3, (some .boolean), G, krm (d + 2), (0, 0), kQ X G (some (.int res)) (kgl G n S)) cX6_isPlace (kgl G n S) [none, none, none] [] 28 := by
  unfold FX6_isPlace_J28 at h
  refine kV_iconst 29 dX6_isPlace_28 ic_0 rfl ?_
  refine kV_drop [false, false, false] rfl ?_
  exact TX6_isPlace_J29 hG h
theorem okX6_isPlace {l : Launch} {G : kG} {n : Nat} (hG : kg_N G = 55 + 14 * n) (d : Nat) {S : kS} {a1 : Int32} {a2 : Int32} {res : Int32} (h : FX6_isPlace S a1 a2 = some res) : kEv l G (d + 2) mX6_isPlace [.ref (kg_ad G (kbo 5)), .int a1, .int a2] (kgl G n S) (some (.int res)) (kgl G n S) := by
  refine kEv_of RX6 [some (.ref (kg_ad G (kbo 5))), some (.int a1), some (.int a2)] rfl (by decide +kernel) rfl rfl rfl rfl (fun X hX => ?_)
  subst hX
  unfold FX6_isPlace at h
  refine kV_aloadn 1 dX6_isPlace_0 rfl rfl ?_
  refine kV_iloadn 2 dX6_isPlace_1 rfl rfl ?_
  obtain ⟨x1, hx, h⟩ := kbi_ex h
  refine kC_V 5 [] [.int x1] dX6_isPlace_2 (okX6_isForm hG d  hx) kmvX6_isForm (wi_r8 _ (List.mem_of_getElem? (i := 2) rfl)) (kOk_of hG rfl) rfl rfl rfl rfl rfl rfl ?_
  clear hx
  rcases kif_ex h with ⟨hc, h⟩ | ⟨hc, h⟩
  · refine kV_if_eq_t 28 dX6_isPlace_5 (by decide) hc ?_
    clear hc
    refine kV_drop [false, false, false] rfl ?_
    exact TX6_isPlace_J28 hG h
  · refine kV_if_eq_f 28 8 dX6_isPlace_5 (by decide) hc rfl ?_
    clear hc
    refine kV_iloadn 9 dX6_isPlace_8 rfl rfl ?_
    refine kV_iconst 10 dX6_isPlace_9 ic_0 rfl ?_
    refine kV_aloadn 11 dX6_isPlace_10 rfl rfl ?_
    refine rg6_7 14 dX6_isPlace_11 (kOk_of hG rfl) rfl rfl ?_
    refine kV_iloadn 15 dX6_isPlace_14 rfl rfl ?_
    obtain ⟨hi, h⟩ := kgd_ex h
    obtain ⟨x2, hx, h⟩ := kb_ex h
    refine rl6_2 16 dX6_isPlace_15 (kOk_of hG rfl) rfl hi hx rfl ?_
    clear hi hx
    refine kV_iconst 17 dX6_isPlace_16 ic_1 rfl ?_
    refine kV_isub 18 dX6_isPlace_17 rfl ?_
    obtain ⟨x3, hx, h⟩ := kbi_ex h
    refine kC_S 21 [] [.int x3] dX6_isPlace_18 (okX6_in hG (d + 1)  hx) kmtX6_in (wi_r8 _ (List.mem_of_getElem? (i := 6) rfl)) rfl rfl rfl rfl rfl ?_
    clear hx
    rcases kif_ex h with ⟨hc, h⟩ | ⟨hc, h⟩
    · refine kV_if_eq_t 28 dX6_isPlace_21 (by decide) hc ?_
      clear hc
      refine kV_drop [false, false, false] rfl ?_
      exact TX6_isPlace_J28 hG h
    · refine kV_if_eq_f 28 24 dX6_isPlace_21 (by decide) hc rfl ?_
      clear hc
      refine kV_iconst 25 dX6_isPlace_24 ic_1 rfl ?_
      refine kV_goto 29 dX6_isPlace_25 (by decide) ?_
      refine kV_drop [false, false, false] rfl ?_
      exact TX6_isPlace_J29 hG h
abbrev mX6_isValue : kM := (yX6_isValue, cX6_isValue, 4, (some .boolean))
theorem kmvX6_isValue : kMv mX6_isValue 3 6 := ⟨⟨(wi_r10 _ (List.mem_of_getElem? (i := 10) rfl)), (wi_r1 _ (List.mem_of_getElem? (i := 5) rfl)), ⟨by decide +kernel, by decide +kernel, by decide +kernel⟩, by decide⟩, (wi_r10 _ (List.mem_of_getElem? (i := 8) rfl)), (wi_r10 _ (List.mem_of_getElem? (i := 9) rfl)), rfl⟩
def FX6_isValue_J34 (S : kS) (s0 : Int32) : Option (Int32) :=
  kgd (kz s0) <| some s0
def FX6_isValue_J33 (S : kS) : Option (Int32) :=
  FX6_isValue_J34 S (0 : Int32)
def FX6_isValue (S : kS) (a1 : Int32) (a2 : Int32) (a3 : Int32) : Option (Int32) :=
  (FX6_isPlace S a1 a2).bind fun x1 => if x1 = 0 then (FX6_isValue_J33 S) else (kgd (kin (((5 : Int32) * a1) + a2) 15) <| kb (kA S 5 4 (((5 : Int32) * a1) + a2)) fun x2 => (FX6_in S a3 (0 : Int32) (x2 - (1 : Int32))).bind fun x3 => if x3 = 0 then (FX6_isValue_J33 S) else (FX6_isValue_J34 S (1 : Int32)))
theorem TX6_isValue_J34 {G : kG} {n : Nat} {d : Nat} {X : kX} (hG : kg_N G = 55 + 14 * n) {S : kS} {s0 : Int32} {res : Int32} (h : FX6_isValue_J34 S s0 = some res) : kV (X, RX6, 4, (some .boolean), G, krm (d + 3), (0, 0), kQ X G (some (.int res)) (kgl G n S)) cX6_isValue (kgl G n S) [none, none, none, none] [.int s0] 34 := by
  unfold FX6_isValue_J34 at h
  obtain ⟨hz, h⟩ := kgd_ex h
  cases h
  exact kV_zret dX6_isValue_34 (of_decide_eq_true hz)
theorem TX6_isValue_J33 {G : kG} {n : Nat} {d : Nat} {X : kX} (hG : kg_N G = 55 + 14 * n) {S : kS} {res : Int32} (h : FX6_isValue_J33 S = some res) : kV (X, RX6, 4, (some .boolean), G, krm (d + 3), (0, 0), kQ X G (some (.int res)) (kgl G n S)) cX6_isValue (kgl G n S) [none, none, none, none] [] 33 := by
  unfold FX6_isValue_J33 at h
  refine kV_iconst 34 dX6_isValue_33 ic_0 rfl ?_
  refine kV_drop [false, false, false, false] rfl ?_
  exact TX6_isValue_J34 hG h
theorem okX6_isValue {l : Launch} {G : kG} {n : Nat} (hG : kg_N G = 55 + 14 * n) (d : Nat) {S : kS} {a1 : Int32} {a2 : Int32} {a3 : Int32} {res : Int32} (h : FX6_isValue S a1 a2 a3 = some res) : kEv l G (d + 3) mX6_isValue [.ref (kg_ad G (kbo 5)), .int a1, .int a2, .int a3] (kgl G n S) (some (.int res)) (kgl G n S) := by
  refine kEv_of RX6 [some (.ref (kg_ad G (kbo 5))), some (.int a1), some (.int a2), some (.int a3)] rfl (by decide +kernel) rfl rfl rfl rfl (fun X hX => ?_)
  subst hX
  unfold FX6_isValue at h
  refine kV_aloadn 1 dX6_isValue_0 rfl rfl ?_
  refine kV_iloadn 2 dX6_isValue_1 rfl rfl ?_
  refine kV_iloadn 3 dX6_isValue_2 rfl rfl ?_
  obtain ⟨x1, hx, h⟩ := kbi_ex h
  refine kC_V 6 [] [.int x1] dX6_isValue_3 (okX6_isPlace hG d  hx) kmvX6_isPlace (wi_r9 _ (List.mem_of_getElem? (i := 11) rfl)) (kOk_of hG rfl) rfl rfl rfl rfl rfl rfl ?_
  clear hx
  rcases kif_ex h with ⟨hc, h⟩ | ⟨hc, h⟩
  · refine kV_if_eq_t 33 dX6_isValue_6 (by decide) hc ?_
    clear hc
    refine kV_drop [false, false, false, false] rfl ?_
    exact TX6_isValue_J33 hG h
  · refine kV_if_eq_f 33 9 dX6_isValue_6 (by decide) hc rfl ?_
    clear hc
    refine kV_iloadn 10 dX6_isValue_9 rfl rfl ?_
    refine kV_iconst 11 dX6_isValue_10 ic_0 rfl ?_
    refine kV_aloadn 12 dX6_isValue_11 rfl rfl ?_
    refine rg6_16 15 dX6_isValue_12 (kOk_of hG rfl) rfl rfl ?_
    refine kV_iconst 16 dX6_isValue_15 ic_5 rfl ?_
    refine kV_iloadn 17 dX6_isValue_16 rfl rfl ?_
    refine kV_imul 18 dX6_isValue_17 rfl ?_
    refine kV_iloadn 19 dX6_isValue_18 rfl rfl ?_
    refine kV_iadd 20 dX6_isValue_19 rfl ?_
    obtain ⟨hi, h⟩ := kgd_ex h
    obtain ⟨x2, hx, h⟩ := kb_ex h
    refine rl6_4 21 dX6_isValue_20 (kOk_of hG rfl) rfl hi hx rfl ?_
    clear hi hx
    refine kV_iconst 22 dX6_isValue_21 ic_1 rfl ?_
    refine kV_isub 23 dX6_isValue_22 rfl ?_
    obtain ⟨x3, hx, h⟩ := kbi_ex h
    refine kC_S 26 [] [.int x3] dX6_isValue_23 (okX6_in hG (d + 2)  hx) kmtX6_in (wi_r8 _ (List.mem_of_getElem? (i := 6) rfl)) rfl rfl rfl rfl rfl ?_
    clear hx
    rcases kif_ex h with ⟨hc, h⟩ | ⟨hc, h⟩
    · refine kV_if_eq_t 33 dX6_isValue_26 (by decide) hc ?_
      clear hc
      refine kV_drop [false, false, false, false] rfl ?_
      exact TX6_isValue_J33 hG h
    · refine kV_if_eq_f 33 29 dX6_isValue_26 (by decide) hc rfl ?_
      clear hc
      refine kV_iconst 30 dX6_isValue_29 ic_1 rfl ?_
      refine kV_goto 34 dX6_isValue_30 (by decide) ?_
      refine kV_drop [false, false, false, false] rfl ?_
      exact TX6_isValue_J34 hG h
abbrev mX6_isOpen : kM := (yX6_isOpen, cX6_isOpen, 4, (some .boolean))
theorem kmvX6_isOpen : kMv mX6_isOpen 1 6 := ⟨⟨(wi_r8 _ (List.mem_of_getElem? (i := 12) rfl)), (wi_r1 _ (List.mem_of_getElem? (i := 5) rfl)), ⟨by decide +kernel, by decide +kernel, by decide +kernel⟩, by decide⟩, (wi_r8 _ (List.mem_of_getElem? (i := 10) rfl)), (wi_r8 _ (List.mem_of_getElem? (i := 11) rfl)), rfl⟩
def FX6_isOpen_J31 (c4 : Int32 × Int32 × Int32 → Option (Int32)) (S : kS) (v1 : Int32) (v3 : Int32) (s0 : Int32) : Option (Int32) :=
  c4 (v1, s0, (v3 + (1 : Int32)))
def FX6_isOpen_J26 (c4 : Int32 × Int32 × Int32 → Option (Int32)) (S : kS) (v1 : Int32) (v3 : Int32) : Option (Int32) :=
  FX6_isOpen_J31 c4 S v1 v3 (1 : Int32)
def FX6_isOpen_B4 (c4 : Int32 × Int32 × Int32 → Option (Int32)) (S : kS) (v1 : Int32) (v2 : Int32) (v3 : Int32) : Option (Int32) :=
  kb (kI S 5 25) fun x1 => if x1 ≤ v3 then (kgd (kz v2) <| some v2) else (if v2 = 0 then (kgd (kin v3 3) <| kb (kA S 5 24 v3) fun x2 => if x2 = v1 then (FX6_isOpen_J26 c4 S v1 v3) else (FX6_isOpen_J31 c4 S v1 v3 (0 : Int32))) else (FX6_isOpen_J26 c4 S v1 v3))
def FX6_isOpen_L4 (S : kS) (v1 : Int32) (v2 : Int32) (v3 : Int32) : Option (Int32) :=
  kfix (fun rec (q : Int32 × Int32 × Int32) => FX6_isOpen_B4 rec S q.1 q.2.1 q.2.2) kfuel (v1, v2, v3)
def FX6_isOpen (S : kS) (a1 : Int32) : Option (Int32) :=
  FX6_isOpen_L4 S a1 (0 : Int32) (0 : Int32)
theorem TX6_isOpen_J31 {G : kG} {n : Nat} {d : Nat} {X : kX} (hG : kg_N G = 55 + 14 * n) {c4 : Int32 × Int32 × Int32 → Option (Int32)} {S : kS} (hc4 : ∀ (q : Int32 × Int32 × Int32) (res : Int32), c4 q = some res → kV (X, RX6, 4, (some .boolean), G, krm (d + 0), (0, 0), kQ X G (some (.int res)) (kgl G n S)) cX6_isOpen (kgl G n S) [some (.ref (kg_ad G (kbo 5))), some (.int (q.1)), some (.int (q.2.1)), some (.int (q.2.2))] [] 4) {v1 : Int32} {v3 : Int32} {s0 : Int32} {res : Int32} (h : FX6_isOpen_J31 c4 S v1 v3 s0 = some res) : kV (X, RX6, 4, (some .boolean), G, krm (d + 0), (0, 0), kQ X G (some (.int res)) (kgl G n S)) cX6_isOpen (kgl G n S) [some (.ref (kg_ad G (kbo 5))), some (.int v1), none, some (.int v3)] [.int s0] 31 := by
  unfold FX6_isOpen_J31 at h
  refine kV_istoren 32 [some (.ref (kg_ad G (kbo 5))), some (.int v1), some (.int s0), some (.int v3)] dX6_isOpen_31 rfl rfl rfl ?_
  refine kV_iinc 35 [some (.ref (kg_ad G (kbo 5))), some (.int v1), some (.int s0), some (.int (v3 + (1 : Int32)))] dX6_isOpen_32 rfl (kinc_1 _) rfl rfl rfl ?_
  refine kV_goto 4 dX6_isOpen_35 (by decide) ?_
  refine kV_drop [true, true, true, true] rfl ?_
  exact hc4 _ _ h
theorem TX6_isOpen_J26 {G : kG} {n : Nat} {d : Nat} {X : kX} (hG : kg_N G = 55 + 14 * n) {c4 : Int32 × Int32 × Int32 → Option (Int32)} {S : kS} (hc4 : ∀ (q : Int32 × Int32 × Int32) (res : Int32), c4 q = some res → kV (X, RX6, 4, (some .boolean), G, krm (d + 0), (0, 0), kQ X G (some (.int res)) (kgl G n S)) cX6_isOpen (kgl G n S) [some (.ref (kg_ad G (kbo 5))), some (.int (q.1)), some (.int (q.2.1)), some (.int (q.2.2))] [] 4) {v1 : Int32} {v3 : Int32} {res : Int32} (h : FX6_isOpen_J26 c4 S v1 v3 = some res) : kV (X, RX6, 4, (some .boolean), G, krm (d + 0), (0, 0), kQ X G (some (.int res)) (kgl G n S)) cX6_isOpen (kgl G n S) [some (.ref (kg_ad G (kbo 5))), some (.int v1), none, some (.int v3)] [] 26 := by
  unfold FX6_isOpen_J26 at h
  refine kV_iconst 27 dX6_isOpen_26 ic_1 rfl ?_
  refine kV_goto 31 dX6_isOpen_27 (by decide) ?_
  refine kV_drop [true, true, false, true] rfl ?_
  exact TX6_isOpen_J31 hG hc4 h
theorem TX6_isOpen_B4 {G : kG} {n : Nat} {d : Nat} {X : kX} (hG : kg_N G = 55 + 14 * n) {S : kS} {c4 : Int32 × Int32 × Int32 → Option (Int32)} (hc4 : ∀ (q : Int32 × Int32 × Int32) (res : Int32), c4 q = some res → kV (X, RX6, 4, (some .boolean), G, krm (d + 0), (0, 0), kQ X G (some (.int res)) (kgl G n S)) cX6_isOpen (kgl G n S) [some (.ref (kg_ad G (kbo 5))), some (.int (q.1)), some (.int (q.2.1)), some (.int (q.2.2))] [] 4) {v1 : Int32} {v2 : Int32} {v3 : Int32} {res : Int32} (h : FX6_isOpen_B4 c4 S v1 v2 v3 = some res) : kV (X, RX6, 4, (some .boolean), G, krm (d + 0), (0, 0), kQ X G (some (.int res)) (kgl G n S)) cX6_isOpen (kgl G n S) [some (.ref (kg_ad G (kbo 5))), some (.int v1), some (.int v2), some (.int v3)] [] 4 := by
  unfold FX6_isOpen_B4 at h
  refine kV_iloadn 5 dX6_isOpen_4 rfl rfl ?_
  refine kV_aloadn 6 dX6_isOpen_5 rfl rfl ?_
  obtain ⟨x1, hx, h⟩ := kb_ex h
  refine rg6_126 9 dX6_isOpen_6 (kOk_of hG rfl) rfl hx rfl ?_
  clear hx
  rcases kif_ex h with ⟨hc, h⟩ | ⟨hc, h⟩
  · refine kV_icmp_ge_t 38 dX6_isOpen_9 (by decide) hc ?_
    clear hc
    refine kV_iloadn 39 dX6_isOpen_38 rfl rfl ?_
    obtain ⟨hz, h⟩ := kgd_ex h
    cases h
    exact kV_zret dX6_isOpen_39 (of_decide_eq_true hz)
  · refine kV_icmp_ge_f 38 12 dX6_isOpen_9 (by decide) hc rfl ?_
    clear hc
    refine kV_iloadn 13 dX6_isOpen_12 rfl rfl ?_
    rcases kif_ex h with ⟨hc, h⟩ | ⟨hc, h⟩
    · refine kV_if_ne_f 26 16 dX6_isOpen_13 (by decide) hc rfl ?_
      clear hc
      refine kV_aloadn 17 dX6_isOpen_16 rfl rfl ?_
      refine rg6_71 20 dX6_isOpen_17 (kOk_of hG rfl) rfl rfl ?_
      refine kV_iloadn 21 dX6_isOpen_20 rfl rfl ?_
      obtain ⟨hi, h⟩ := kgd_ex h
      obtain ⟨x2, hx, h⟩ := kb_ex h
      refine rl6_24 22 dX6_isOpen_21 (kOk_of hG rfl) rfl hi hx rfl ?_
      clear hi hx
      refine kV_iloadn 23 dX6_isOpen_22 rfl rfl ?_
      rcases kif_ex h with ⟨hc, h⟩ | ⟨hc, h⟩
      · refine kV_icmp_ne_f 30 26 dX6_isOpen_23 (by decide) hc rfl ?_
        clear hc
        refine kV_drop [true, true, false, true] rfl ?_
        exact TX6_isOpen_J26 hG hc4 h
      · refine kV_icmp_ne_t 30 dX6_isOpen_23 (by decide) hc ?_
        clear hc
        refine kV_iconst 31 dX6_isOpen_30 ic_0 rfl ?_
        refine kV_drop [true, true, false, true] rfl ?_
        exact TX6_isOpen_J31 hG hc4 h
    · refine kV_if_ne_t 26 dX6_isOpen_13 (by decide) hc ?_
      clear hc
      refine kV_drop [true, true, false, true] rfl ?_
      exact TX6_isOpen_J26 hG hc4 h
theorem TX6_isOpen_L4 {G : kG} {n : Nat} {d : Nat} {X : kX} (hG : kg_N G = 55 + 14 * n) {S : kS} {v1 : Int32} {v2 : Int32} {v3 : Int32} {res : Int32} (h : FX6_isOpen_L4 S v1 v2 v3 = some res) : kV (X, RX6, 4, (some .boolean), G, krm (d + 0), (0, 0), kQ X G (some (.int res)) (kgl G n S)) cX6_isOpen (kgl G n S) [some (.ref (kg_ad G (kbo 5))), some (.int v1), some (.int v2), some (.int v3)] [] 4 := by
  unfold FX6_isOpen_L4 at h
  exact kfix_ok (P := fun (q : Int32 × Int32 × Int32) (res : Int32) => kV (X, RX6, 4, (some .boolean), G, krm (d + 0), (0, 0), kQ X G (some (.int res)) (kgl G n S)) cX6_isOpen (kgl G n S) [some (.ref (kg_ad G (kbo 5))), some (.int (q.1)), some (.int (q.2.1)), some (.int (q.2.2))] [] 4) (fun rec hrec q res hq => TX6_isOpen_B4 hG hrec hq) kfuel _ _ h
theorem okX6_isOpen {l : Launch} {G : kG} {n : Nat} (hG : kg_N G = 55 + 14 * n) (d : Nat) {S : kS} {a1 : Int32} {res : Int32} (h : FX6_isOpen S a1 = some res) : kEv l G (d + 0) mX6_isOpen [.ref (kg_ad G (kbo 5)), .int a1] (kgl G n S) (some (.int res)) (kgl G n S) := by
  refine kEv_of RX6 [some (.ref (kg_ad G (kbo 5))), some (.int a1), none, none] rfl (by decide +kernel) rfl rfl rfl rfl (fun X hX => ?_)
  subst hX
  unfold FX6_isOpen at h
  refine kV_iconst 1 dX6_isOpen_0 ic_0 rfl ?_
  refine kV_istoren 2 [some (.ref (kg_ad G (kbo 5))), some (.int a1), some (.int (0 : Int32)), none] dX6_isOpen_1 rfl rfl rfl ?_
  refine kV_iconst 3 dX6_isOpen_2 ic_0 rfl ?_
  refine kV_istoren 4 [some (.ref (kg_ad G (kbo 5))), some (.int a1), some (.int (0 : Int32)), some (.int (0 : Int32))] dX6_isOpen_3 rfl rfl rfl ?_
  refine kV_drop [true, true, true, true] rfl ?_
  exact TX6_isOpen_L4 hG h
abbrev mX6_form : kM := (yX6_form, cX6_form, 2, (some .int))
theorem kmvX6_form : kMv mX6_form 0 6 := ⟨⟨(wi_r7 _ (List.mem_of_getElem? (i := 1) rfl)), (wi_r1 _ (List.mem_of_getElem? (i := 5) rfl)), ⟨by decide +kernel, by decide +kernel, by decide +kernel⟩, by decide⟩, (wi_r6 _ (List.mem_of_getElem? (i := 23) rfl)), (wi_r7 _ (List.mem_of_getElem? (i := 0) rfl)), rfl⟩
def FX6_form_B13 (c13 : kS × Int32 → Option (Int32 × kS)) (S : kS) (v1 : Int32) : Option (Int32 × kS) :=
  if (64 : Int32) ≤ v1 then (kb (kI S 5 1) fun x1 => kb (kpI S 5 1 (x1 + (1 : Int32))) fun S1 => kb (kI S1 5 1) fun x2 => some ((x2 - (1 : Int32)), S1)) else (kb (kI S 5 1) fun x3 => kgd (kin (((64 : Int32) * x3) + v1) 192) <| kb (kpA S 5 15 (((64 : Int32) * x3) + v1) (-1 : Int32)) fun S2 => c13 (S2, (v1 + (1 : Int32))))
def FX6_form_L13 (S : kS) (v1 : Int32) : Option (Int32 × kS) :=
  kfix (fun rec (q : kS × Int32) => FX6_form_B13 rec q.1 q.2) kfuel (S, v1)
def FX6_form (S : kS) : Option (Int32 × kS) :=
  kb (kI S 5 1) fun x1 => if x1 = (3 : Int32) then (some ((-4 : Int32), S)) else (FX6_form_L13 S (0 : Int32))
theorem TX6_form_B13 {G : kG} {n : Nat} {d : Nat} {X : kX} (hG : kg_N G = 55 + 14 * n) {c13 : kS × Int32 → Option (Int32 × kS)} (hc13 : ∀ (q : kS × Int32) (res : Int32 × kS), c13 q = some res → kV (X, RX6, 2, (some .int), G, krm (d + 0), (0, 0), kQ X G (some (.int res.1)) (kgl G n res.2)) cX6_form (kgl G n q.1) [some (.ref (kg_ad G (kbo 5))), some (.int (q.2))] [] 13) {S : kS} {v1 : Int32} {res : Int32 × kS} (h : FX6_form_B13 c13 S v1 = some res) : kV (X, RX6, 2, (some .int), G, krm (d + 0), (0, 0), kQ X G (some (.int res.1)) (kgl G n res.2)) cX6_form (kgl G n S) [some (.ref (kg_ad G (kbo 5))), some (.int v1)] [] 13 := by
  unfold FX6_form_B13 at h
  refine kV_iloadn 14 dX6_form_13 rfl rfl ?_
  refine kV_bipush 16 dX6_form_14 bp_64 rfl ?_
  rcases kif_ex h with ⟨hc, h⟩ | ⟨hc, h⟩
  · refine kV_icmp_ge_t 40 dX6_form_16 (by decide) hc ?_
    clear hc
    refine kV_aloadn 41 dX6_form_40 rfl rfl ?_
    refine kV_dup 42 dX6_form_41 rfl rfl ?_
    obtain ⟨x1, hx, h⟩ := kb_ex h
    refine rg6_111 45 dX6_form_42 (kOk_of hG rfl) rfl hx rfl ?_
    clear hx
    refine kV_iconst 46 dX6_form_45 ic_1 rfl ?_
    refine kV_iadd 47 dX6_form_46 rfl ?_
    obtain ⟨S1, hx, h⟩ := kb_ex h
    refine rp6_111 50 dX6_form_47 (kOk_of hG rfl) rfl hx rfl ?_
    clear hx
    refine kV_aloadn 51 dX6_form_50 rfl rfl ?_
    obtain ⟨x2, hx, h⟩ := kb_ex h
    refine rg6_111 54 dX6_form_51 (kOk_of hG rfl) rfl hx rfl ?_
    clear hx
    refine kV_iconst 55 dX6_form_54 ic_1 rfl ?_
    refine kV_isub 56 dX6_form_55 rfl ?_
    cases h
    exact kV_iret dX6_form_56
  · refine kV_icmp_ge_f 40 19 dX6_form_16 (by decide) hc rfl ?_
    clear hc
    refine kV_aloadn 20 dX6_form_19 rfl rfl ?_
    refine rg6_50 23 dX6_form_20 (kOk_of hG rfl) rfl rfl ?_
    refine kV_bipush 25 dX6_form_23 bp_64 rfl ?_
    refine kV_aloadn 26 dX6_form_25 rfl rfl ?_
    obtain ⟨x3, hx, h⟩ := kb_ex h
    refine rg6_111 29 dX6_form_26 (kOk_of hG rfl) rfl hx rfl ?_
    clear hx
    refine kV_imul 30 dX6_form_29 rfl ?_
    refine kV_iloadn 31 dX6_form_30 rfl rfl ?_
    refine kV_iadd 32 dX6_form_31 rfl ?_
    refine kV_iconst 33 dX6_form_32 ic_m1 rfl ?_
    obtain ⟨hi, h⟩ := kgd_ex h
    obtain ⟨S2, hx, h⟩ := kb_ex h
    refine rs6_15 34 dX6_form_33 (kOk_of hG rfl) rfl hi hx rfl ?_
    clear hi hx
    refine kV_iinc 37 [some (.ref (kg_ad G (kbo 5))), some (.int (v1 + (1 : Int32)))] dX6_form_34 rfl (kinc_1 _) rfl rfl rfl ?_
    refine kV_goto 13 dX6_form_37 (by decide) ?_
    refine kV_drop [true, true] rfl ?_
    exact hc13 _ _ h
theorem TX6_form_L13 {G : kG} {n : Nat} {d : Nat} {X : kX} (hG : kg_N G = 55 + 14 * n) {S : kS} {v1 : Int32} {res : Int32 × kS} (h : FX6_form_L13 S v1 = some res) : kV (X, RX6, 2, (some .int), G, krm (d + 0), (0, 0), kQ X G (some (.int res.1)) (kgl G n res.2)) cX6_form (kgl G n S) [some (.ref (kg_ad G (kbo 5))), some (.int v1)] [] 13 := by
  unfold FX6_form_L13 at h
  exact kfix_ok (P := fun (q : kS × Int32) (res : Int32 × kS) => kV (X, RX6, 2, (some .int), G, krm (d + 0), (0, 0), kQ X G (some (.int res.1)) (kgl G n res.2)) cX6_form (kgl G n q.1) [some (.ref (kg_ad G (kbo 5))), some (.int (q.2))] [] 13) (fun rec hrec q res hq => TX6_form_B13 hG hrec hq) kfuel _ _ h
theorem okX6_form {l : Launch} {G : kG} {n : Nat} (hG : kg_N G = 55 + 14 * n) (d : Nat) {S : kS} {res : Int32 × kS} (h : FX6_form S = some res) : kEv l G (d + 0) mX6_form [.ref (kg_ad G (kbo 5))] (kgl G n S) (some (.int res.1)) (kgl G n res.2) := by
  refine kEv_of RX6 [some (.ref (kg_ad G (kbo 5))), none] rfl (by decide +kernel) rfl rfl rfl rfl (fun X hX => ?_)
  subst hX
  unfold FX6_form at h
  refine kV_aloadn 1 dX6_form_0 rfl rfl ?_
  obtain ⟨x1, hx, h⟩ := kb_ex h
  refine rg6_111 4 dX6_form_1 (kOk_of hG rfl) rfl hx rfl ?_
  clear hx
  refine kV_iconst 5 dX6_form_4 ic_3 rfl ?_
  rcases kif_ex h with ⟨hc, h⟩ | ⟨hc, h⟩
  · refine kV_icmp_ne_f 11 8 dX6_form_5 (by decide) hc rfl ?_
    clear hc
    refine kV_bipush 10 dX6_form_8 bp_m4 rfl ?_
    cases h
    exact kV_iret dX6_form_10
  · refine kV_icmp_ne_t 11 dX6_form_5 (by decide) hc ?_
    clear hc
    refine kV_iconst 12 dX6_form_11 ic_0 rfl ?_
    refine kV_istoren 13 [some (.ref (kg_ad G (kbo 5))), some (.int (0 : Int32))] dX6_form_12 rfl rfl rfl ?_
    refine kV_drop [true, true] rfl ?_
    exact TX6_form_L13 hG h
abbrev mX6_comes : kM := (yX6_comes, cX6_comes, 5, (some .int))
theorem kmvX6_comes : kMv mX6_comes 3 6 := ⟨⟨(wi_r8 _ (List.mem_of_getElem? (i := 17) rfl)), (wi_r1 _ (List.mem_of_getElem? (i := 5) rfl)), ⟨by decide +kernel, by decide +kernel, by decide +kernel⟩, by decide⟩, (wi_r8 _ (List.mem_of_getElem? (i := 15) rfl)), (wi_r8 _ (List.mem_of_getElem? (i := 16) rfl)), rfl⟩
def FX6_comes (S : kS) (a1 : Int32) (a2 : Int32) (a3 : Int32) : Option (Int32 × kS) :=
  kgd (kin a1 3) <| kb (kA S 5 2 a1) fun x1 => kgd (kin (((5 : Int32) * a1) + x1) 15) <| kb (kpA S 5 3 (((5 : Int32) * a1) + x1) a2) fun S1 => kgd (kin (((5 : Int32) * a1) + x1) 15) <| kb (kpA S1 5 4 (((5 : Int32) * a1) + x1) a3) fun S2 => kgd (kin (((5 : Int32) * a1) + x1) 15) <| kb (kpA S2 5 7 (((5 : Int32) * a1) + x1) (0 : Int32)) fun S3 => kgd (kin (((5 : Int32) * a1) + x1) 15) <| kb (kpA S3 5 8 (((5 : Int32) * a1) + x1) ((0 : Int32) &&& 1)) fun S4 => kgd (kin a1 3) <| kb (kA S4 5 2 a1) fun x2 => kgd (kin a1 3) <| kb (kpA S4 5 2 a1 (x2 + (1 : Int32))) fun S5 => kgd (kin a1 3) <| kb (kA S5 5 2 a1) fun x3 => some ((x3 - (1 : Int32)), S5)
theorem okX6_comes {l : Launch} {G : kG} {n : Nat} (hG : kg_N G = 55 + 14 * n) (d : Nat) {S : kS} {a1 : Int32} {a2 : Int32} {a3 : Int32} {res : Int32 × kS} (h : FX6_comes S a1 a2 a3 = some res) : kEv l G (d + 0) mX6_comes [.ref (kg_ad G (kbo 5)), .int a1, .int a2, .int a3] (kgl G n S) (some (.int res.1)) (kgl G n res.2) := by
  refine kEv_of RX6 [some (.ref (kg_ad G (kbo 5))), some (.int a1), some (.int a2), some (.int a3), none] rfl (by decide +kernel) rfl rfl rfl rfl (fun X hX => ?_)
  subst hX
  unfold FX6_comes at h
  refine kV_iconst 1 dX6_comes_0 ic_5 rfl ?_
  refine kV_iloadn 2 dX6_comes_1 rfl rfl ?_
  refine kV_imul 3 dX6_comes_2 rfl ?_
  refine kV_aloadn 4 dX6_comes_3 rfl rfl ?_
  refine rg6_7 7 dX6_comes_4 (kOk_of hG rfl) rfl rfl ?_
  refine kV_iloadn 8 dX6_comes_7 rfl rfl ?_
  obtain ⟨hi, h⟩ := kgd_ex h
  obtain ⟨x1, hx, h⟩ := kb_ex h
  refine rl6_2 9 dX6_comes_8 (kOk_of hG rfl) rfl hi hx rfl ?_
  clear hi hx
  refine kV_iadd 10 dX6_comes_9 rfl ?_
  refine kV_istore 12 [some (.ref (kg_ad G (kbo 5))), some (.int a1), some (.int a2), some (.int a3), some (.int (((5 : Int32) * a1) + x1))] dX6_comes_10 rfl rfl rfl ?_
  refine kV_aloadn 13 dX6_comes_12 rfl rfl ?_
  refine rg6_13 16 dX6_comes_13 (kOk_of hG rfl) rfl rfl ?_
  refine kV_iload 18 dX6_comes_16 rfl rfl ?_
  refine kV_iloadn 19 dX6_comes_18 rfl rfl ?_
  obtain ⟨hi, h⟩ := kgd_ex h
  obtain ⟨S1, hx, h⟩ := kb_ex h
  refine rs6_3 20 dX6_comes_19 (kOk_of hG rfl) rfl hi hx rfl ?_
  clear hi hx
  refine kV_aloadn 21 dX6_comes_20 rfl rfl ?_
  refine rg6_16 24 dX6_comes_21 (kOk_of hG rfl) rfl rfl ?_
  refine kV_iload 26 dX6_comes_24 rfl rfl ?_
  refine kV_iloadn 27 dX6_comes_26 rfl rfl ?_
  obtain ⟨hi, h⟩ := kgd_ex h
  obtain ⟨S2, hx, h⟩ := kb_ex h
  refine rs6_4 28 dX6_comes_27 (kOk_of hG rfl) rfl hi hx rfl ?_
  clear hi hx
  refine kV_aloadn 29 dX6_comes_28 rfl rfl ?_
  refine rg6_25 32 dX6_comes_29 (kOk_of hG rfl) rfl rfl ?_
  refine kV_iload 34 dX6_comes_32 rfl rfl ?_
  refine kV_iconst 35 dX6_comes_34 ic_0 rfl ?_
  obtain ⟨hi, h⟩ := kgd_ex h
  obtain ⟨S3, hx, h⟩ := kb_ex h
  refine rs6_7 36 dX6_comes_35 (kOk_of hG rfl) rfl hi hx rfl ?_
  clear hi hx
  refine kV_aloadn 37 dX6_comes_36 rfl rfl ?_
  refine rg6_28 40 dX6_comes_37 (kOk_of hG rfl) rfl rfl ?_
  refine kV_iload 42 dX6_comes_40 rfl rfl ?_
  refine kV_iconst 43 dX6_comes_42 ic_0 rfl ?_
  obtain ⟨hi, h⟩ := kgd_ex h
  obtain ⟨S4, hx, h⟩ := kb_ex h
  refine rs6_8 44 dX6_comes_43 (kOk_of hG rfl) rfl hi hx rfl ?_
  clear hi hx
  refine kV_aloadn 45 dX6_comes_44 rfl rfl ?_
  refine rg6_7 48 dX6_comes_45 (kOk_of hG rfl) rfl rfl ?_
  refine kV_iloadn 49 dX6_comes_48 rfl rfl ?_
  refine kV_dup2 50 dX6_comes_49 rfl rfl rfl ?_
  obtain ⟨hi, h⟩ := kgd_ex h
  obtain ⟨x2, hx, h⟩ := kb_ex h
  refine rl6_2 51 dX6_comes_50 (kOk_of hG rfl) rfl hi hx rfl ?_
  clear hi hx
  refine kV_iconst 52 dX6_comes_51 ic_1 rfl ?_
  refine kV_iadd 53 dX6_comes_52 rfl ?_
  obtain ⟨hi, h⟩ := kgd_ex h
  obtain ⟨S5, hx, h⟩ := kb_ex h
  refine rs6_2 54 dX6_comes_53 (kOk_of hG rfl) rfl hi hx rfl ?_
  clear hi hx
  refine kV_aloadn 55 dX6_comes_54 rfl rfl ?_
  refine rg6_7 58 dX6_comes_55 (kOk_of hG rfl) rfl rfl ?_
  refine kV_iloadn 59 dX6_comes_58 rfl rfl ?_
  obtain ⟨hi, h⟩ := kgd_ex h
  obtain ⟨x3, hx, h⟩ := kb_ex h
  refine rl6_2 60 dX6_comes_59 (kOk_of hG rfl) rfl hi hx rfl ?_
  clear hi hx
  refine kV_iconst 61 dX6_comes_60 ic_1 rfl ?_
  refine kV_isub 62 dX6_comes_61 rfl ?_
  cases h
  exact kV_iret dX6_comes_62
abbrev mX6_place : kM := (yX6_place, cX6_place, 4, (some .int))
theorem kmvX6_place : kMv mX6_place 3 6 := ⟨⟨(wi_r8 _ (List.mem_of_getElem? (i := 1) rfl)), (wi_r1 _ (List.mem_of_getElem? (i := 5) rfl)), ⟨by decide +kernel, by decide +kernel, by decide +kernel⟩, by decide⟩, (wi_r7 _ (List.mem_of_getElem? (i := 23) rfl)), (wi_r8 _ (List.mem_of_getElem? (i := 0) rfl)), rfl⟩
def FX6_place_J28 (S : kS) : Option (Int32 × kS) :=
  some ((-2 : Int32), S)
def FX6_place_J64 (S : kS) (s0 : Int32) : Option (Int32 × kS) :=
  some (s0, S)
def FX6_place_J19 (S : kS) (v1 : Int32) (v2 : Int32) (v3 : Int32) : Option (Int32 × kS) :=
  (FX6_in S v3 (2 : Int32) (4 : Int32)).bind fun x1 => if x1 = 0 then (FX6_place_J28 S) else ((FX6_isOpen S v1).bind fun x2 => if x2 = 0 then (kgd (kin v1 3) <| kb (kA S 5 2 v1) fun x3 => if x3 = (5 : Int32) then (FX6_place_J64 S (-4 : Int32)) else (kb2 (FX6_comes S v1 v2 v3) fun x4 S1 => FX6_place_J64 S1 x4)) else (some ((-3 : Int32), S)))
def FX6_place (S : kS) (a1 : Int32) (a2 : Int32) (a3 : Int32) : Option (Int32 × kS) :=
  (FX6_isForm S a1).bind fun x1 => if x1 = 0 then (some ((-1 : Int32), S)) else (if a2 = 0 then (FX6_place_J19 S a1 a2 a3) else (if a2 = (2 : Int32) then (FX6_place_J19 S a1 a2 a3) else (FX6_place_J28 S)))
theorem TX6_place_J28 {G : kG} {n : Nat} {d : Nat} {X : kX} (hG : kg_N G = 55 + 14 * n) {S : kS} {res : Int32 × kS} (h : FX6_place_J28 S = some res) : kV (X, RX6, 4, (some .int), G, krm (d + 2), (0, 0), kQ X G (some (.int res.1)) (kgl G n res.2)) cX6_place (kgl G n S) [none, none, none, none] [] 28 := by
  unfold FX6_place_J28 at h
  refine kV_bipush 30 dX6_place_28 bp_m2 rfl ?_
  cases h
  exact kV_iret dX6_place_30
theorem TX6_place_J64 {G : kG} {n : Nat} {d : Nat} {X : kX} (hG : kg_N G = 55 + 14 * n) {S : kS} {s0 : Int32} {res : Int32 × kS} (h : FX6_place_J64 S s0 = some res) : kV (X, RX6, 4, (some .int), G, krm (d + 2), (0, 0), kQ X G (some (.int res.1)) (kgl G n res.2)) cX6_place (kgl G n S) [none, none, none, none] [.int s0] 64 := by
  unfold FX6_place_J64 at h
  cases h
  exact kV_iret dX6_place_64
theorem TX6_place_J19 {G : kG} {n : Nat} {d : Nat} {X : kX} (hG : kg_N G = 55 + 14 * n) {S : kS} {v1 : Int32} {v2 : Int32} {v3 : Int32} {res : Int32 × kS} (h : FX6_place_J19 S v1 v2 v3 = some res) : kV (X, RX6, 4, (some .int), G, krm (d + 2), (0, 0), kQ X G (some (.int res.1)) (kgl G n res.2)) cX6_place (kgl G n S) [some (.ref (kg_ad G (kbo 5))), some (.int v1), some (.int v2), some (.int v3)] [] 19 := by
  unfold FX6_place_J19 at h
  refine kV_iloadn 20 dX6_place_19 rfl rfl ?_
  refine kV_iconst 21 dX6_place_20 ic_2 rfl ?_
  refine kV_iconst 22 dX6_place_21 ic_4 rfl ?_
  obtain ⟨x1, hx, h⟩ := kbi_ex h
  refine kC_S 25 [] [.int x1] dX6_place_22 (okX6_in hG (d + 1)  hx) kmtX6_in (wi_r8 _ (List.mem_of_getElem? (i := 6) rfl)) rfl rfl rfl rfl rfl ?_
  clear hx
  rcases kif_ex h with ⟨hc, h⟩ | ⟨hc, h⟩
  · refine kV_if_ne_f 31 28 dX6_place_25 (by decide) hc rfl ?_
    clear hc
    refine kV_drop [false, false, false, false] rfl ?_
    exact TX6_place_J28 hG h
  · refine kV_if_ne_t 31 dX6_place_25 (by decide) hc ?_
    clear hc
    refine kV_aloadn 32 dX6_place_31 rfl rfl ?_
    refine kV_iloadn 33 dX6_place_32 rfl rfl ?_
    obtain ⟨x2, hx, h⟩ := kbi_ex h
    refine kC_V 36 [] [.int x2] dX6_place_33 (okX6_isOpen hG (d + 1)  hx) kmvX6_isOpen (wi_r8 _ (List.mem_of_getElem? (i := 9) rfl)) (kOk_of hG rfl) rfl rfl rfl rfl rfl rfl ?_
    clear hx
    rcases kif_ex h with ⟨hc, h⟩ | ⟨hc, h⟩
    · refine kV_if_eq_t 42 dX6_place_36 (by decide) hc ?_
      clear hc
      refine kV_aloadn 43 dX6_place_42 rfl rfl ?_
      refine rg6_7 46 dX6_place_43 (kOk_of hG rfl) rfl rfl ?_
      refine kV_iloadn 47 dX6_place_46 rfl rfl ?_
      obtain ⟨hi, h⟩ := kgd_ex h
      obtain ⟨x3, hx, h⟩ := kb_ex h
      refine rl6_2 48 dX6_place_47 (kOk_of hG rfl) rfl hi hx rfl ?_
      clear hi hx
      refine kV_iconst 49 dX6_place_48 ic_5 rfl ?_
      rcases kif_ex h with ⟨hc, h⟩ | ⟨hc, h⟩
      · refine kV_icmp_ne_f 57 52 dX6_place_49 (by decide) hc rfl ?_
        clear hc
        refine kV_bipush 54 dX6_place_52 bp_m4 rfl ?_
        refine kV_goto 64 dX6_place_54 (by decide) ?_
        refine kV_drop [false, false, false, false] rfl ?_
        exact TX6_place_J64 hG h
      · refine kV_icmp_ne_t 57 dX6_place_49 (by decide) hc ?_
        clear hc
        refine kV_aloadn 58 dX6_place_57 rfl rfl ?_
        refine kV_iloadn 59 dX6_place_58 rfl rfl ?_
        refine kV_iloadn 60 dX6_place_59 rfl rfl ?_
        refine kV_iloadn 61 dX6_place_60 rfl rfl ?_
        obtain ⟨x4, S1, hx, h⟩ := kb2_ex h
        refine kC_V 64 [] [.int x4] dX6_place_61 (okX6_comes hG (d + 1)  hx) kmvX6_comes (wi_r8 _ (List.mem_of_getElem? (i := 14) rfl)) (kOk_of hG rfl) rfl rfl rfl rfl rfl rfl ?_
        clear hx
        refine kV_drop [false, false, false, false] rfl ?_
        exact TX6_place_J64 hG h
    · refine kV_if_eq_f 42 39 dX6_place_36 (by decide) hc rfl ?_
      clear hc
      refine kV_bipush 41 dX6_place_39 bp_m3 rfl ?_
      cases h
      exact kV_iret dX6_place_41
theorem okX6_place {l : Launch} {G : kG} {n : Nat} (hG : kg_N G = 55 + 14 * n) (d : Nat) {S : kS} {a1 : Int32} {a2 : Int32} {a3 : Int32} {res : Int32 × kS} (h : FX6_place S a1 a2 a3 = some res) : kEv l G (d + 2) mX6_place [.ref (kg_ad G (kbo 5)), .int a1, .int a2, .int a3] (kgl G n S) (some (.int res.1)) (kgl G n res.2) := by
  refine kEv_of RX6 [some (.ref (kg_ad G (kbo 5))), some (.int a1), some (.int a2), some (.int a3)] rfl (by decide +kernel) rfl rfl rfl rfl (fun X hX => ?_)
  subst hX
  unfold FX6_place at h
  refine kV_aloadn 1 dX6_place_0 rfl rfl ?_
  refine kV_iloadn 2 dX6_place_1 rfl rfl ?_
  obtain ⟨x1, hx, h⟩ := kbi_ex h
  refine kC_V 5 [] [.int x1] dX6_place_2 (okX6_isForm hG d  hx) kmvX6_isForm (wi_r8 _ (List.mem_of_getElem? (i := 2) rfl)) (kOk_of hG rfl) rfl rfl rfl rfl rfl rfl ?_
  clear hx
  rcases kif_ex h with ⟨hc, h⟩ | ⟨hc, h⟩
  · refine kV_if_ne_f 10 8 dX6_place_5 (by decide) hc rfl ?_
    clear hc
    refine kV_iconst 9 dX6_place_8 ic_m1 rfl ?_
    cases h
    exact kV_iret dX6_place_9
  · refine kV_if_ne_t 10 dX6_place_5 (by decide) hc ?_
    clear hc
    refine kV_iloadn 11 dX6_place_10 rfl rfl ?_
    rcases kif_ex h with ⟨hc, h⟩ | ⟨hc, h⟩
    · refine kV_if_eq_t 19 dX6_place_11 (by decide) hc ?_
      clear hc
      refine kV_drop [true, true, true, true] rfl ?_
      exact TX6_place_J19 hG h
    · refine kV_if_eq_f 19 14 dX6_place_11 (by decide) hc rfl ?_
      clear hc
      refine kV_iloadn 15 dX6_place_14 rfl rfl ?_
      refine kV_iconst 16 dX6_place_15 ic_2 rfl ?_
      rcases kif_ex h with ⟨hc, h⟩ | ⟨hc, h⟩
      · refine kV_icmp_ne_f 28 19 dX6_place_16 (by decide) hc rfl ?_
        clear hc
        refine kV_drop [true, true, true, true] rfl ?_
        exact TX6_place_J19 hG h
      · refine kV_icmp_ne_t 28 dX6_place_16 (by decide) hc ?_
        clear hc
        refine kV_drop [false, false, false, false] rfl ?_
        exact TX6_place_J28 hG h
abbrev mX6_worked : kM := (yX6_worked, cX6_worked, 6, (some .int))
theorem kmvX6_worked : kMv mX6_worked 4 6 := ⟨⟨(wi_r9 _ (List.mem_of_getElem? (i := 10) rfl)), (wi_r1 _ (List.mem_of_getElem? (i := 5) rfl)), ⟨by decide +kernel, by decide +kernel, by decide +kernel⟩, by decide⟩, (wi_r9 _ (List.mem_of_getElem? (i := 8) rfl)), (wi_r9 _ (List.mem_of_getElem? (i := 9) rfl)), rfl⟩
def FX6_worked_J59 (S : kS) : Option (Int32 × kS) :=
  some ((-2 : Int32), S)
def FX6_worked_J19 (S : kS) : Option (Int32 × kS) :=
  some ((-1 : Int32), S)
def FX6_worked (S : kS) (a1 : Int32) (a2 : Int32) (a3 : Int32) (a4 : Int32) : Option (Int32 × kS) :=
  (FX6_isPlace S a1 a3).bind fun x1 => if x1 = 0 then (FX6_worked_J19 S) else ((FX6_isPlace S a1 a4).bind fun x2 => if x2 = 0 then (FX6_worked_J19 S) else ((FX6_in S a2 (2 : Int32) (4 : Int32)).bind fun x3 => if x3 = 0 then (FX6_worked_J59 S) else (kgd (kin (((5 : Int32) * a1) + a3) 15) <| kb (kA S 5 3 (((5 : Int32) * a1) + a3)) fun x4 => if x4 = (1 : Int32) then (FX6_worked_J59 S) else (kgd (kin (((5 : Int32) * a1) + a4) 15) <| kb (kA S 5 3 (((5 : Int32) * a1) + a4)) fun x5 => if x5 = (1 : Int32) then (FX6_worked_J59 S) else ((FX6_isOpen S a1).bind fun x6 => if x6 = 0 then (kgd (kin a1 3) <| kb (kA S 5 2 a1) fun x7 => if x7 = (5 : Int32) then (some ((-4 : Int32), S)) else (kb2 (FX6_comes S a1 (1 : Int32) a2) fun x8 S1 => kgd (kin (((5 : Int32) * a1) + x8) 15) <| kb (kpA S1 5 5 (((5 : Int32) * a1) + x8) (((5 : Int32) * a1) + a3)) fun S2 => kgd (kin (((5 : Int32) * a1) + x8) 15) <| kb (kpA S2 5 6 (((5 : Int32) * a1) + x8) (((5 : Int32) * a1) + a4)) fun S3 => some (x8, S3))) else (some ((-3 : Int32), S)))))))
theorem TX6_worked_J59 {G : kG} {n : Nat} {d : Nat} {X : kX} (hG : kg_N G = 55 + 14 * n) {S : kS} {res : Int32 × kS} (h : FX6_worked_J59 S = some res) : kV (X, RX6, 6, (some .int), G, krm (d + 3), (0, 0), kQ X G (some (.int res.1)) (kgl G n res.2)) cX6_worked (kgl G n S) [none, none, none, none, none, none] [] 59 := by
  unfold FX6_worked_J59 at h
  refine kV_bipush 61 dX6_worked_59 bp_m2 rfl ?_
  cases h
  exact kV_iret dX6_worked_61
theorem TX6_worked_J19 {G : kG} {n : Nat} {d : Nat} {X : kX} (hG : kg_N G = 55 + 14 * n) {S : kS} {res : Int32 × kS} (h : FX6_worked_J19 S = some res) : kV (X, RX6, 6, (some .int), G, krm (d + 3), (0, 0), kQ X G (some (.int res.1)) (kgl G n res.2)) cX6_worked (kgl G n S) [none, none, none, none, none, none] [] 19 := by
  unfold FX6_worked_J19 at h
  refine kV_iconst 20 dX6_worked_19 ic_m1 rfl ?_
  cases h
  exact kV_iret dX6_worked_20
theorem okX6_worked {l : Launch} {G : kG} {n : Nat} (hG : kg_N G = 55 + 14 * n) (d : Nat) {S : kS} {a1 : Int32} {a2 : Int32} {a3 : Int32} {a4 : Int32} {res : Int32 × kS} (h : FX6_worked S a1 a2 a3 a4 = some res) : kEv l G (d + 3) mX6_worked [.ref (kg_ad G (kbo 5)), .int a1, .int a2, .int a3, .int a4] (kgl G n S) (some (.int res.1)) (kgl G n res.2) := by
  refine kEv_of RX6 [some (.ref (kg_ad G (kbo 5))), some (.int a1), some (.int a2), some (.int a3), some (.int a4), none] rfl (by decide +kernel) rfl rfl rfl rfl (fun X hX => ?_)
  subst hX
  unfold FX6_worked at h
  refine kV_aloadn 1 dX6_worked_0 rfl rfl ?_
  refine kV_iloadn 2 dX6_worked_1 rfl rfl ?_
  refine kV_iloadn 3 dX6_worked_2 rfl rfl ?_
  obtain ⟨x1, hx, h⟩ := kbi_ex h
  refine kC_V 6 [] [.int x1] dX6_worked_3 (okX6_isPlace hG d  hx) kmvX6_isPlace (wi_r9 _ (List.mem_of_getElem? (i := 11) rfl)) (kOk_of hG rfl) rfl rfl rfl rfl rfl rfl ?_
  clear hx
  rcases kif_ex h with ⟨hc, h⟩ | ⟨hc, h⟩
  · refine kV_if_eq_t 19 dX6_worked_6 (by decide) hc ?_
    clear hc
    refine kV_drop [false, false, false, false, false, false] rfl ?_
    exact TX6_worked_J19 hG h
  · refine kV_if_eq_f 19 9 dX6_worked_6 (by decide) hc rfl ?_
    clear hc
    refine kV_aloadn 10 dX6_worked_9 rfl rfl ?_
    refine kV_iloadn 11 dX6_worked_10 rfl rfl ?_
    refine kV_iload 13 dX6_worked_11 rfl rfl ?_
    obtain ⟨x2, hx, h⟩ := kbi_ex h
    refine kC_V 16 [] [.int x2] dX6_worked_13 (okX6_isPlace hG d  hx) kmvX6_isPlace (wi_r9 _ (List.mem_of_getElem? (i := 11) rfl)) (kOk_of hG rfl) rfl rfl rfl rfl rfl rfl ?_
    clear hx
    rcases kif_ex h with ⟨hc, h⟩ | ⟨hc, h⟩
    · refine kV_if_ne_f 21 19 dX6_worked_16 (by decide) hc rfl ?_
      clear hc
      refine kV_drop [false, false, false, false, false, false] rfl ?_
      exact TX6_worked_J19 hG h
    · refine kV_if_ne_t 21 dX6_worked_16 (by decide) hc ?_
      clear hc
      refine kV_iloadn 22 dX6_worked_21 rfl rfl ?_
      refine kV_iconst 23 dX6_worked_22 ic_2 rfl ?_
      refine kV_iconst 24 dX6_worked_23 ic_4 rfl ?_
      obtain ⟨x3, hx, h⟩ := kbi_ex h
      refine kC_S 27 [] [.int x3] dX6_worked_24 (okX6_in hG (d + 2)  hx) kmtX6_in (wi_r8 _ (List.mem_of_getElem? (i := 6) rfl)) rfl rfl rfl rfl rfl ?_
      clear hx
      rcases kif_ex h with ⟨hc, h⟩ | ⟨hc, h⟩
      · refine kV_if_eq_t 59 dX6_worked_27 (by decide) hc ?_
        clear hc
        refine kV_drop [false, false, false, false, false, false] rfl ?_
        exact TX6_worked_J59 hG h
      · refine kV_if_eq_f 59 30 dX6_worked_27 (by decide) hc rfl ?_
        clear hc
        refine kV_aloadn 31 dX6_worked_30 rfl rfl ?_
        refine rg6_13 34 dX6_worked_31 (kOk_of hG rfl) rfl rfl ?_
        refine kV_iconst 35 dX6_worked_34 ic_5 rfl ?_
        refine kV_iloadn 36 dX6_worked_35 rfl rfl ?_
        refine kV_imul 37 dX6_worked_36 rfl ?_
        refine kV_iloadn 38 dX6_worked_37 rfl rfl ?_
        refine kV_iadd 39 dX6_worked_38 rfl ?_
        obtain ⟨hi, h⟩ := kgd_ex h
        obtain ⟨x4, hx, h⟩ := kb_ex h
        refine rl6_3 40 dX6_worked_39 (kOk_of hG rfl) rfl hi hx rfl ?_
        clear hi hx
        refine kV_iconst 41 dX6_worked_40 ic_1 rfl ?_
        rcases kif_ex h with ⟨hc, h⟩ | ⟨hc, h⟩
        · refine kV_icmp_eq_t 59 dX6_worked_41 (by decide) hc ?_
          clear hc
          refine kV_drop [false, false, false, false, false, false] rfl ?_
          exact TX6_worked_J59 hG h
        · refine kV_icmp_eq_f 59 44 dX6_worked_41 (by decide) hc rfl ?_
          clear hc
          refine kV_aloadn 45 dX6_worked_44 rfl rfl ?_
          refine rg6_13 48 dX6_worked_45 (kOk_of hG rfl) rfl rfl ?_
          refine kV_iconst 49 dX6_worked_48 ic_5 rfl ?_
          refine kV_iloadn 50 dX6_worked_49 rfl rfl ?_
          refine kV_imul 51 dX6_worked_50 rfl ?_
          refine kV_iload 53 dX6_worked_51 rfl rfl ?_
          refine kV_iadd 54 dX6_worked_53 rfl ?_
          obtain ⟨hi, h⟩ := kgd_ex h
          obtain ⟨x5, hx, h⟩ := kb_ex h
          refine rl6_3 55 dX6_worked_54 (kOk_of hG rfl) rfl hi hx rfl ?_
          clear hi hx
          refine kV_iconst 56 dX6_worked_55 ic_1 rfl ?_
          rcases kif_ex h with ⟨hc, h⟩ | ⟨hc, h⟩
          · refine kV_icmp_ne_f 62 59 dX6_worked_56 (by decide) hc rfl ?_
            clear hc
            refine kV_drop [false, false, false, false, false, false] rfl ?_
            exact TX6_worked_J59 hG h
          · refine kV_icmp_ne_t 62 dX6_worked_56 (by decide) hc ?_
            clear hc
            refine kV_aloadn 63 dX6_worked_62 rfl rfl ?_
            refine kV_iloadn 64 dX6_worked_63 rfl rfl ?_
            obtain ⟨x6, hx, h⟩ := kbi_ex h
            refine kC_V 67 [] [.int x6] dX6_worked_64 (okX6_isOpen hG (d + 2)  hx) kmvX6_isOpen (wi_r8 _ (List.mem_of_getElem? (i := 9) rfl)) (kOk_of hG rfl) rfl rfl rfl rfl rfl rfl ?_
            clear hx
            rcases kif_ex h with ⟨hc, h⟩ | ⟨hc, h⟩
            · refine kV_if_eq_t 73 dX6_worked_67 (by decide) hc ?_
              clear hc
              refine kV_aloadn 74 dX6_worked_73 rfl rfl ?_
              refine rg6_7 77 dX6_worked_74 (kOk_of hG rfl) rfl rfl ?_
              refine kV_iloadn 78 dX6_worked_77 rfl rfl ?_
              obtain ⟨hi, h⟩ := kgd_ex h
              obtain ⟨x7, hx, h⟩ := kb_ex h
              refine rl6_2 79 dX6_worked_78 (kOk_of hG rfl) rfl hi hx rfl ?_
              clear hi hx
              refine kV_iconst 80 dX6_worked_79 ic_5 rfl ?_
              rcases kif_ex h with ⟨hc, h⟩ | ⟨hc, h⟩
              · refine kV_icmp_ne_f 86 83 dX6_worked_80 (by decide) hc rfl ?_
                clear hc
                refine kV_bipush 85 dX6_worked_83 bp_m4 rfl ?_
                cases h
                exact kV_iret dX6_worked_85
              · refine kV_icmp_ne_t 86 dX6_worked_80 (by decide) hc ?_
                clear hc
                refine kV_aloadn 87 dX6_worked_86 rfl rfl ?_
                refine kV_iloadn 88 dX6_worked_87 rfl rfl ?_
                refine kV_iconst 89 dX6_worked_88 ic_1 rfl ?_
                refine kV_iloadn 90 dX6_worked_89 rfl rfl ?_
                obtain ⟨x8, S1, hx, h⟩ := kb2_ex h
                refine kC_V 93 [] [.int x8] dX6_worked_90 (okX6_comes hG (d + 2)  hx) kmvX6_comes (wi_r8 _ (List.mem_of_getElem? (i := 14) rfl)) (kOk_of hG rfl) rfl rfl rfl rfl rfl rfl ?_
                clear hx
                refine kV_istore 95 [some (.ref (kg_ad G (kbo 5))), some (.int a1), some (.int a2), some (.int a3), some (.int a4), some (.int x8)] dX6_worked_93 rfl rfl rfl ?_
                refine kV_aloadn 96 dX6_worked_95 rfl rfl ?_
                refine rg6_19 99 dX6_worked_96 (kOk_of hG rfl) rfl rfl ?_
                refine kV_iconst 100 dX6_worked_99 ic_5 rfl ?_
                refine kV_iloadn 101 dX6_worked_100 rfl rfl ?_
                refine kV_imul 102 dX6_worked_101 rfl ?_
                refine kV_iload 104 dX6_worked_102 rfl rfl ?_
                refine kV_iadd 105 dX6_worked_104 rfl ?_
                refine kV_iconst 106 dX6_worked_105 ic_5 rfl ?_
                refine kV_iloadn 107 dX6_worked_106 rfl rfl ?_
                refine kV_imul 108 dX6_worked_107 rfl ?_
                refine kV_iloadn 109 dX6_worked_108 rfl rfl ?_
                refine kV_iadd 110 dX6_worked_109 rfl ?_
                obtain ⟨hi, h⟩ := kgd_ex h
                obtain ⟨S2, hx, h⟩ := kb_ex h
                refine rs6_5 111 dX6_worked_110 (kOk_of hG rfl) rfl hi hx rfl ?_
                clear hi hx
                refine kV_aloadn 112 dX6_worked_111 rfl rfl ?_
                refine rg6_22 115 dX6_worked_112 (kOk_of hG rfl) rfl rfl ?_
                refine kV_iconst 116 dX6_worked_115 ic_5 rfl ?_
                refine kV_iloadn 117 dX6_worked_116 rfl rfl ?_
                refine kV_imul 118 dX6_worked_117 rfl ?_
                refine kV_iload 120 dX6_worked_118 rfl rfl ?_
                refine kV_iadd 121 dX6_worked_120 rfl ?_
                refine kV_iconst 122 dX6_worked_121 ic_5 rfl ?_
                refine kV_iloadn 123 dX6_worked_122 rfl rfl ?_
                refine kV_imul 124 dX6_worked_123 rfl ?_
                refine kV_iload 126 dX6_worked_124 rfl rfl ?_
                refine kV_iadd 127 dX6_worked_126 rfl ?_
                obtain ⟨hi, h⟩ := kgd_ex h
                obtain ⟨S3, hx, h⟩ := kb_ex h
                refine rs6_6 128 dX6_worked_127 (kOk_of hG rfl) rfl hi hx rfl ?_
                clear hi hx
                refine kV_iload 130 dX6_worked_128 rfl rfl ?_
                cases h
                exact kV_iret dX6_worked_130
            · refine kV_if_eq_f 73 70 dX6_worked_67 (by decide) hc rfl ?_
              clear hc
              refine kV_bipush 72 dX6_worked_70 bp_m3 rfl ?_
              cases h
              exact kV_iret dX6_worked_72
abbrev mX6_rule : kM := (yX6_rule, cX6_rule, 8, (some .int))
theorem kmvX6_rule : kMv mX6_rule 6 6 := ⟨⟨(wi_r10 _ (List.mem_of_getElem? (i := 14) rfl)), (wi_r1 _ (List.mem_of_getElem? (i := 5) rfl)), ⟨by decide +kernel, by decide +kernel, by decide +kernel⟩, by decide⟩, (wi_r10 _ (List.mem_of_getElem? (i := 12) rfl)), (wi_r10 _ (List.mem_of_getElem? (i := 13) rfl)), rfl⟩
def FX6_rule (S : kS) (a1 : Int32) (a2 : Int32) (a3 : Int32) (a4 : Int32) (a5 : Int32) (a6 : Int32) : Option (Int32 × kS) :=
  (FX6_isOpen S a1).bind fun x1 => if x1 = 0 then (kgd (kin a1 3) <| kb (kA S 5 9 a1) fun x2 => if x2 = (6 : Int32) then (some ((-4 : Int32), S)) else (kgd (kin a1 3) <| kb (kA S 5 9 a1) fun x3 => kgd (kin (((6 : Int32) * a1) + x3) 18) <| kb (kpA S 5 10 (((6 : Int32) * a1) + x3) (a2 &&& 1)) fun S1 => kgd (kin (((6 : Int32) * a1) + x3) 18) <| kb (kpA S1 5 11 (((6 : Int32) * a1) + x3) (((5 : Int32) * a1) + a3)) fun S2 => kgd (kin (((6 : Int32) * a1) + x3) 18) <| kb (kpA S2 5 12 (((6 : Int32) * a1) + x3) a4) fun S3 => kgd (kin (((6 : Int32) * a1) + x3) 18) <| kb (kpA S3 5 13 (((6 : Int32) * a1) + x3) (((5 : Int32) * a1) + a5)) fun S4 => kgd (kin (((6 : Int32) * a1) + x3) 18) <| kb (kpA S4 5 14 (((6 : Int32) * a1) + x3) a6) fun S5 => kgd (kin a1 3) <| kb (kA S5 5 9 a1) fun x4 => kgd (kin a1 3) <| kb (kpA S5 5 9 a1 (x4 + (1 : Int32))) fun S6 => kgd (kin a1 3) <| kb (kA S6 5 9 a1) fun x5 => some ((x5 - (1 : Int32)), S6))) else (some ((-3 : Int32), S))
theorem okX6_rule {l : Launch} {G : kG} {n : Nat} (hG : kg_N G = 55 + 14 * n) (d : Nat) {S : kS} {a1 : Int32} {a2 : Int32} {a3 : Int32} {a4 : Int32} {a5 : Int32} {a6 : Int32} {res : Int32 × kS} (h : FX6_rule S a1 a2 a3 a4 a5 a6 = some res) : kEv l G (d + 1) mX6_rule [.ref (kg_ad G (kbo 5)), .int a1, .int a2, .int a3, .int a4, .int a5, .int a6] (kgl G n S) (some (.int res.1)) (kgl G n res.2) := by
  refine kEv_of RX6 [some (.ref (kg_ad G (kbo 5))), some (.int a1), some (.int a2), some (.int a3), some (.int a4), some (.int a5), some (.int a6), none] rfl (by decide +kernel) rfl rfl rfl rfl (fun X hX => ?_)
  subst hX
  unfold FX6_rule at h
  refine kV_aloadn 1 dX6_rule_0 rfl rfl ?_
  refine kV_iloadn 2 dX6_rule_1 rfl rfl ?_
  obtain ⟨x1, hx, h⟩ := kbi_ex h
  refine kC_V 5 [] [.int x1] dX6_rule_2 (okX6_isOpen hG d  hx) kmvX6_isOpen (wi_r8 _ (List.mem_of_getElem? (i := 9) rfl)) (kOk_of hG rfl) rfl rfl rfl rfl rfl rfl ?_
  clear hx
  rcases kif_ex h with ⟨hc, h⟩ | ⟨hc, h⟩
  · refine kV_if_eq_t 11 dX6_rule_5 (by decide) hc ?_
    clear hc
    refine kV_aloadn 12 dX6_rule_11 rfl rfl ?_
    refine rg6_32 15 dX6_rule_12 (kOk_of hG rfl) rfl rfl ?_
    refine kV_iloadn 16 dX6_rule_15 rfl rfl ?_
    obtain ⟨hi, h⟩ := kgd_ex h
    obtain ⟨x2, hx, h⟩ := kb_ex h
    refine rl6_9 17 dX6_rule_16 (kOk_of hG rfl) rfl hi hx rfl ?_
    clear hi hx
    refine kV_bipush 19 dX6_rule_17 bp_6 rfl ?_
    rcases kif_ex h with ⟨hc, h⟩ | ⟨hc, h⟩
    · refine kV_icmp_ne_f 25 22 dX6_rule_19 (by decide) hc rfl ?_
      clear hc
      refine kV_bipush 24 dX6_rule_22 bp_m4 rfl ?_
      cases h
      exact kV_iret dX6_rule_24
    · refine kV_icmp_ne_t 25 dX6_rule_19 (by decide) hc ?_
      clear hc
      refine kV_bipush 27 dX6_rule_25 bp_6 rfl ?_
      refine kV_iloadn 28 dX6_rule_27 rfl rfl ?_
      refine kV_imul 29 dX6_rule_28 rfl ?_
      refine kV_aloadn 30 dX6_rule_29 rfl rfl ?_
      refine rg6_32 33 dX6_rule_30 (kOk_of hG rfl) rfl rfl ?_
      refine kV_iloadn 34 dX6_rule_33 rfl rfl ?_
      obtain ⟨hi, h⟩ := kgd_ex h
      obtain ⟨x3, hx, h⟩ := kb_ex h
      refine rl6_9 35 dX6_rule_34 (kOk_of hG rfl) rfl hi hx rfl ?_
      clear hi hx
      refine kV_iadd 36 dX6_rule_35 rfl ?_
      refine kV_istore 38 [some (.ref (kg_ad G (kbo 5))), some (.int a1), some (.int a2), some (.int a3), some (.int a4), some (.int a5), some (.int a6), some (.int (((6 : Int32) * a1) + x3))] dX6_rule_36 rfl rfl rfl ?_
      refine kV_aloadn 39 dX6_rule_38 rfl rfl ?_
      refine rg6_35 42 dX6_rule_39 (kOk_of hG rfl) rfl rfl ?_
      refine kV_iload 44 dX6_rule_42 rfl rfl ?_
      refine kV_iloadn 45 dX6_rule_44 rfl rfl ?_
      obtain ⟨hi, h⟩ := kgd_ex h
      obtain ⟨S1, hx, h⟩ := kb_ex h
      refine rs6_10 46 dX6_rule_45 (kOk_of hG rfl) rfl hi hx rfl ?_
      clear hi hx
      refine kV_aloadn 47 dX6_rule_46 rfl rfl ?_
      refine rg6_38 50 dX6_rule_47 (kOk_of hG rfl) rfl rfl ?_
      refine kV_iload 52 dX6_rule_50 rfl rfl ?_
      refine kV_iconst 53 dX6_rule_52 ic_5 rfl ?_
      refine kV_iloadn 54 dX6_rule_53 rfl rfl ?_
      refine kV_imul 55 dX6_rule_54 rfl ?_
      refine kV_iloadn 56 dX6_rule_55 rfl rfl ?_
      refine kV_iadd 57 dX6_rule_56 rfl ?_
      obtain ⟨hi, h⟩ := kgd_ex h
      obtain ⟨S2, hx, h⟩ := kb_ex h
      refine rs6_11 58 dX6_rule_57 (kOk_of hG rfl) rfl hi hx rfl ?_
      clear hi hx
      refine kV_aloadn 59 dX6_rule_58 rfl rfl ?_
      refine rg6_41 62 dX6_rule_59 (kOk_of hG rfl) rfl rfl ?_
      refine kV_iload 64 dX6_rule_62 rfl rfl ?_
      refine kV_iload 66 dX6_rule_64 rfl rfl ?_
      obtain ⟨hi, h⟩ := kgd_ex h
      obtain ⟨S3, hx, h⟩ := kb_ex h
      refine rs6_12 67 dX6_rule_66 (kOk_of hG rfl) rfl hi hx rfl ?_
      clear hi hx
      refine kV_aloadn 68 dX6_rule_67 rfl rfl ?_
      refine rg6_44 71 dX6_rule_68 (kOk_of hG rfl) rfl rfl ?_
      refine kV_iload 73 dX6_rule_71 rfl rfl ?_
      refine kV_iconst 74 dX6_rule_73 ic_5 rfl ?_
      refine kV_iloadn 75 dX6_rule_74 rfl rfl ?_
      refine kV_imul 76 dX6_rule_75 rfl ?_
      refine kV_iload 78 dX6_rule_76 rfl rfl ?_
      refine kV_iadd 79 dX6_rule_78 rfl ?_
      obtain ⟨hi, h⟩ := kgd_ex h
      obtain ⟨S4, hx, h⟩ := kb_ex h
      refine rs6_13 80 dX6_rule_79 (kOk_of hG rfl) rfl hi hx rfl ?_
      clear hi hx
      refine kV_aloadn 81 dX6_rule_80 rfl rfl ?_
      refine rg6_47 84 dX6_rule_81 (kOk_of hG rfl) rfl rfl ?_
      refine kV_iload 86 dX6_rule_84 rfl rfl ?_
      refine kV_iload 88 dX6_rule_86 rfl rfl ?_
      obtain ⟨hi, h⟩ := kgd_ex h
      obtain ⟨S5, hx, h⟩ := kb_ex h
      refine rs6_14 89 dX6_rule_88 (kOk_of hG rfl) rfl hi hx rfl ?_
      clear hi hx
      refine kV_aloadn 90 dX6_rule_89 rfl rfl ?_
      refine rg6_32 93 dX6_rule_90 (kOk_of hG rfl) rfl rfl ?_
      refine kV_iloadn 94 dX6_rule_93 rfl rfl ?_
      refine kV_dup2 95 dX6_rule_94 rfl rfl rfl ?_
      obtain ⟨hi, h⟩ := kgd_ex h
      obtain ⟨x4, hx, h⟩ := kb_ex h
      refine rl6_9 96 dX6_rule_95 (kOk_of hG rfl) rfl hi hx rfl ?_
      clear hi hx
      refine kV_iconst 97 dX6_rule_96 ic_1 rfl ?_
      refine kV_iadd 98 dX6_rule_97 rfl ?_
      obtain ⟨hi, h⟩ := kgd_ex h
      obtain ⟨S6, hx, h⟩ := kb_ex h
      refine rs6_9 99 dX6_rule_98 (kOk_of hG rfl) rfl hi hx rfl ?_
      clear hi hx
      refine kV_aloadn 100 dX6_rule_99 rfl rfl ?_
      refine rg6_32 103 dX6_rule_100 (kOk_of hG rfl) rfl rfl ?_
      refine kV_iloadn 104 dX6_rule_103 rfl rfl ?_
      obtain ⟨hi, h⟩ := kgd_ex h
      obtain ⟨x5, hx, h⟩ := kb_ex h
      refine rl6_9 105 dX6_rule_104 (kOk_of hG rfl) rfl hi hx rfl ?_
      clear hi hx
      refine kV_iconst 106 dX6_rule_105 ic_1 rfl ?_
      refine kV_isub 107 dX6_rule_106 rfl ?_
      cases h
      exact kV_iret dX6_rule_107
  · refine kV_if_eq_f 11 8 dX6_rule_5 (by decide) hc rfl ?_
    clear hc
    refine kV_bipush 10 dX6_rule_8 bp_m3 rfl ?_
    cases h
    exact kV_iret dX6_rule_10
abbrev mX6_bar : kM := (yX6_bar, cX6_bar, 6, (some .int))
theorem kmvX6_bar : kMv mX6_bar 5 6 := ⟨⟨(wi_r10 _ (List.mem_of_getElem? (i := 6) rfl)), (wi_r1 _ (List.mem_of_getElem? (i := 5) rfl)), ⟨by decide +kernel, by decide +kernel, by decide +kernel⟩, by decide⟩, (wi_r10 _ (List.mem_of_getElem? (i := 4) rfl)), (wi_r10 _ (List.mem_of_getElem? (i := 5) rfl)), rfl⟩
def FX6_bar_J47 (S : kS) (s0 : Int32) : Option (Int32 × kS) :=
  some (s0, S)
def FX6_bar_J22 (S : kS) : Option (Int32 × kS) :=
  some ((-1 : Int32), S)
def FX6_bar (S : kS) (a1 : Int32) (a2 : Int32) (a3 : Int32) (a4 : Int32) (a5 : Int32) : Option (Int32 × kS) :=
  (FX6_isValue S a1 a2 a3).bind fun x1 => if x1 = 0 then (FX6_bar_J22 S) else ((FX6_isValue S a1 a4 a5).bind fun x2 => if x2 = 0 then (FX6_bar_J22 S) else (if a2 = a4 then (FX6_bar_J47 S (-2 : Int32)) else (kb2 (FX6_rule S a1 (1 : Int32) a2 a3 a4 a5) fun x3 S1 => FX6_bar_J47 S1 x3)))
theorem TX6_bar_J47 {G : kG} {n : Nat} {d : Nat} {X : kX} (hG : kg_N G = 55 + 14 * n) {S : kS} {s0 : Int32} {res : Int32 × kS} (h : FX6_bar_J47 S s0 = some res) : kV (X, RX6, 6, (some .int), G, krm (d + 4), (0, 0), kQ X G (some (.int res.1)) (kgl G n res.2)) cX6_bar (kgl G n S) [none, none, none, none, none, none] [.int s0] 47 := by
  unfold FX6_bar_J47 at h
  cases h
  exact kV_iret dX6_bar_47
theorem TX6_bar_J22 {G : kG} {n : Nat} {d : Nat} {X : kX} (hG : kg_N G = 55 + 14 * n) {S : kS} {res : Int32 × kS} (h : FX6_bar_J22 S = some res) : kV (X, RX6, 6, (some .int), G, krm (d + 4), (0, 0), kQ X G (some (.int res.1)) (kgl G n res.2)) cX6_bar (kgl G n S) [none, none, none, none, none, none] [] 22 := by
  unfold FX6_bar_J22 at h
  refine kV_iconst 23 dX6_bar_22 ic_m1 rfl ?_
  cases h
  exact kV_iret dX6_bar_23
theorem okX6_bar {l : Launch} {G : kG} {n : Nat} (hG : kg_N G = 55 + 14 * n) (d : Nat) {S : kS} {a1 : Int32} {a2 : Int32} {a3 : Int32} {a4 : Int32} {a5 : Int32} {res : Int32 × kS} (h : FX6_bar S a1 a2 a3 a4 a5 = some res) : kEv l G (d + 4) mX6_bar [.ref (kg_ad G (kbo 5)), .int a1, .int a2, .int a3, .int a4, .int a5] (kgl G n S) (some (.int res.1)) (kgl G n res.2) := by
  refine kEv_of RX6 [some (.ref (kg_ad G (kbo 5))), some (.int a1), some (.int a2), some (.int a3), some (.int a4), some (.int a5)] rfl (by decide +kernel) rfl rfl rfl rfl (fun X hX => ?_)
  subst hX
  unfold FX6_bar at h
  refine kV_aloadn 1 dX6_bar_0 rfl rfl ?_
  refine kV_iloadn 2 dX6_bar_1 rfl rfl ?_
  refine kV_iloadn 3 dX6_bar_2 rfl rfl ?_
  refine kV_iloadn 4 dX6_bar_3 rfl rfl ?_
  obtain ⟨x1, hx, h⟩ := kbi_ex h
  refine kC_V 7 [] [.int x1] dX6_bar_4 (okX6_isValue hG d  hx) kmvX6_isValue (wi_r10 _ (List.mem_of_getElem? (i := 7) rfl)) (kOk_of hG rfl) rfl rfl rfl rfl rfl rfl ?_
  clear hx
  rcases kif_ex h with ⟨hc, h⟩ | ⟨hc, h⟩
  · refine kV_if_eq_t 22 dX6_bar_7 (by decide) hc ?_
    clear hc
    refine kV_drop [false, false, false, false, false, false] rfl ?_
    exact TX6_bar_J22 hG h
  · refine kV_if_eq_f 22 10 dX6_bar_7 (by decide) hc rfl ?_
    clear hc
    refine kV_aloadn 11 dX6_bar_10 rfl rfl ?_
    refine kV_iloadn 12 dX6_bar_11 rfl rfl ?_
    refine kV_iload 14 dX6_bar_12 rfl rfl ?_
    refine kV_iload 16 dX6_bar_14 rfl rfl ?_
    obtain ⟨x2, hx, h⟩ := kbi_ex h
    refine kC_V 19 [] [.int x2] dX6_bar_16 (okX6_isValue hG d  hx) kmvX6_isValue (wi_r10 _ (List.mem_of_getElem? (i := 7) rfl)) (kOk_of hG rfl) rfl rfl rfl rfl rfl rfl ?_
    clear hx
    rcases kif_ex h with ⟨hc, h⟩ | ⟨hc, h⟩
    · refine kV_if_ne_f 24 22 dX6_bar_19 (by decide) hc rfl ?_
      clear hc
      refine kV_drop [false, false, false, false, false, false] rfl ?_
      exact TX6_bar_J22 hG h
    · refine kV_if_ne_t 24 dX6_bar_19 (by decide) hc ?_
      clear hc
      refine kV_iloadn 25 dX6_bar_24 rfl rfl ?_
      refine kV_iload 27 dX6_bar_25 rfl rfl ?_
      rcases kif_ex h with ⟨hc, h⟩ | ⟨hc, h⟩
      · refine kV_icmp_ne_f 35 30 dX6_bar_27 (by decide) hc rfl ?_
        clear hc
        refine kV_bipush 32 dX6_bar_30 bp_m2 rfl ?_
        refine kV_goto 47 dX6_bar_32 (by decide) ?_
        refine kV_drop [false, false, false, false, false, false] rfl ?_
        exact TX6_bar_J47 hG h
      · refine kV_icmp_ne_t 35 dX6_bar_27 (by decide) hc ?_
        clear hc
        refine kV_aloadn 36 dX6_bar_35 rfl rfl ?_
        refine kV_iloadn 37 dX6_bar_36 rfl rfl ?_
        refine kV_iconst 38 dX6_bar_37 ic_1 rfl ?_
        refine kV_iloadn 39 dX6_bar_38 rfl rfl ?_
        refine kV_iloadn 40 dX6_bar_39 rfl rfl ?_
        refine kV_iload 42 dX6_bar_40 rfl rfl ?_
        refine kV_iload 44 dX6_bar_42 rfl rfl ?_
        obtain ⟨x3, S1, hx, h⟩ := kb2_ex h
        refine kC_V 47 [] [.int x3] dX6_bar_44 (okX6_rule hG (d + 2)  hx) kmvX6_rule (wi_r10 _ (List.mem_of_getElem? (i := 11) rfl)) (kOk_of hG rfl) rfl rfl rfl rfl rfl rfl ?_
        clear hx
        refine kV_drop [false, false, false, false, false, false] rfl ?_
        exact TX6_bar_J47 hG h
abbrev mX6_need : kM := (yX6_need, cX6_need, 5, (some .int))
theorem kmvX6_need : kMv mX6_need 4 6 := ⟨⟨(wi_r10 _ (List.mem_of_getElem? (i := 22) rfl)), (wi_r1 _ (List.mem_of_getElem? (i := 5) rfl)), ⟨by decide +kernel, by decide +kernel, by decide +kernel⟩, by decide⟩, (wi_r10 _ (List.mem_of_getElem? (i := 20) rfl)), (wi_r10 _ (List.mem_of_getElem? (i := 21) rfl)), rfl⟩
def FX6_need_J59 (S : kS) (s0 : Int32) : Option (Int32 × kS) :=
  some (s0, S)
def FX6_need_J43 (S : kS) : Option (Int32 × kS) :=
  FX6_need_J59 S (-2 : Int32)
def FX6_need_J20 (S : kS) : Option (Int32 × kS) :=
  some ((-1 : Int32), S)
def FX6_need (S : kS) (a1 : Int32) (a2 : Int32) (a3 : Int32) (a4 : Int32) : Option (Int32 × kS) :=
  (FX6_isValue S a1 a2 a3).bind fun x1 => if x1 = 0 then (FX6_need_J20 S) else ((FX6_isPlace S a1 a4).bind fun x2 => if x2 = 0 then (FX6_need_J20 S) else (if a2 = a4 then (FX6_need_J43 S) else (kgd (kin (((5 : Int32) * a1) + a4) 15) <| kb (kA S 5 3 (((5 : Int32) * a1) + a4)) fun x3 => if x3 = (1 : Int32) then (FX6_need_J43 S) else (kb2 (FX6_rule S a1 (0 : Int32) a2 a3 a4 (0 : Int32)) fun x4 S1 => FX6_need_J59 S1 x4))))
theorem TX6_need_J59 {G : kG} {n : Nat} {d : Nat} {X : kX} (hG : kg_N G = 55 + 14 * n) {S : kS} {s0 : Int32} {res : Int32 × kS} (h : FX6_need_J59 S s0 = some res) : kV (X, RX6, 5, (some .int), G, krm (d + 4), (0, 0), kQ X G (some (.int res.1)) (kgl G n res.2)) cX6_need (kgl G n S) [none, none, none, none, none] [.int s0] 59 := by
  unfold FX6_need_J59 at h
  cases h
  exact kV_iret dX6_need_59
theorem TX6_need_J43 {G : kG} {n : Nat} {d : Nat} {X : kX} (hG : kg_N G = 55 + 14 * n) {S : kS} {res : Int32 × kS} (h : FX6_need_J43 S = some res) : kV (X, RX6, 5, (some .int), G, krm (d + 4), (0, 0), kQ X G (some (.int res.1)) (kgl G n res.2)) cX6_need (kgl G n S) [none, none, none, none, none] [] 43 := by
  unfold FX6_need_J43 at h
  refine kV_bipush 45 dX6_need_43 bp_m2 rfl ?_
  refine kV_goto 59 dX6_need_45 (by decide) ?_
  refine kV_drop [false, false, false, false, false] rfl ?_
  exact TX6_need_J59 hG h
theorem TX6_need_J20 {G : kG} {n : Nat} {d : Nat} {X : kX} (hG : kg_N G = 55 + 14 * n) {S : kS} {res : Int32 × kS} (h : FX6_need_J20 S = some res) : kV (X, RX6, 5, (some .int), G, krm (d + 4), (0, 0), kQ X G (some (.int res.1)) (kgl G n res.2)) cX6_need (kgl G n S) [none, none, none, none, none] [] 20 := by
  unfold FX6_need_J20 at h
  refine kV_iconst 21 dX6_need_20 ic_m1 rfl ?_
  cases h
  exact kV_iret dX6_need_21
theorem okX6_need {l : Launch} {G : kG} {n : Nat} (hG : kg_N G = 55 + 14 * n) (d : Nat) {S : kS} {a1 : Int32} {a2 : Int32} {a3 : Int32} {a4 : Int32} {res : Int32 × kS} (h : FX6_need S a1 a2 a3 a4 = some res) : kEv l G (d + 4) mX6_need [.ref (kg_ad G (kbo 5)), .int a1, .int a2, .int a3, .int a4] (kgl G n S) (some (.int res.1)) (kgl G n res.2) := by
  refine kEv_of RX6 [some (.ref (kg_ad G (kbo 5))), some (.int a1), some (.int a2), some (.int a3), some (.int a4)] rfl (by decide +kernel) rfl rfl rfl rfl (fun X hX => ?_)
  subst hX
  unfold FX6_need at h
  refine kV_aloadn 1 dX6_need_0 rfl rfl ?_
  refine kV_iloadn 2 dX6_need_1 rfl rfl ?_
  refine kV_iloadn 3 dX6_need_2 rfl rfl ?_
  refine kV_iloadn 4 dX6_need_3 rfl rfl ?_
  obtain ⟨x1, hx, h⟩ := kbi_ex h
  refine kC_V 7 [] [.int x1] dX6_need_4 (okX6_isValue hG d  hx) kmvX6_isValue (wi_r10 _ (List.mem_of_getElem? (i := 7) rfl)) (kOk_of hG rfl) rfl rfl rfl rfl rfl rfl ?_
  clear hx
  rcases kif_ex h with ⟨hc, h⟩ | ⟨hc, h⟩
  · refine kV_if_eq_t 20 dX6_need_7 (by decide) hc ?_
    clear hc
    refine kV_drop [false, false, false, false, false] rfl ?_
    exact TX6_need_J20 hG h
  · refine kV_if_eq_f 20 10 dX6_need_7 (by decide) hc rfl ?_
    clear hc
    refine kV_aloadn 11 dX6_need_10 rfl rfl ?_
    refine kV_iloadn 12 dX6_need_11 rfl rfl ?_
    refine kV_iload 14 dX6_need_12 rfl rfl ?_
    obtain ⟨x2, hx, h⟩ := kbi_ex h
    refine kC_V 17 [] [.int x2] dX6_need_14 (okX6_isPlace hG (d + 1)  hx) kmvX6_isPlace (wi_r9 _ (List.mem_of_getElem? (i := 11) rfl)) (kOk_of hG rfl) rfl rfl rfl rfl rfl rfl ?_
    clear hx
    rcases kif_ex h with ⟨hc, h⟩ | ⟨hc, h⟩
    · refine kV_if_ne_f 22 20 dX6_need_17 (by decide) hc rfl ?_
      clear hc
      refine kV_drop [false, false, false, false, false] rfl ?_
      exact TX6_need_J20 hG h
    · refine kV_if_ne_t 22 dX6_need_17 (by decide) hc ?_
      clear hc
      refine kV_iloadn 23 dX6_need_22 rfl rfl ?_
      refine kV_iload 25 dX6_need_23 rfl rfl ?_
      rcases kif_ex h with ⟨hc, h⟩ | ⟨hc, h⟩
      · refine kV_icmp_eq_t 43 dX6_need_25 (by decide) hc ?_
        clear hc
        refine kV_drop [false, false, false, false, false] rfl ?_
        exact TX6_need_J43 hG h
      · refine kV_icmp_eq_f 43 28 dX6_need_25 (by decide) hc rfl ?_
        clear hc
        refine kV_aloadn 29 dX6_need_28 rfl rfl ?_
        refine rg6_13 32 dX6_need_29 (kOk_of hG rfl) rfl rfl ?_
        refine kV_iconst 33 dX6_need_32 ic_5 rfl ?_
        refine kV_iloadn 34 dX6_need_33 rfl rfl ?_
        refine kV_imul 35 dX6_need_34 rfl ?_
        refine kV_iload 37 dX6_need_35 rfl rfl ?_
        refine kV_iadd 38 dX6_need_37 rfl ?_
        obtain ⟨hi, h⟩ := kgd_ex h
        obtain ⟨x3, hx, h⟩ := kb_ex h
        refine rl6_3 39 dX6_need_38 (kOk_of hG rfl) rfl hi hx rfl ?_
        clear hi hx
        refine kV_iconst 40 dX6_need_39 ic_1 rfl ?_
        rcases kif_ex h with ⟨hc, h⟩ | ⟨hc, h⟩
        · refine kV_icmp_ne_f 48 43 dX6_need_40 (by decide) hc rfl ?_
          clear hc
          refine kV_drop [false, false, false, false, false] rfl ?_
          exact TX6_need_J43 hG h
        · refine kV_icmp_ne_t 48 dX6_need_40 (by decide) hc ?_
          clear hc
          refine kV_aloadn 49 dX6_need_48 rfl rfl ?_
          refine kV_iloadn 50 dX6_need_49 rfl rfl ?_
          refine kV_iconst 51 dX6_need_50 ic_0 rfl ?_
          refine kV_iloadn 52 dX6_need_51 rfl rfl ?_
          refine kV_iloadn 53 dX6_need_52 rfl rfl ?_
          refine kV_iload 55 dX6_need_53 rfl rfl ?_
          refine kV_iconst 56 dX6_need_55 ic_0 rfl ?_
          obtain ⟨x4, S1, hx, h⟩ := kb2_ex h
          refine kC_V 59 [] [.int x4] dX6_need_56 (okX6_rule hG (d + 2)  hx) kmvX6_rule (wi_r10 _ (List.mem_of_getElem? (i := 11) rfl)) (kOk_of hG rfl) rfl rfl rfl rfl rfl rfl ?_
          clear hx
          refine kV_drop [false, false, false, false, false] rfl ?_
          exact TX6_need_J59 hG h
abbrev mX6_word : kM := (yX6_word, cX6_word, 5, (some .int))
theorem kmvX6_word : kMv mX6_word 4 6 := ⟨⟨(wi_r11 _ (List.mem_of_getElem? (i := 17) rfl)), (wi_r1 _ (List.mem_of_getElem? (i := 5) rfl)), ⟨by decide +kernel, by decide +kernel, by decide +kernel⟩, by decide⟩, (wi_r11 _ (List.mem_of_getElem? (i := 15) rfl)), (wi_r11 _ (List.mem_of_getElem? (i := 16) rfl)), rfl⟩
def FX6_word_J21 (S : kS) : Option (Int32 × kS) :=
  some ((-1 : Int32), S)
def FX6_word (S : kS) (a1 : Int32) (a2 : Int32) (a3 : Int32) (a4 : Int32) : Option (Int32 × kS) :=
  (FX6_isValue S a1 a2 a3).bind fun x1 => if x1 = 0 then (FX6_word_J21 S) else ((FX6_in S a4 (0 : Int32) (63 : Int32)).bind fun x2 => if x2 = 0 then (FX6_word_J21 S) else (kgd (kin (((5 : Int32) * a1) + a2) 15) <| kb (kA S 5 3 (((5 : Int32) * a1) + a2)) fun x3 => if x3 = (1 : Int32) then (some ((-2 : Int32), S)) else (kgd (kin (((64 : Int32) * a1) + a4) 192) <| kb (kA S 5 15 (((64 : Int32) * a1) + a4)) fun x4 => if x4 = (-1 : Int32) then (kgd (kin (((64 : Int32) * a1) + a4) 192) <| kb (kpA S 5 15 (((64 : Int32) * a1) + a4) (((4 : Int32) * a2) + a3)) fun S1 => some ((0 : Int32), S1)) else (some ((-3 : Int32), S)))))
theorem TX6_word_J21 {G : kG} {n : Nat} {d : Nat} {X : kX} (hG : kg_N G = 55 + 14 * n) {S : kS} {res : Int32 × kS} (h : FX6_word_J21 S = some res) : kV (X, RX6, 5, (some .int), G, krm (d + 4), (0, 0), kQ X G (some (.int res.1)) (kgl G n res.2)) cX6_word (kgl G n S) [none, none, none, none, none] [] 21 := by
  unfold FX6_word_J21 at h
  refine kV_iconst 22 dX6_word_21 ic_m1 rfl ?_
  cases h
  exact kV_iret dX6_word_22
theorem okX6_word {l : Launch} {G : kG} {n : Nat} (hG : kg_N G = 55 + 14 * n) (d : Nat) {S : kS} {a1 : Int32} {a2 : Int32} {a3 : Int32} {a4 : Int32} {res : Int32 × kS} (h : FX6_word S a1 a2 a3 a4 = some res) : kEv l G (d + 4) mX6_word [.ref (kg_ad G (kbo 5)), .int a1, .int a2, .int a3, .int a4] (kgl G n S) (some (.int res.1)) (kgl G n res.2) := by
  refine kEv_of RX6 [some (.ref (kg_ad G (kbo 5))), some (.int a1), some (.int a2), some (.int a3), some (.int a4)] rfl (by decide +kernel) rfl rfl rfl rfl (fun X hX => ?_)
  subst hX
  unfold FX6_word at h
  refine kV_aloadn 1 dX6_word_0 rfl rfl ?_
  refine kV_iloadn 2 dX6_word_1 rfl rfl ?_
  refine kV_iloadn 3 dX6_word_2 rfl rfl ?_
  refine kV_iloadn 4 dX6_word_3 rfl rfl ?_
  obtain ⟨x1, hx, h⟩ := kbi_ex h
  refine kC_V 7 [] [.int x1] dX6_word_4 (okX6_isValue hG d  hx) kmvX6_isValue (wi_r10 _ (List.mem_of_getElem? (i := 7) rfl)) (kOk_of hG rfl) rfl rfl rfl rfl rfl rfl ?_
  clear hx
  rcases kif_ex h with ⟨hc, h⟩ | ⟨hc, h⟩
  · refine kV_if_eq_t 21 dX6_word_7 (by decide) hc ?_
    clear hc
    refine kV_drop [false, false, false, false, false] rfl ?_
    exact TX6_word_J21 hG h
  · refine kV_if_eq_f 21 10 dX6_word_7 (by decide) hc rfl ?_
    clear hc
    refine kV_iload 12 dX6_word_10 rfl rfl ?_
    refine kV_iconst 13 dX6_word_12 ic_0 rfl ?_
    refine kV_bipush 15 dX6_word_13 bp_63 rfl ?_
    obtain ⟨x2, hx, h⟩ := kbi_ex h
    refine kC_S 18 [] [.int x2] dX6_word_15 (okX6_in hG (d + 3)  hx) kmtX6_in (wi_r8 _ (List.mem_of_getElem? (i := 6) rfl)) rfl rfl rfl rfl rfl ?_
    clear hx
    rcases kif_ex h with ⟨hc, h⟩ | ⟨hc, h⟩
    · refine kV_if_ne_f 23 21 dX6_word_18 (by decide) hc rfl ?_
      clear hc
      refine kV_drop [false, false, false, false, false] rfl ?_
      exact TX6_word_J21 hG h
    · refine kV_if_ne_t 23 dX6_word_18 (by decide) hc ?_
      clear hc
      refine kV_aloadn 24 dX6_word_23 rfl rfl ?_
      refine rg6_13 27 dX6_word_24 (kOk_of hG rfl) rfl rfl ?_
      refine kV_iconst 28 dX6_word_27 ic_5 rfl ?_
      refine kV_iloadn 29 dX6_word_28 rfl rfl ?_
      refine kV_imul 30 dX6_word_29 rfl ?_
      refine kV_iloadn 31 dX6_word_30 rfl rfl ?_
      refine kV_iadd 32 dX6_word_31 rfl ?_
      obtain ⟨hi, h⟩ := kgd_ex h
      obtain ⟨x3, hx, h⟩ := kb_ex h
      refine rl6_3 33 dX6_word_32 (kOk_of hG rfl) rfl hi hx rfl ?_
      clear hi hx
      refine kV_iconst 34 dX6_word_33 ic_1 rfl ?_
      rcases kif_ex h with ⟨hc, h⟩ | ⟨hc, h⟩
      · refine kV_icmp_ne_f 40 37 dX6_word_34 (by decide) hc rfl ?_
        clear hc
        refine kV_bipush 39 dX6_word_37 bp_m2 rfl ?_
        cases h
        exact kV_iret dX6_word_39
      · refine kV_icmp_ne_t 40 dX6_word_34 (by decide) hc ?_
        clear hc
        refine kV_aloadn 41 dX6_word_40 rfl rfl ?_
        refine rg6_50 44 dX6_word_41 (kOk_of hG rfl) rfl rfl ?_
        refine kV_bipush 46 dX6_word_44 bp_64 rfl ?_
        refine kV_iloadn 47 dX6_word_46 rfl rfl ?_
        refine kV_imul 48 dX6_word_47 rfl ?_
        refine kV_iload 50 dX6_word_48 rfl rfl ?_
        refine kV_iadd 51 dX6_word_50 rfl ?_
        obtain ⟨hi, h⟩ := kgd_ex h
        obtain ⟨x4, hx, h⟩ := kb_ex h
        refine rl6_15 52 dX6_word_51 (kOk_of hG rfl) rfl hi hx rfl ?_
        clear hi hx
        refine kV_iconst 53 dX6_word_52 ic_m1 rfl ?_
        rcases kif_ex h with ⟨hc, h⟩ | ⟨hc, h⟩
        · refine kV_icmp_eq_t 59 dX6_word_53 (by decide) hc ?_
          clear hc
          refine kV_aloadn 60 dX6_word_59 rfl rfl ?_
          refine rg6_50 63 dX6_word_60 (kOk_of hG rfl) rfl rfl ?_
          refine kV_bipush 65 dX6_word_63 bp_64 rfl ?_
          refine kV_iloadn 66 dX6_word_65 rfl rfl ?_
          refine kV_imul 67 dX6_word_66 rfl ?_
          refine kV_iload 69 dX6_word_67 rfl rfl ?_
          refine kV_iadd 70 dX6_word_69 rfl ?_
          refine kV_iconst 71 dX6_word_70 ic_4 rfl ?_
          refine kV_iloadn 72 dX6_word_71 rfl rfl ?_
          refine kV_imul 73 dX6_word_72 rfl ?_
          refine kV_iloadn 74 dX6_word_73 rfl rfl ?_
          refine kV_iadd 75 dX6_word_74 rfl ?_
          obtain ⟨hi, h⟩ := kgd_ex h
          obtain ⟨S1, hx, h⟩ := kb_ex h
          refine rs6_15 76 dX6_word_75 (kOk_of hG rfl) rfl hi hx rfl ?_
          clear hi hx
          refine kV_iconst 77 dX6_word_76 ic_0 rfl ?_
          cases h
          exact kV_iret dX6_word_77
        · refine kV_icmp_eq_f 59 56 dX6_word_53 (by decide) hc rfl ?_
          clear hc
          refine kV_bipush 58 dX6_word_56 bp_m3 rfl ?_
          cases h
          exact kV_iret dX6_word_58
abbrev mX6_item : kM := (yX6_item, cX6_item, 3, (some .int))
theorem kmvX6_item : kMv mX6_item 2 6 := ⟨⟨(wi_r12 _ (List.mem_of_getElem? (i := 8) rfl)), (wi_r1 _ (List.mem_of_getElem? (i := 5) rfl)), ⟨by decide +kernel, by decide +kernel, by decide +kernel⟩, by decide⟩, (wi_r12 _ (List.mem_of_getElem? (i := 6) rfl)), (wi_r12 _ (List.mem_of_getElem? (i := 7) rfl)), rfl⟩
def FX6_item_J36 (S : kS) : Option (Int32 × kS) :=
  some ((-2 : Int32), S)
def FX6_item_J30 (S : kS) (v1 : Int32) (v2 : Int32) (s0 : Int32) (s1 : Int32) (s2 : Int32) : Option (Int32 × kS) :=
  (FX6_in S s2 s1 s0).bind fun x1 => if x1 = 0 then (FX6_item_J36 S) else (kb (kI S 5 23) fun x2 => if x2 = (4 : Int32) then (some ((-4 : Int32), S)) else (kb (kI S 5 23) fun x3 => kgd (kin ((80 : Int32) + x3) 84) <| kb (kpA S 5 21 ((80 : Int32) + x3) v1) fun S1 => kb (kI S1 5 23) fun x4 => kgd (kin ((80 : Int32) + x4) 84) <| kb (kpA S1 5 22 ((80 : Int32) + x4) v2) fun S2 => kb (kI S2 5 23) fun x5 => kb (kpI S2 5 23 (x5 + (1 : Int32))) fun S3 => kb (kI S3 5 23) fun x6 => some (x6, S3)))
def FX6_item (S : kS) (a1 : Int32) (a2 : Int32) : Option (Int32 × kS) :=
  (FX6_in S a1 (0 : Int32) (2 : Int32)).bind fun x1 => if x1 = 0 then (FX6_item_J36 S) else (if a1 = 0 then (FX6_item_J30 S a1 a2 (63 : Int32) (0 : Int32) a2) else (if a1 = (1 : Int32) then (FX6_item_J30 S a1 a2 (4 : Int32) (0 : Int32) a2) else (FX6_item_J30 S a1 a2 (0 : Int32) (0 : Int32) a2)))
theorem TX6_item_J36 {G : kG} {n : Nat} {d : Nat} {X : kX} (hG : kg_N G = 55 + 14 * n) {S : kS} {res : Int32 × kS} (h : FX6_item_J36 S = some res) : kV (X, RX6, 3, (some .int), G, krm (d + 1), (0, 0), kQ X G (some (.int res.1)) (kgl G n res.2)) cX6_item (kgl G n S) [none, none, none] [] 36 := by
  unfold FX6_item_J36 at h
  refine kV_bipush 38 dX6_item_36 bp_m2 rfl ?_
  cases h
  exact kV_iret dX6_item_38
theorem TX6_item_J30 {G : kG} {n : Nat} {d : Nat} {X : kX} (hG : kg_N G = 55 + 14 * n) {S : kS} {v1 : Int32} {v2 : Int32} {s0 : Int32} {s1 : Int32} {s2 : Int32} {res : Int32 × kS} (h : FX6_item_J30 S v1 v2 s0 s1 s2 = some res) : kV (X, RX6, 3, (some .int), G, krm (d + 1), (0, 0), kQ X G (some (.int res.1)) (kgl G n res.2)) cX6_item (kgl G n S) [some (.ref (kg_ad G (kbo 5))), some (.int v1), some (.int v2)] [.int s0, .int s1, .int s2] 30 := by
  unfold FX6_item_J30 at h
  obtain ⟨x1, hx, h⟩ := kbi_ex h
  refine kC_S 33 [] [.int x1] dX6_item_30 (okX6_in hG d  hx) kmtX6_in (wi_r8 _ (List.mem_of_getElem? (i := 6) rfl)) rfl rfl rfl rfl rfl ?_
  clear hx
  rcases kif_ex h with ⟨hc, h⟩ | ⟨hc, h⟩
  · refine kV_if_ne_f 39 36 dX6_item_33 (by decide) hc rfl ?_
    clear hc
    refine kV_drop [false, false, false] rfl ?_
    exact TX6_item_J36 hG h
  · refine kV_if_ne_t 39 dX6_item_33 (by decide) hc ?_
    clear hc
    refine kV_aloadn 40 dX6_item_39 rfl rfl ?_
    obtain ⟨x2, hx, h⟩ := kb_ex h
    refine rg6_143 43 dX6_item_40 (kOk_of hG rfl) rfl hx rfl ?_
    clear hx
    refine kV_iconst 44 dX6_item_43 ic_4 rfl ?_
    rcases kif_ex h with ⟨hc, h⟩ | ⟨hc, h⟩
    · refine kV_icmp_ne_f 50 47 dX6_item_44 (by decide) hc rfl ?_
      clear hc
      refine kV_bipush 49 dX6_item_47 bp_m4 rfl ?_
      cases h
      exact kV_iret dX6_item_49
    · refine kV_icmp_ne_t 50 dX6_item_44 (by decide) hc ?_
      clear hc
      refine kV_aloadn 51 dX6_item_50 rfl rfl ?_
      refine rg6_65 54 dX6_item_51 (kOk_of hG rfl) rfl rfl ?_
      refine kV_bipush 56 dX6_item_54 bp_80 rfl ?_
      refine kV_aloadn 57 dX6_item_56 rfl rfl ?_
      obtain ⟨x3, hx, h⟩ := kb_ex h
      refine rg6_143 60 dX6_item_57 (kOk_of hG rfl) rfl hx rfl ?_
      clear hx
      refine kV_iadd 61 dX6_item_60 rfl ?_
      refine kV_iloadn 62 dX6_item_61 rfl rfl ?_
      obtain ⟨hi, h⟩ := kgd_ex h
      obtain ⟨S1, hx, h⟩ := kb_ex h
      refine rs6_21 63 dX6_item_62 (kOk_of hG rfl) rfl hi hx rfl ?_
      clear hi hx
      refine kV_aloadn 64 dX6_item_63 rfl rfl ?_
      refine rg6_68 67 dX6_item_64 (kOk_of hG rfl) rfl rfl ?_
      refine kV_bipush 69 dX6_item_67 bp_80 rfl ?_
      refine kV_aloadn 70 dX6_item_69 rfl rfl ?_
      obtain ⟨x4, hx, h⟩ := kb_ex h
      refine rg6_143 73 dX6_item_70 (kOk_of hG rfl) rfl hx rfl ?_
      clear hx
      refine kV_iadd 74 dX6_item_73 rfl ?_
      refine kV_iloadn 75 dX6_item_74 rfl rfl ?_
      obtain ⟨hi, h⟩ := kgd_ex h
      obtain ⟨S2, hx, h⟩ := kb_ex h
      refine rs6_22 76 dX6_item_75 (kOk_of hG rfl) rfl hi hx rfl ?_
      clear hi hx
      refine kV_aloadn 77 dX6_item_76 rfl rfl ?_
      refine kV_dup 78 dX6_item_77 rfl rfl ?_
      obtain ⟨x5, hx, h⟩ := kb_ex h
      refine rg6_143 81 dX6_item_78 (kOk_of hG rfl) rfl hx rfl ?_
      clear hx
      refine kV_iconst 82 dX6_item_81 ic_1 rfl ?_
      refine kV_iadd 83 dX6_item_82 rfl ?_
      obtain ⟨S3, hx, h⟩ := kb_ex h
      refine rp6_143 86 dX6_item_83 (kOk_of hG rfl) rfl hx rfl ?_
      clear hx
      refine kV_aloadn 87 dX6_item_86 rfl rfl ?_
      obtain ⟨x6, hx, h⟩ := kb_ex h
      refine rg6_143 90 dX6_item_87 (kOk_of hG rfl) rfl hx rfl ?_
      clear hx
      cases h
      exact kV_iret dX6_item_90
theorem okX6_item {l : Launch} {G : kG} {n : Nat} (hG : kg_N G = 55 + 14 * n) (d : Nat) {S : kS} {a1 : Int32} {a2 : Int32} {res : Int32 × kS} (h : FX6_item S a1 a2 = some res) : kEv l G (d + 1) mX6_item [.ref (kg_ad G (kbo 5)), .int a1, .int a2] (kgl G n S) (some (.int res.1)) (kgl G n res.2) := by
  refine kEv_of RX6 [some (.ref (kg_ad G (kbo 5))), some (.int a1), some (.int a2)] rfl (by decide +kernel) rfl rfl rfl rfl (fun X hX => ?_)
  subst hX
  unfold FX6_item at h
  refine kV_iloadn 1 dX6_item_0 rfl rfl ?_
  refine kV_iconst 2 dX6_item_1 ic_0 rfl ?_
  refine kV_iconst 3 dX6_item_2 ic_2 rfl ?_
  obtain ⟨x1, hx, h⟩ := kbi_ex h
  refine kC_S 6 [] [.int x1] dX6_item_3 (okX6_in hG d  hx) kmtX6_in (wi_r8 _ (List.mem_of_getElem? (i := 6) rfl)) rfl rfl rfl rfl rfl ?_
  clear hx
  rcases kif_ex h with ⟨hc, h⟩ | ⟨hc, h⟩
  · refine kV_if_eq_t 36 dX6_item_6 (by decide) hc ?_
    clear hc
    refine kV_drop [false, false, false] rfl ?_
    exact TX6_item_J36 hG h
  · refine kV_if_eq_f 36 9 dX6_item_6 (by decide) hc rfl ?_
    clear hc
    refine kV_iloadn 10 dX6_item_9 rfl rfl ?_
    refine kV_iconst 11 dX6_item_10 ic_0 rfl ?_
    refine kV_iloadn 12 dX6_item_11 rfl rfl ?_
    rcases kif_ex h with ⟨hc, h⟩ | ⟨hc, h⟩
    · refine kV_if_ne_f 20 15 dX6_item_12 (by decide) hc rfl ?_
      clear hc
      refine kV_bipush 17 dX6_item_15 bp_63 rfl ?_
      refine kV_goto 30 dX6_item_17 (by decide) ?_
      refine kV_drop [true, true, true] rfl ?_
      exact TX6_item_J30 hG h
    · refine kV_if_ne_t 20 dX6_item_12 (by decide) hc ?_
      clear hc
      refine kV_iloadn 21 dX6_item_20 rfl rfl ?_
      refine kV_iconst 22 dX6_item_21 ic_1 rfl ?_
      rcases kif_ex h with ⟨hc, h⟩ | ⟨hc, h⟩
      · refine kV_icmp_ne_f 29 25 dX6_item_22 (by decide) hc rfl ?_
        clear hc
        refine kV_iconst 26 dX6_item_25 ic_4 rfl ?_
        refine kV_goto 30 dX6_item_26 (by decide) ?_
        refine kV_drop [true, true, true] rfl ?_
        exact TX6_item_J30 hG h
      · refine kV_icmp_ne_t 29 dX6_item_22 (by decide) hc ?_
        clear hc
        refine kV_iconst 30 dX6_item_29 ic_0 rfl ?_
        refine kV_drop [true, true, true] rfl ?_
        exact TX6_item_J30 hG h
abbrev mX6_row : kM := (yX6_row, cX6_row, 7, (some .int))
theorem kmvX6_row : kMv mX6_row 3 6 := ⟨⟨(wi_r13 _ (List.mem_of_getElem? (i := 11) rfl)), (wi_r1 _ (List.mem_of_getElem? (i := 5) rfl)), ⟨by decide +kernel, by decide +kernel, by decide +kernel⟩, by decide⟩, (wi_r13 _ (List.mem_of_getElem? (i := 9) rfl)), (wi_r13 _ (List.mem_of_getElem? (i := 10) rfl)), rfl⟩
def FX6_row_J120 (c39 : kS × Int32 × Int32 × Int32 × Int32 × Int32 → Option (Int32 × kS)) (S : kS) (v1 : Int32) (v2 : Int32) (v3 : Int32) (v4 : Int32) (v5 : Int32) : Option (Int32 × kS) :=
  c39 (S, v1, v2, v3, v4, (v5 + (1 : Int32)))
def FX6_row_J118 (c39 : kS × Int32 × Int32 × Int32 × Int32 × Int32 → Option (Int32 × kS)) (S : kS) (v1 : Int32) (v2 : Int32) (v3 : Int32) (v5 : Int32) (s0 : Int32) : Option (Int32 × kS) :=
  FX6_row_J120 c39 S v1 v2 v3 s0 v5
def FX6_row_J113 (c39 : kS × Int32 × Int32 × Int32 × Int32 × Int32 → Option (Int32 × kS)) (S : kS) (v1 : Int32) (v2 : Int32) (v3 : Int32) (v5 : Int32) : Option (Int32 × kS) :=
  FX6_row_J118 c39 S v1 v2 v3 v5 (1 : Int32)
def FX6_row_B202 (c202 : kS × Int32 → Option (Int32 × kS)) (S : kS) (v5 : Int32) : Option (Int32 × kS) :=
  kb (kI S 5 23) fun x1 => if x1 ≤ v5 then (kb (kpI S 5 23 (0 : Int32)) fun S1 => kb (kI S1 5 16) fun x2 => kb (kpI S1 5 16 (x2 + (1 : Int32))) fun S2 => kb (kI S2 5 16) fun x3 => some ((x3 - (1 : Int32)), S2)) else (kb (kI S 5 16) fun x4 => kgd (kin ((80 : Int32) + v5) 84) <| kb (kA S 5 21 ((80 : Int32) + v5)) fun x5 => kgd (kin (((4 : Int32) * x4) + v5) 84) <| kb (kpA S 5 21 (((4 : Int32) * x4) + v5) x5) fun S3 => kb (kI S3 5 16) fun x6 => kgd (kin ((80 : Int32) + v5) 84) <| kb (kA S3 5 22 ((80 : Int32) + v5)) fun x7 => kgd (kin (((4 : Int32) * x6) + v5) 84) <| kb (kpA S3 5 22 (((4 : Int32) * x6) + v5) x7) fun S4 => c202 (S4, (v5 + (1 : Int32))))
def FX6_row_L202 (S : kS) (v5 : Int32) : Option (Int32 × kS) :=
  kfix (fun rec (q : kS × Int32) => FX6_row_B202 rec q.1 q.2) kfuel (S, v5)
def FX6_row_B39 (c39 : kS × Int32 × Int32 × Int32 × Int32 × Int32 → Option (Int32 × kS)) (S : kS) (v1 : Int32) (v2 : Int32) (v3 : Int32) (v4 : Int32) (v5 : Int32) : Option (Int32 × kS) :=
  kb (kI S 5 23) fun x1 => if x1 ≤ v5 then (if v4 = 0 then (kb (kI S 5 23) fun x2 => if x2 = 0 then (some ((-3 : Int32), S)) else (kb (kI S 5 16) fun x3 => if x3 = (20 : Int32) then (some ((-4 : Int32), S)) else (kb (kI S 5 16) fun x4 => kgd (kin x4 20) <| kb (kpA S 5 17 x4 v1) fun S1 => kb (kI S1 5 16) fun x5 => kgd (kin x5 20) <| kb (kpA S1 5 18 x5 v2) fun S2 => kb (kI S2 5 16) fun x6 => kgd (kin x6 20) <| kb (kpA S2 5 19 x6 v3) fun S3 => kb (kI S3 5 16) fun x7 => kb (kI S3 5 23) fun x8 => kgd (kin x7 20) <| kb (kpA S3 5 20 x7 x8) fun S4 => FX6_row_L202 S4 (0 : Int32)))) else (some ((-2 : Int32), S))) else (kgd (kin ((80 : Int32) + v5) 84) <| kb (kA S 5 21 ((80 : Int32) + v5)) fun x9 => if x9 = (1 : Int32) then (kgd (kin ((80 : Int32) + v5) 84) <| kb (kA S 5 22 ((80 : Int32) + v5)) fun x10 => (FX6_isPlace S v1 x10).bind fun x11 => if x11 = 0 then (some ((-1 : Int32), S)) else (if v4 = 0 then (kgd (kin (((5 : Int32) * v1) + x10) 15) <| kb (kA S 5 3 (((5 : Int32) * v1) + x10)) fun x12 => if x12 = (1 : Int32) then (FX6_row_J113 c39 S v1 v2 v3 v5) else (if v3 = 0 then (FX6_row_J118 c39 S v1 v2 v3 v5 (0 : Int32)) else (FX6_row_J113 c39 S v1 v2 v3 v5))) else (FX6_row_J113 c39 S v1 v2 v3 v5))) else (FX6_row_J120 c39 S v1 v2 v3 v4 v5))
def FX6_row_L39 (S : kS) (v1 : Int32) (v2 : Int32) (v3 : Int32) (v4 : Int32) (v5 : Int32) : Option (Int32 × kS) :=
  kfix (fun rec (q : kS × Int32 × Int32 × Int32 × Int32 × Int32) => FX6_row_B39 rec q.1 q.2.1 q.2.2.1 q.2.2.2.1 q.2.2.2.2.1 q.2.2.2.2.2) kfuel (S, v1, v2, v3, v4, v5)
def FX6_row_J34 (S : kS) (v1 : Int32) (v2 : Int32) (v3 : Int32) (s0 : Int32) : Option (Int32 × kS) :=
  FX6_row_L39 S v1 v2 v3 s0 (0 : Int32)
def FX6_row_J29 (S : kS) (v1 : Int32) (v2 : Int32) (v3 : Int32) : Option (Int32 × kS) :=
  FX6_row_J34 S v1 v2 v3 (1 : Int32)
def FX6_row (S : kS) (a1 : Int32) (a2 : Int32) (a3 : Int32) : Option (Int32 × kS) :=
  (FX6_isForm S a1).bind fun x1 => if x1 = 0 then (some ((-1 : Int32), S)) else ((FX6_in S a2 (1 : Int32) (9 : Int32)).bind fun x2 => if x2 = 0 then (FX6_row_J29 S a1 a2 a3) else ((FX6_in S a3 (0 : Int32) (2 : Int32)).bind fun x3 => if x3 = 0 then (FX6_row_J29 S a1 a2 a3) else (FX6_row_J34 S a1 a2 a3 (0 : Int32))))
theorem TX6_row_J120 {G : kG} {n : Nat} {d : Nat} {X : kX} (hG : kg_N G = 55 + 14 * n) {c39 : kS × Int32 × Int32 × Int32 × Int32 × Int32 → Option (Int32 × kS)} {S : kS} (hc39 : ∀ (q : kS × Int32 × Int32 × Int32 × Int32 × Int32) (res : Int32 × kS), c39 q = some res → kV (X, RX6, 7, (some .int), G, krm (d + 3), (0, 0), kQ X G (some (.int res.1)) (kgl G n res.2)) cX6_row (kgl G n q.1) [some (.ref (kg_ad G (kbo 5))), some (.int (q.2.1)), some (.int (q.2.2.1)), some (.int (q.2.2.2.1)), some (.int (q.2.2.2.2.1)), some (.int (q.2.2.2.2.2)), none] [] 39) {v1 : Int32} {v2 : Int32} {v3 : Int32} {v4 : Int32} {v5 : Int32} {res : Int32 × kS} (h : FX6_row_J120 c39 S v1 v2 v3 v4 v5 = some res) : kV (X, RX6, 7, (some .int), G, krm (d + 3), (0, 0), kQ X G (some (.int res.1)) (kgl G n res.2)) cX6_row (kgl G n S) [some (.ref (kg_ad G (kbo 5))), some (.int v1), some (.int v2), some (.int v3), some (.int v4), some (.int v5), none] [] 120 := by
  unfold FX6_row_J120 at h
  refine kV_iinc 123 [some (.ref (kg_ad G (kbo 5))), some (.int v1), some (.int v2), some (.int v3), some (.int v4), some (.int (v5 + (1 : Int32))), none] dX6_row_120 rfl (kinc_1 _) rfl rfl rfl ?_
  refine kV_goto 39 dX6_row_123 (by decide) ?_
  refine kV_drop [true, true, true, true, true, true, false] rfl ?_
  exact hc39 _ _ h
theorem TX6_row_J118 {G : kG} {n : Nat} {d : Nat} {X : kX} (hG : kg_N G = 55 + 14 * n) {c39 : kS × Int32 × Int32 × Int32 × Int32 × Int32 → Option (Int32 × kS)} {S : kS} (hc39 : ∀ (q : kS × Int32 × Int32 × Int32 × Int32 × Int32) (res : Int32 × kS), c39 q = some res → kV (X, RX6, 7, (some .int), G, krm (d + 3), (0, 0), kQ X G (some (.int res.1)) (kgl G n res.2)) cX6_row (kgl G n q.1) [some (.ref (kg_ad G (kbo 5))), some (.int (q.2.1)), some (.int (q.2.2.1)), some (.int (q.2.2.2.1)), some (.int (q.2.2.2.2.1)), some (.int (q.2.2.2.2.2)), none] [] 39) {v1 : Int32} {v2 : Int32} {v3 : Int32} {v5 : Int32} {s0 : Int32} {res : Int32 × kS} (h : FX6_row_J118 c39 S v1 v2 v3 v5 s0 = some res) : kV (X, RX6, 7, (some .int), G, krm (d + 3), (0, 0), kQ X G (some (.int res.1)) (kgl G n res.2)) cX6_row (kgl G n S) [some (.ref (kg_ad G (kbo 5))), some (.int v1), some (.int v2), some (.int v3), none, some (.int v5), none] [.int s0] 118 := by
  unfold FX6_row_J118 at h
  refine kV_istore 120 [some (.ref (kg_ad G (kbo 5))), some (.int v1), some (.int v2), some (.int v3), some (.int s0), some (.int v5), none] dX6_row_118 rfl rfl rfl ?_
  refine kV_drop [true, true, true, true, true, true, false] rfl ?_
  exact TX6_row_J120 hG hc39 h
theorem TX6_row_J113 {G : kG} {n : Nat} {d : Nat} {X : kX} (hG : kg_N G = 55 + 14 * n) {c39 : kS × Int32 × Int32 × Int32 × Int32 × Int32 → Option (Int32 × kS)} {S : kS} (hc39 : ∀ (q : kS × Int32 × Int32 × Int32 × Int32 × Int32) (res : Int32 × kS), c39 q = some res → kV (X, RX6, 7, (some .int), G, krm (d + 3), (0, 0), kQ X G (some (.int res.1)) (kgl G n res.2)) cX6_row (kgl G n q.1) [some (.ref (kg_ad G (kbo 5))), some (.int (q.2.1)), some (.int (q.2.2.1)), some (.int (q.2.2.2.1)), some (.int (q.2.2.2.2.1)), some (.int (q.2.2.2.2.2)), none] [] 39) {v1 : Int32} {v2 : Int32} {v3 : Int32} {v5 : Int32} {res : Int32 × kS} (h : FX6_row_J113 c39 S v1 v2 v3 v5 = some res) : kV (X, RX6, 7, (some .int), G, krm (d + 3), (0, 0), kQ X G (some (.int res.1)) (kgl G n res.2)) cX6_row (kgl G n S) [some (.ref (kg_ad G (kbo 5))), some (.int v1), some (.int v2), some (.int v3), none, some (.int v5), none] [] 113 := by
  unfold FX6_row_J113 at h
  refine kV_iconst 114 dX6_row_113 ic_1 rfl ?_
  refine kV_goto 118 dX6_row_114 (by decide) ?_
  refine kV_drop [true, true, true, true, false, true, false] rfl ?_
  exact TX6_row_J118 hG hc39 h
theorem TX6_row_B202 {G : kG} {n : Nat} {d : Nat} {X : kX} (hG : kg_N G = 55 + 14 * n) {c202 : kS × Int32 → Option (Int32 × kS)} (hc202 : ∀ (q : kS × Int32) (res : Int32 × kS), c202 q = some res → kV (X, RX6, 7, (some .int), G, krm (d + 3), (0, 0), kQ X G (some (.int res.1)) (kgl G n res.2)) cX6_row (kgl G n q.1) [some (.ref (kg_ad G (kbo 5))), none, none, none, none, some (.int (q.2)), none] [] 202) {S : kS} {v5 : Int32} {res : Int32 × kS} (h : FX6_row_B202 c202 S v5 = some res) : kV (X, RX6, 7, (some .int), G, krm (d + 3), (0, 0), kQ X G (some (.int res.1)) (kgl G n res.2)) cX6_row (kgl G n S) [some (.ref (kg_ad G (kbo 5))), none, none, none, none, some (.int v5), none] [] 202 := by
  unfold FX6_row_B202 at h
  refine kV_iload 204 dX6_row_202 rfl rfl ?_
  refine kV_aloadn 205 dX6_row_204 rfl rfl ?_
  obtain ⟨x1, hx, h⟩ := kb_ex h
  refine rg6_143 208 dX6_row_205 (kOk_of hG rfl) rfl hx rfl ?_
  clear hx
  rcases kif_ex h with ⟨hc, h⟩ | ⟨hc, h⟩
  · refine kV_icmp_ge_t 265 dX6_row_208 (by decide) hc ?_
    clear hc
    refine kV_aloadn 266 dX6_row_265 rfl rfl ?_
    refine kV_iconst 267 dX6_row_266 ic_0 rfl ?_
    obtain ⟨S1, hx, h⟩ := kb_ex h
    refine rp6_143 270 dX6_row_267 (kOk_of hG rfl) rfl hx rfl ?_
    clear hx
    refine kV_aloadn 271 dX6_row_270 rfl rfl ?_
    refine kV_dup 272 dX6_row_271 rfl rfl ?_
    obtain ⟨x2, hx, h⟩ := kb_ex h
    refine rg6_146 275 dX6_row_272 (kOk_of hG rfl) rfl hx rfl ?_
    clear hx
    refine kV_iconst 276 dX6_row_275 ic_1 rfl ?_
    refine kV_iadd 277 dX6_row_276 rfl ?_
    obtain ⟨S2, hx, h⟩ := kb_ex h
    refine rp6_146 280 dX6_row_277 (kOk_of hG rfl) rfl hx rfl ?_
    clear hx
    refine kV_aloadn 281 dX6_row_280 rfl rfl ?_
    obtain ⟨x3, hx, h⟩ := kb_ex h
    refine rg6_146 284 dX6_row_281 (kOk_of hG rfl) rfl hx rfl ?_
    clear hx
    refine kV_iconst 285 dX6_row_284 ic_1 rfl ?_
    refine kV_isub 286 dX6_row_285 rfl ?_
    cases h
    exact kV_iret dX6_row_286
  · refine kV_icmp_ge_f 265 211 dX6_row_208 (by decide) hc rfl ?_
    clear hc
    refine kV_aloadn 212 dX6_row_211 rfl rfl ?_
    refine rg6_65 215 dX6_row_212 (kOk_of hG rfl) rfl rfl ?_
    refine kV_iconst 216 dX6_row_215 ic_4 rfl ?_
    refine kV_aloadn 217 dX6_row_216 rfl rfl ?_
    obtain ⟨x4, hx, h⟩ := kb_ex h
    refine rg6_146 220 dX6_row_217 (kOk_of hG rfl) rfl hx rfl ?_
    clear hx
    refine kV_imul 221 dX6_row_220 rfl ?_
    refine kV_iload 223 dX6_row_221 rfl rfl ?_
    refine kV_iadd 224 dX6_row_223 rfl ?_
    refine kV_aloadn 225 dX6_row_224 rfl rfl ?_
    refine rg6_65 228 dX6_row_225 (kOk_of hG rfl) rfl rfl ?_
    refine kV_bipush 230 dX6_row_228 bp_80 rfl ?_
    refine kV_iload 232 dX6_row_230 rfl rfl ?_
    refine kV_iadd 233 dX6_row_232 rfl ?_
    obtain ⟨hi, h⟩ := kgd_ex h
    obtain ⟨x5, hx, h⟩ := kb_ex h
    refine rl6_21 234 dX6_row_233 (kOk_of hG rfl) rfl hi hx rfl ?_
    clear hi hx
    obtain ⟨hi, h⟩ := kgd_ex h
    obtain ⟨S3, hx, h⟩ := kb_ex h
    refine rs6_21 235 dX6_row_234 (kOk_of hG rfl) rfl hi hx rfl ?_
    clear hi hx
    refine kV_aloadn 236 dX6_row_235 rfl rfl ?_
    refine rg6_68 239 dX6_row_236 (kOk_of hG rfl) rfl rfl ?_
    refine kV_iconst 240 dX6_row_239 ic_4 rfl ?_
    refine kV_aloadn 241 dX6_row_240 rfl rfl ?_
    obtain ⟨x6, hx, h⟩ := kb_ex h
    refine rg6_146 244 dX6_row_241 (kOk_of hG rfl) rfl hx rfl ?_
    clear hx
    refine kV_imul 245 dX6_row_244 rfl ?_
    refine kV_iload 247 dX6_row_245 rfl rfl ?_
    refine kV_iadd 248 dX6_row_247 rfl ?_
    refine kV_aloadn 249 dX6_row_248 rfl rfl ?_
    refine rg6_68 252 dX6_row_249 (kOk_of hG rfl) rfl rfl ?_
    refine kV_bipush 254 dX6_row_252 bp_80 rfl ?_
    refine kV_iload 256 dX6_row_254 rfl rfl ?_
    refine kV_iadd 257 dX6_row_256 rfl ?_
    obtain ⟨hi, h⟩ := kgd_ex h
    obtain ⟨x7, hx, h⟩ := kb_ex h
    refine rl6_22 258 dX6_row_257 (kOk_of hG rfl) rfl hi hx rfl ?_
    clear hi hx
    obtain ⟨hi, h⟩ := kgd_ex h
    obtain ⟨S4, hx, h⟩ := kb_ex h
    refine rs6_22 259 dX6_row_258 (kOk_of hG rfl) rfl hi hx rfl ?_
    clear hi hx
    refine kV_iinc 262 [some (.ref (kg_ad G (kbo 5))), none, none, none, none, some (.int (v5 + (1 : Int32))), none] dX6_row_259 rfl (kinc_1 _) rfl rfl rfl ?_
    refine kV_goto 202 dX6_row_262 (by decide) ?_
    refine kV_drop [true, false, false, false, false, true, false] rfl ?_
    exact hc202 _ _ h
theorem TX6_row_L202 {G : kG} {n : Nat} {d : Nat} {X : kX} (hG : kg_N G = 55 + 14 * n) {S : kS} {v5 : Int32} {res : Int32 × kS} (h : FX6_row_L202 S v5 = some res) : kV (X, RX6, 7, (some .int), G, krm (d + 3), (0, 0), kQ X G (some (.int res.1)) (kgl G n res.2)) cX6_row (kgl G n S) [some (.ref (kg_ad G (kbo 5))), none, none, none, none, some (.int v5), none] [] 202 := by
  unfold FX6_row_L202 at h
  exact kfix_ok (P := fun (q : kS × Int32) (res : Int32 × kS) => kV (X, RX6, 7, (some .int), G, krm (d + 3), (0, 0), kQ X G (some (.int res.1)) (kgl G n res.2)) cX6_row (kgl G n q.1) [some (.ref (kg_ad G (kbo 5))), none, none, none, none, some (.int (q.2)), none] [] 202) (fun rec hrec q res hq => TX6_row_B202 hG hrec hq) kfuel _ _ h
theorem TX6_row_B39 {G : kG} {n : Nat} {d : Nat} {X : kX} (hG : kg_N G = 55 + 14 * n) {c39 : kS × Int32 × Int32 × Int32 × Int32 × Int32 → Option (Int32 × kS)} (hc39 : ∀ (q : kS × Int32 × Int32 × Int32 × Int32 × Int32) (res : Int32 × kS), c39 q = some res → kV (X, RX6, 7, (some .int), G, krm (d + 3), (0, 0), kQ X G (some (.int res.1)) (kgl G n res.2)) cX6_row (kgl G n q.1) [some (.ref (kg_ad G (kbo 5))), some (.int (q.2.1)), some (.int (q.2.2.1)), some (.int (q.2.2.2.1)), some (.int (q.2.2.2.2.1)), some (.int (q.2.2.2.2.2)), none] [] 39) {S : kS} {v1 : Int32} {v2 : Int32} {v3 : Int32} {v4 : Int32} {v5 : Int32} {res : Int32 × kS} (h : FX6_row_B39 c39 S v1 v2 v3 v4 v5 = some res) : kV (X, RX6, 7, (some .int), G, krm (d + 3), (0, 0), kQ X G (some (.int res.1)) (kgl G n res.2)) cX6_row (kgl G n S) [some (.ref (kg_ad G (kbo 5))), some (.int v1), some (.int v2), some (.int v3), some (.int v4), some (.int v5), none] [] 39 := by
  unfold FX6_row_B39 at h
  refine kV_iload 41 dX6_row_39 rfl rfl ?_
  refine kV_aloadn 42 dX6_row_41 rfl rfl ?_
  obtain ⟨x1, hx, h⟩ := kb_ex h
  refine rg6_143 45 dX6_row_42 (kOk_of hG rfl) rfl hx rfl ?_
  clear hx
  rcases kif_ex h with ⟨hc, h⟩ | ⟨hc, h⟩
  · refine kV_icmp_ge_t 126 dX6_row_45 (by decide) hc ?_
    clear hc
    refine kV_iload 128 dX6_row_126 rfl rfl ?_
    rcases kif_ex h with ⟨hc, h⟩ | ⟨hc, h⟩
    · refine kV_if_eq_t 134 dX6_row_128 (by decide) hc ?_
      clear hc
      refine kV_aloadn 135 dX6_row_134 rfl rfl ?_
      obtain ⟨x2, hx, h⟩ := kb_ex h
      refine rg6_143 138 dX6_row_135 (kOk_of hG rfl) rfl hx rfl ?_
      clear hx
      rcases kif_ex h with ⟨hc, h⟩ | ⟨hc, h⟩
      · refine kV_if_ne_f 144 141 dX6_row_138 (by decide) hc rfl ?_
        clear hc
        refine kV_bipush 143 dX6_row_141 bp_m3 rfl ?_
        cases h
        exact kV_iret dX6_row_143
      · refine kV_if_ne_t 144 dX6_row_138 (by decide) hc ?_
        clear hc
        refine kV_aloadn 145 dX6_row_144 rfl rfl ?_
        obtain ⟨x3, hx, h⟩ := kb_ex h
        refine rg6_146 148 dX6_row_145 (kOk_of hG rfl) rfl hx rfl ?_
        clear hx
        refine kV_bipush 150 dX6_row_148 bp_20 rfl ?_
        rcases kif_ex h with ⟨hc, h⟩ | ⟨hc, h⟩
        · refine kV_icmp_ne_f 156 153 dX6_row_150 (by decide) hc rfl ?_
          clear hc
          refine kV_bipush 155 dX6_row_153 bp_m4 rfl ?_
          cases h
          exact kV_iret dX6_row_155
        · refine kV_icmp_ne_t 156 dX6_row_150 (by decide) hc ?_
          clear hc
          refine kV_aloadn 157 dX6_row_156 rfl rfl ?_
          refine rg6_53 160 dX6_row_157 (kOk_of hG rfl) rfl rfl ?_
          refine kV_aloadn 161 dX6_row_160 rfl rfl ?_
          obtain ⟨x4, hx, h⟩ := kb_ex h
          refine rg6_146 164 dX6_row_161 (kOk_of hG rfl) rfl hx rfl ?_
          clear hx
          refine kV_iloadn 165 dX6_row_164 rfl rfl ?_
          obtain ⟨hi, h⟩ := kgd_ex h
          obtain ⟨S1, hx, h⟩ := kb_ex h
          refine rs6_17 166 dX6_row_165 (kOk_of hG rfl) rfl hi hx rfl ?_
          clear hi hx
          refine kV_aloadn 167 dX6_row_166 rfl rfl ?_
          refine rg6_56 170 dX6_row_167 (kOk_of hG rfl) rfl rfl ?_
          refine kV_aloadn 171 dX6_row_170 rfl rfl ?_
          obtain ⟨x5, hx, h⟩ := kb_ex h
          refine rg6_146 174 dX6_row_171 (kOk_of hG rfl) rfl hx rfl ?_
          clear hx
          refine kV_iloadn 175 dX6_row_174 rfl rfl ?_
          obtain ⟨hi, h⟩ := kgd_ex h
          obtain ⟨S2, hx, h⟩ := kb_ex h
          refine rs6_18 176 dX6_row_175 (kOk_of hG rfl) rfl hi hx rfl ?_
          clear hi hx
          refine kV_aloadn 177 dX6_row_176 rfl rfl ?_
          refine rg6_59 180 dX6_row_177 (kOk_of hG rfl) rfl rfl ?_
          refine kV_aloadn 181 dX6_row_180 rfl rfl ?_
          obtain ⟨x6, hx, h⟩ := kb_ex h
          refine rg6_146 184 dX6_row_181 (kOk_of hG rfl) rfl hx rfl ?_
          clear hx
          refine kV_iloadn 185 dX6_row_184 rfl rfl ?_
          obtain ⟨hi, h⟩ := kgd_ex h
          obtain ⟨S3, hx, h⟩ := kb_ex h
          refine rs6_19 186 dX6_row_185 (kOk_of hG rfl) rfl hi hx rfl ?_
          clear hi hx
          refine kV_aloadn 187 dX6_row_186 rfl rfl ?_
          refine rg6_62 190 dX6_row_187 (kOk_of hG rfl) rfl rfl ?_
          refine kV_aloadn 191 dX6_row_190 rfl rfl ?_
          obtain ⟨x7, hx, h⟩ := kb_ex h
          refine rg6_146 194 dX6_row_191 (kOk_of hG rfl) rfl hx rfl ?_
          clear hx
          refine kV_aloadn 195 dX6_row_194 rfl rfl ?_
          obtain ⟨x8, hx, h⟩ := kb_ex h
          refine rg6_143 198 dX6_row_195 (kOk_of hG rfl) rfl hx rfl ?_
          clear hx
          obtain ⟨hi, h⟩ := kgd_ex h
          obtain ⟨S4, hx, h⟩ := kb_ex h
          refine rs6_20 199 dX6_row_198 (kOk_of hG rfl) rfl hi hx rfl ?_
          clear hi hx
          refine kV_iconst 200 dX6_row_199 ic_0 rfl ?_
          refine kV_istore 202 [some (.ref (kg_ad G (kbo 5))), some (.int v1), some (.int v2), some (.int v3), some (.int v4), some (.int (0 : Int32)), none] dX6_row_200 rfl rfl rfl ?_
          refine kV_drop [true, false, false, false, false, true, false] rfl ?_
          exact TX6_row_L202 hG h
    · refine kV_if_eq_f 134 131 dX6_row_128 (by decide) hc rfl ?_
      clear hc
      refine kV_bipush 133 dX6_row_131 bp_m2 rfl ?_
      cases h
      exact kV_iret dX6_row_133
  · refine kV_icmp_ge_f 126 48 dX6_row_45 (by decide) hc rfl ?_
    clear hc
    refine kV_aloadn 49 dX6_row_48 rfl rfl ?_
    refine rg6_65 52 dX6_row_49 (kOk_of hG rfl) rfl rfl ?_
    refine kV_bipush 54 dX6_row_52 bp_80 rfl ?_
    refine kV_iload 56 dX6_row_54 rfl rfl ?_
    refine kV_iadd 57 dX6_row_56 rfl ?_
    obtain ⟨hi, h⟩ := kgd_ex h
    obtain ⟨x9, hx, h⟩ := kb_ex h
    refine rl6_21 58 dX6_row_57 (kOk_of hG rfl) rfl hi hx rfl ?_
    clear hi hx
    refine kV_iconst 59 dX6_row_58 ic_1 rfl ?_
    rcases kif_ex h with ⟨hc, h⟩ | ⟨hc, h⟩
    · refine kV_icmp_eq_t 65 dX6_row_59 (by decide) hc ?_
      clear hc
      refine kV_aloadn 66 dX6_row_65 rfl rfl ?_
      refine rg6_68 69 dX6_row_66 (kOk_of hG rfl) rfl rfl ?_
      refine kV_bipush 71 dX6_row_69 bp_80 rfl ?_
      refine kV_iload 73 dX6_row_71 rfl rfl ?_
      refine kV_iadd 74 dX6_row_73 rfl ?_
      obtain ⟨hi, h⟩ := kgd_ex h
      obtain ⟨x10, hx, h⟩ := kb_ex h
      refine rl6_22 75 dX6_row_74 (kOk_of hG rfl) rfl hi hx rfl ?_
      clear hi hx
      refine kV_istore 77 [some (.ref (kg_ad G (kbo 5))), some (.int v1), some (.int v2), some (.int v3), some (.int v4), some (.int v5), some (.int x10)] dX6_row_75 rfl rfl rfl ?_
      refine kV_aloadn 78 dX6_row_77 rfl rfl ?_
      refine kV_iloadn 79 dX6_row_78 rfl rfl ?_
      refine kV_iload 81 dX6_row_79 rfl rfl ?_
      obtain ⟨x11, hx, h⟩ := kbi_ex h
      refine kC_V 84 [] [.int x11] dX6_row_81 (okX6_isPlace hG d  hx) kmvX6_isPlace (wi_r9 _ (List.mem_of_getElem? (i := 11) rfl)) (kOk_of hG rfl) rfl rfl rfl rfl rfl rfl ?_
      clear hx
      rcases kif_ex h with ⟨hc, h⟩ | ⟨hc, h⟩
      · refine kV_if_ne_f 89 87 dX6_row_84 (by decide) hc rfl ?_
        clear hc
        refine kV_iconst 88 dX6_row_87 ic_m1 rfl ?_
        cases h
        exact kV_iret dX6_row_88
      · refine kV_if_ne_t 89 dX6_row_84 (by decide) hc ?_
        clear hc
        refine kV_iload 91 dX6_row_89 rfl rfl ?_
        rcases kif_ex h with ⟨hc, h⟩ | ⟨hc, h⟩
        · refine kV_if_ne_f 113 94 dX6_row_91 (by decide) hc rfl ?_
          clear hc
          refine kV_aloadn 95 dX6_row_94 rfl rfl ?_
          refine rg6_13 98 dX6_row_95 (kOk_of hG rfl) rfl rfl ?_
          refine kV_iconst 99 dX6_row_98 ic_5 rfl ?_
          refine kV_iloadn 100 dX6_row_99 rfl rfl ?_
          refine kV_imul 101 dX6_row_100 rfl ?_
          refine kV_iload 103 dX6_row_101 rfl rfl ?_
          refine kV_iadd 104 dX6_row_103 rfl ?_
          obtain ⟨hi, h⟩ := kgd_ex h
          obtain ⟨x12, hx, h⟩ := kb_ex h
          refine rl6_3 105 dX6_row_104 (kOk_of hG rfl) rfl hi hx rfl ?_
          clear hi hx
          refine kV_iconst 106 dX6_row_105 ic_1 rfl ?_
          rcases kif_ex h with ⟨hc, h⟩ | ⟨hc, h⟩
          · refine kV_icmp_eq_t 113 dX6_row_106 (by decide) hc ?_
            clear hc
            refine kV_drop [true, true, true, true, false, true, false] rfl ?_
            exact TX6_row_J113 hG hc39 h
          · refine kV_icmp_eq_f 113 109 dX6_row_106 (by decide) hc rfl ?_
            clear hc
            refine kV_iloadn 110 dX6_row_109 rfl rfl ?_
            rcases kif_ex h with ⟨hc, h⟩ | ⟨hc, h⟩
            · refine kV_if_eq_t 117 dX6_row_110 (by decide) hc ?_
              clear hc
              refine kV_iconst 118 dX6_row_117 ic_0 rfl ?_
              refine kV_drop [true, true, true, true, false, true, false] rfl ?_
              exact TX6_row_J118 hG hc39 h
            · refine kV_if_eq_f 117 113 dX6_row_110 (by decide) hc rfl ?_
              clear hc
              refine kV_drop [true, true, true, true, false, true, false] rfl ?_
              exact TX6_row_J113 hG hc39 h
        · refine kV_if_ne_t 113 dX6_row_91 (by decide) hc ?_
          clear hc
          refine kV_drop [true, true, true, true, false, true, false] rfl ?_
          exact TX6_row_J113 hG hc39 h
    · refine kV_icmp_eq_f 65 62 dX6_row_59 (by decide) hc rfl ?_
      clear hc
      refine kV_goto 120 dX6_row_62 (by decide) ?_
      refine kV_drop [true, true, true, true, true, true, false] rfl ?_
      exact TX6_row_J120 hG hc39 h
theorem TX6_row_L39 {G : kG} {n : Nat} {d : Nat} {X : kX} (hG : kg_N G = 55 + 14 * n) {S : kS} {v1 : Int32} {v2 : Int32} {v3 : Int32} {v4 : Int32} {v5 : Int32} {res : Int32 × kS} (h : FX6_row_L39 S v1 v2 v3 v4 v5 = some res) : kV (X, RX6, 7, (some .int), G, krm (d + 3), (0, 0), kQ X G (some (.int res.1)) (kgl G n res.2)) cX6_row (kgl G n S) [some (.ref (kg_ad G (kbo 5))), some (.int v1), some (.int v2), some (.int v3), some (.int v4), some (.int v5), none] [] 39 := by
  unfold FX6_row_L39 at h
  exact kfix_ok (P := fun (q : kS × Int32 × Int32 × Int32 × Int32 × Int32) (res : Int32 × kS) => kV (X, RX6, 7, (some .int), G, krm (d + 3), (0, 0), kQ X G (some (.int res.1)) (kgl G n res.2)) cX6_row (kgl G n q.1) [some (.ref (kg_ad G (kbo 5))), some (.int (q.2.1)), some (.int (q.2.2.1)), some (.int (q.2.2.2.1)), some (.int (q.2.2.2.2.1)), some (.int (q.2.2.2.2.2)), none] [] 39) (fun rec hrec q res hq => TX6_row_B39 hG hrec hq) kfuel _ _ h
theorem TX6_row_J34 {G : kG} {n : Nat} {d : Nat} {X : kX} (hG : kg_N G = 55 + 14 * n) {S : kS} {v1 : Int32} {v2 : Int32} {v3 : Int32} {s0 : Int32} {res : Int32 × kS} (h : FX6_row_J34 S v1 v2 v3 s0 = some res) : kV (X, RX6, 7, (some .int), G, krm (d + 3), (0, 0), kQ X G (some (.int res.1)) (kgl G n res.2)) cX6_row (kgl G n S) [some (.ref (kg_ad G (kbo 5))), some (.int v1), some (.int v2), some (.int v3), none, none, none] [.int s0] 34 := by
  unfold FX6_row_J34 at h
  refine kV_istore 36 [some (.ref (kg_ad G (kbo 5))), some (.int v1), some (.int v2), some (.int v3), some (.int s0), none, none] dX6_row_34 rfl rfl rfl ?_
  refine kV_iconst 37 dX6_row_36 ic_0 rfl ?_
  refine kV_istore 39 [some (.ref (kg_ad G (kbo 5))), some (.int v1), some (.int v2), some (.int v3), some (.int s0), some (.int (0 : Int32)), none] dX6_row_37 rfl rfl rfl ?_
  refine kV_drop [true, true, true, true, true, true, false] rfl ?_
  exact TX6_row_L39 hG h
theorem TX6_row_J29 {G : kG} {n : Nat} {d : Nat} {X : kX} (hG : kg_N G = 55 + 14 * n) {S : kS} {v1 : Int32} {v2 : Int32} {v3 : Int32} {res : Int32 × kS} (h : FX6_row_J29 S v1 v2 v3 = some res) : kV (X, RX6, 7, (some .int), G, krm (d + 3), (0, 0), kQ X G (some (.int res.1)) (kgl G n res.2)) cX6_row (kgl G n S) [some (.ref (kg_ad G (kbo 5))), some (.int v1), some (.int v2), some (.int v3), none, none, none] [] 29 := by
  unfold FX6_row_J29 at h
  refine kV_iconst 30 dX6_row_29 ic_1 rfl ?_
  refine kV_goto 34 dX6_row_30 (by decide) ?_
  refine kV_drop [true, true, true, true, false, false, false] rfl ?_
  exact TX6_row_J34 hG h
theorem okX6_row {l : Launch} {G : kG} {n : Nat} (hG : kg_N G = 55 + 14 * n) (d : Nat) {S : kS} {a1 : Int32} {a2 : Int32} {a3 : Int32} {res : Int32 × kS} (h : FX6_row S a1 a2 a3 = some res) : kEv l G (d + 3) mX6_row [.ref (kg_ad G (kbo 5)), .int a1, .int a2, .int a3] (kgl G n S) (some (.int res.1)) (kgl G n res.2) := by
  refine kEv_of RX6 [some (.ref (kg_ad G (kbo 5))), some (.int a1), some (.int a2), some (.int a3), none, none, none] rfl (by decide +kernel) rfl rfl rfl rfl (fun X hX => ?_)
  subst hX
  unfold FX6_row at h
  refine kV_aloadn 1 dX6_row_0 rfl rfl ?_
  refine kV_iloadn 2 dX6_row_1 rfl rfl ?_
  obtain ⟨x1, hx, h⟩ := kbi_ex h
  refine kC_V 5 [] [.int x1] dX6_row_2 (okX6_isForm hG (d + 1)  hx) kmvX6_isForm (wi_r8 _ (List.mem_of_getElem? (i := 2) rfl)) (kOk_of hG rfl) rfl rfl rfl rfl rfl rfl ?_
  clear hx
  rcases kif_ex h with ⟨hc, h⟩ | ⟨hc, h⟩
  · refine kV_if_ne_f 10 8 dX6_row_5 (by decide) hc rfl ?_
    clear hc
    refine kV_iconst 9 dX6_row_8 ic_m1 rfl ?_
    cases h
    exact kV_iret dX6_row_9
  · refine kV_if_ne_t 10 dX6_row_5 (by decide) hc ?_
    clear hc
    refine kV_iloadn 11 dX6_row_10 rfl rfl ?_
    refine kV_iconst 12 dX6_row_11 ic_1 rfl ?_
    refine kV_bipush 14 dX6_row_12 bp_9 rfl ?_
    obtain ⟨x2, hx, h⟩ := kbi_ex h
    refine kC_S 17 [] [.int x2] dX6_row_14 (okX6_in hG (d + 2)  hx) kmtX6_in (wi_r8 _ (List.mem_of_getElem? (i := 6) rfl)) rfl rfl rfl rfl rfl ?_
    clear hx
    rcases kif_ex h with ⟨hc, h⟩ | ⟨hc, h⟩
    · refine kV_if_eq_t 29 dX6_row_17 (by decide) hc ?_
      clear hc
      refine kV_drop [true, true, true, true, false, false, false] rfl ?_
      exact TX6_row_J29 hG h
    · refine kV_if_eq_f 29 20 dX6_row_17 (by decide) hc rfl ?_
      clear hc
      refine kV_iloadn 21 dX6_row_20 rfl rfl ?_
      refine kV_iconst 22 dX6_row_21 ic_0 rfl ?_
      refine kV_iconst 23 dX6_row_22 ic_2 rfl ?_
      obtain ⟨x3, hx, h⟩ := kbi_ex h
      refine kC_S 26 [] [.int x3] dX6_row_23 (okX6_in hG (d + 2)  hx) kmtX6_in (wi_r8 _ (List.mem_of_getElem? (i := 6) rfl)) rfl rfl rfl rfl rfl ?_
      clear hx
      rcases kif_ex h with ⟨hc, h⟩ | ⟨hc, h⟩
      · refine kV_if_ne_f 33 29 dX6_row_26 (by decide) hc rfl ?_
        clear hc
        refine kV_drop [true, true, true, true, false, false, false] rfl ?_
        exact TX6_row_J29 hG h
      · refine kV_if_ne_t 33 dX6_row_26 (by decide) hc ?_
        clear hc
        refine kV_iconst 34 dX6_row_33 ic_0 rfl ?_
        refine kV_drop [true, true, true, true, false, false, false] rfl ?_
        exact TX6_row_J34 hG h
abbrev mX6_lowest : kM := (yX6_lowest, cX6_lowest, 2, (some .int))
theorem kmtX6_lowest : kMt mX6_lowest 1 := ⟨⟨(wi_r25 _ (List.mem_of_getElem? (i := 1) rfl)), (wi_r1 _ (List.mem_of_getElem? (i := 5) rfl)), ⟨by decide +kernel, by decide +kernel, by decide +kernel⟩, by decide⟩, (wi_r25 _ (List.mem_of_getElem? (i := 0) rfl))⟩
def FX6_lowest_B2 (c2 : Int32 × Int32 → Option (Int32)) (S : kS) (v0 : Int32) (v1 : Int32) : Option (Int32) :=
  if ((v0 >>> (v1 &&& 31)) &&& (1 : Int32)) = 0 then (c2 (v0, (v1 + (1 : Int32)))) else (some v1)
def FX6_lowest_L2 (S : kS) (v0 : Int32) (v1 : Int32) : Option (Int32) :=
  kfix (fun rec (q : Int32 × Int32) => FX6_lowest_B2 rec S q.1 q.2) kfuel (v0, v1)
def FX6_lowest (S : kS) (a1 : Int32) : Option (Int32) :=
  FX6_lowest_L2 S a1 (0 : Int32)
theorem TX6_lowest_B2 {G : kG} {n : Nat} {d : Nat} {X : kX} (hG : kg_N G = 55 + 14 * n) {S : kS} {c2 : Int32 × Int32 → Option (Int32)} (hc2 : ∀ (q : Int32 × Int32) (res : Int32), c2 q = some res → kV (X, RX6, 2, (some .int), G, krm (d + 0), (0, 0), kQ X G (some (.int res)) (kgl G n S)) cX6_lowest (kgl G n S) [some (.int (q.1)), some (.int (q.2))] [] 2) {v0 : Int32} {v1 : Int32} {res : Int32} (h : FX6_lowest_B2 c2 S v0 v1 = some res) : kV (X, RX6, 2, (some .int), G, krm (d + 0), (0, 0), kQ X G (some (.int res)) (kgl G n S)) cX6_lowest (kgl G n S) [some (.int v0), some (.int v1)] [] 2 := by
  unfold FX6_lowest_B2 at h
  refine kV_iloadn 3 dX6_lowest_2 rfl rfl ?_
  refine kV_iloadn 4 dX6_lowest_3 rfl rfl ?_
  refine kV_ishr 5 dX6_lowest_4 rfl ?_
  refine kV_iconst 6 dX6_lowest_5 ic_1 rfl ?_
  refine kV_iand 7 dX6_lowest_6 rfl ?_
  rcases kif_ex h with ⟨hc, h⟩ | ⟨hc, h⟩
  · refine kV_if_ne_f 16 10 dX6_lowest_7 (by decide) hc rfl ?_
    clear hc
    refine kV_iinc 13 [some (.int v0), some (.int (v1 + (1 : Int32)))] dX6_lowest_10 rfl (kinc_1 _) rfl rfl rfl ?_
    refine kV_goto 2 dX6_lowest_13 (by decide) ?_
    refine kV_drop [true, true] rfl ?_
    exact hc2 _ _ h
  · refine kV_if_ne_t 16 dX6_lowest_7 (by decide) hc ?_
    clear hc
    refine kV_iloadn 17 dX6_lowest_16 rfl rfl ?_
    cases h
    exact kV_iret dX6_lowest_17
theorem TX6_lowest_L2 {G : kG} {n : Nat} {d : Nat} {X : kX} (hG : kg_N G = 55 + 14 * n) {S : kS} {v0 : Int32} {v1 : Int32} {res : Int32} (h : FX6_lowest_L2 S v0 v1 = some res) : kV (X, RX6, 2, (some .int), G, krm (d + 0), (0, 0), kQ X G (some (.int res)) (kgl G n S)) cX6_lowest (kgl G n S) [some (.int v0), some (.int v1)] [] 2 := by
  unfold FX6_lowest_L2 at h
  exact kfix_ok (P := fun (q : Int32 × Int32) (res : Int32) => kV (X, RX6, 2, (some .int), G, krm (d + 0), (0, 0), kQ X G (some (.int res)) (kgl G n S)) cX6_lowest (kgl G n S) [some (.int (q.1)), some (.int (q.2))] [] 2) (fun rec hrec q res hq => TX6_lowest_B2 hG hrec hq) kfuel _ _ h
theorem okX6_lowest {l : Launch} {G : kG} {n : Nat} (hG : kg_N G = 55 + 14 * n) (d : Nat) {S : kS} {a1 : Int32} {res : Int32} (h : FX6_lowest S a1 = some res) : kEv l G (d + 0) mX6_lowest [.int a1] (kgl G n S) (some (.int res)) (kgl G n S) := by
  refine kEv_of RX6 [some (.int a1), none] rfl (by decide +kernel) rfl rfl rfl rfl (fun X hX => ?_)
  subst hX
  unfold FX6_lowest at h
  refine kV_iconst 1 dX6_lowest_0 ic_0 rfl ?_
  refine kV_istoren 2 [some (.int a1), some (.int (0 : Int32))] dX6_lowest_1 rfl rfl rfl ?_
  refine kV_drop [true, true] rfl ?_
  exact TX6_lowest_L2 hG h
abbrev mX6_valueOf : kM := (yX6_valueOf, cX6_valueOf, 4, (some .int))
theorem kmvX6_valueOf : kMv mX6_valueOf 1 6 := ⟨⟨(wi_r24 _ (List.mem_of_getElem? (i := 22) rfl)), (wi_r1 _ (List.mem_of_getElem? (i := 5) rfl)), ⟨by decide +kernel, by decide +kernel, by decide +kernel⟩, by decide⟩, (wi_r24 _ (List.mem_of_getElem? (i := 20) rfl)), (wi_r24 _ (List.mem_of_getElem? (i := 21) rfl)), rfl⟩
def FX6_valueOf_J32 (S : kS) (s0 : Int32) : Option (Int32) :=
  some s0
def FX6_valueOf_J95 (S : kS) (s0 : Int32) : Option (Int32) :=
  some s0
def FX6_valueOf_J94 (S : kS) : Option (Int32) :=
  FX6_valueOf_J95 S (-1 : Int32)
def FX6_valueOf (S : kS) (a1 : Int32) : Option (Int32) :=
  kgd (kin a1 15) <| kb (kA S 5 3 a1) fun x1 => if x1 = (1 : Int32) then (kgd (kin a1 15) <| kb (kA S 5 5 a1) fun x2 => kgd (kin a1 15) <| kb (kA S 5 6 a1) fun x3 => kgd (kin x2 15) <| kb (kA S 5 8 x2) fun x4 => if x4 = 0 then (FX6_valueOf_J94 S) else (kgd (kin x3 15) <| kb (kA S 5 8 x3) fun x5 => if x5 = 0 then (FX6_valueOf_J94 S) else (kgd (kin x2 15) <| kb (kA S 5 7 x2) fun x6 => (FX6_lowest S x6).bind fun x7 => kgd (kin x3 15) <| kb (kA S 5 7 x3) fun x8 => (FX6_lowest S x8).bind fun x9 => kgd (kin a1 15) <| kb (kA S 5 4 a1) fun x10 => kgd (knz x10) <| FX6_valueOf_J95 S ((x7 + x9) - (x7 + x9) / x10 * x10)))) else (kgd (kin a1 15) <| kb (kA S 5 8 a1) fun x11 => if x11 = 0 then (FX6_valueOf_J32 S (-1 : Int32)) else (kgd (kin a1 15) <| kb (kA S 5 7 a1) fun x12 => (FX6_lowest S x12).bind fun x13 => FX6_valueOf_J32 S x13))
theorem TX6_valueOf_J32 {G : kG} {n : Nat} {d : Nat} {X : kX} (hG : kg_N G = 55 + 14 * n) {S : kS} {s0 : Int32} {res : Int32} (h : FX6_valueOf_J32 S s0 = some res) : kV (X, RX6, 4, (some .int), G, krm (d + 1), (0, 0), kQ X G (some (.int res)) (kgl G n S)) cX6_valueOf (kgl G n S) [none, none, none, none] [.int s0] 32 := by
  unfold FX6_valueOf_J32 at h
  cases h
  exact kV_iret dX6_valueOf_32
theorem TX6_valueOf_J95 {G : kG} {n : Nat} {d : Nat} {X : kX} (hG : kg_N G = 55 + 14 * n) {S : kS} {s0 : Int32} {res : Int32} (h : FX6_valueOf_J95 S s0 = some res) : kV (X, RX6, 4, (some .int), G, krm (d + 1), (0, 0), kQ X G (some (.int res)) (kgl G n S)) cX6_valueOf (kgl G n S) [none, none, none, none] [.int s0] 95 := by
  unfold FX6_valueOf_J95 at h
  cases h
  exact kV_iret dX6_valueOf_95
theorem TX6_valueOf_J94 {G : kG} {n : Nat} {d : Nat} {X : kX} (hG : kg_N G = 55 + 14 * n) {S : kS} {res : Int32} (h : FX6_valueOf_J94 S = some res) : kV (X, RX6, 4, (some .int), G, krm (d + 1), (0, 0), kQ X G (some (.int res)) (kgl G n S)) cX6_valueOf (kgl G n S) [none, none, none, none] [] 94 := by
  unfold FX6_valueOf_J94 at h
  refine kV_iconst 95 dX6_valueOf_94 ic_m1 rfl ?_
  refine kV_drop [false, false, false, false] rfl ?_
  exact TX6_valueOf_J95 hG h
theorem okX6_valueOf {l : Launch} {G : kG} {n : Nat} (hG : kg_N G = 55 + 14 * n) (d : Nat) {S : kS} {a1 : Int32} {res : Int32} (h : FX6_valueOf S a1 = some res) : kEv l G (d + 1) mX6_valueOf [.ref (kg_ad G (kbo 5)), .int a1] (kgl G n S) (some (.int res)) (kgl G n S) := by
  refine kEv_of RX6 [some (.ref (kg_ad G (kbo 5))), some (.int a1), none, none] rfl (by decide +kernel) rfl rfl rfl rfl (fun X hX => ?_)
  subst hX
  unfold FX6_valueOf at h
  refine kV_aloadn 1 dX6_valueOf_0 rfl rfl ?_
  refine rg6_13 4 dX6_valueOf_1 (kOk_of hG rfl) rfl rfl ?_
  refine kV_iloadn 5 dX6_valueOf_4 rfl rfl ?_
  obtain ⟨hi, h⟩ := kgd_ex h
  obtain ⟨x1, hx, h⟩ := kb_ex h
  refine rl6_3 6 dX6_valueOf_5 (kOk_of hG rfl) rfl hi hx rfl ?_
  clear hi hx
  refine kV_iconst 7 dX6_valueOf_6 ic_1 rfl ?_
  rcases kif_ex h with ⟨hc, h⟩ | ⟨hc, h⟩
  · refine kV_icmp_eq_t 33 dX6_valueOf_7 (by decide) hc ?_
    clear hc
    refine kV_aloadn 34 dX6_valueOf_33 rfl rfl ?_
    refine rg6_19 37 dX6_valueOf_34 (kOk_of hG rfl) rfl rfl ?_
    refine kV_iloadn 38 dX6_valueOf_37 rfl rfl ?_
    obtain ⟨hi, h⟩ := kgd_ex h
    obtain ⟨x2, hx, h⟩ := kb_ex h
    refine rl6_5 39 dX6_valueOf_38 (kOk_of hG rfl) rfl hi hx rfl ?_
    clear hi hx
    refine kV_istoren 40 [some (.ref (kg_ad G (kbo 5))), some (.int a1), some (.int x2), none] dX6_valueOf_39 rfl rfl rfl ?_
    refine kV_aloadn 41 dX6_valueOf_40 rfl rfl ?_
    refine rg6_22 44 dX6_valueOf_41 (kOk_of hG rfl) rfl rfl ?_
    refine kV_iloadn 45 dX6_valueOf_44 rfl rfl ?_
    obtain ⟨hi, h⟩ := kgd_ex h
    obtain ⟨x3, hx, h⟩ := kb_ex h
    refine rl6_6 46 dX6_valueOf_45 (kOk_of hG rfl) rfl hi hx rfl ?_
    clear hi hx
    refine kV_istoren 47 [some (.ref (kg_ad G (kbo 5))), some (.int a1), some (.int x2), some (.int x3)] dX6_valueOf_46 rfl rfl rfl ?_
    refine kV_aloadn 48 dX6_valueOf_47 rfl rfl ?_
    refine rg6_28 51 dX6_valueOf_48 (kOk_of hG rfl) rfl rfl ?_
    refine kV_iloadn 52 dX6_valueOf_51 rfl rfl ?_
    obtain ⟨hi, h⟩ := kgd_ex h
    obtain ⟨x4, hx, h⟩ := kb_ex h
    refine rl6_8 53 dX6_valueOf_52 (kOk_of hG rfl) rfl hi hx rfl ?_
    clear hi hx
    rcases kif_ex h with ⟨hc, h⟩ | ⟨hc, h⟩
    · refine kV_if_eq_t 94 dX6_valueOf_53 (by decide) hc ?_
      clear hc
      refine kV_drop [false, false, false, false] rfl ?_
      exact TX6_valueOf_J94 hG h
    · refine kV_if_eq_f 94 56 dX6_valueOf_53 (by decide) hc rfl ?_
      clear hc
      refine kV_aloadn 57 dX6_valueOf_56 rfl rfl ?_
      refine rg6_28 60 dX6_valueOf_57 (kOk_of hG rfl) rfl rfl ?_
      refine kV_iloadn 61 dX6_valueOf_60 rfl rfl ?_
      obtain ⟨hi, h⟩ := kgd_ex h
      obtain ⟨x5, hx, h⟩ := kb_ex h
      refine rl6_8 62 dX6_valueOf_61 (kOk_of hG rfl) rfl hi hx rfl ?_
      clear hi hx
      rcases kif_ex h with ⟨hc, h⟩ | ⟨hc, h⟩
      · refine kV_if_eq_t 94 dX6_valueOf_62 (by decide) hc ?_
        clear hc
        refine kV_drop [false, false, false, false] rfl ?_
        exact TX6_valueOf_J94 hG h
      · refine kV_if_eq_f 94 65 dX6_valueOf_62 (by decide) hc rfl ?_
        clear hc
        refine kV_aloadn 66 dX6_valueOf_65 rfl rfl ?_
        refine rg6_25 69 dX6_valueOf_66 (kOk_of hG rfl) rfl rfl ?_
        refine kV_iloadn 70 dX6_valueOf_69 rfl rfl ?_
        obtain ⟨hi, h⟩ := kgd_ex h
        obtain ⟨x6, hx, h⟩ := kb_ex h
        refine rl6_7 71 dX6_valueOf_70 (kOk_of hG rfl) rfl hi hx rfl ?_
        clear hi hx
        obtain ⟨x7, hx, h⟩ := kbi_ex h
        refine kC_S 74 [] [.int x7] dX6_valueOf_71 (okX6_lowest hG d  hx) kmtX6_lowest (wi_r24 _ (List.mem_of_getElem? (i := 23) rfl)) rfl rfl rfl rfl rfl ?_
        clear hx
        refine kV_aloadn 75 dX6_valueOf_74 rfl rfl ?_
        refine rg6_25 78 dX6_valueOf_75 (kOk_of hG rfl) rfl rfl ?_
        refine kV_iloadn 79 dX6_valueOf_78 rfl rfl ?_
        obtain ⟨hi, h⟩ := kgd_ex h
        obtain ⟨x8, hx, h⟩ := kb_ex h
        refine rl6_7 80 dX6_valueOf_79 (kOk_of hG rfl) rfl hi hx rfl ?_
        clear hi hx
        obtain ⟨x9, hx, h⟩ := kbi_ex h
        refine kC_S 83 [.int x7] [.int x9, .int x7] dX6_valueOf_80 (okX6_lowest hG d  hx) kmtX6_lowest (wi_r24 _ (List.mem_of_getElem? (i := 23) rfl)) rfl rfl rfl rfl rfl ?_
        clear hx
        refine kV_iadd 84 dX6_valueOf_83 rfl ?_
        refine kV_aloadn 85 dX6_valueOf_84 rfl rfl ?_
        refine rg6_16 88 dX6_valueOf_85 (kOk_of hG rfl) rfl rfl ?_
        refine kV_iloadn 89 dX6_valueOf_88 rfl rfl ?_
        obtain ⟨hi, h⟩ := kgd_ex h
        obtain ⟨x10, hx, h⟩ := kb_ex h
        refine rl6_4 90 dX6_valueOf_89 (kOk_of hG rfl) rfl hi hx rfl ?_
        clear hi hx
        obtain ⟨hn, h⟩ := kgd2_ex h
        refine kV_irem 91 dX6_valueOf_90 hn rfl ?_
        refine kV_goto 95 dX6_valueOf_91 (by decide) ?_
        refine kV_drop [false, false, false, false] rfl ?_
        exact TX6_valueOf_J95 hG h
  · refine kV_icmp_eq_f 33 10 dX6_valueOf_7 (by decide) hc rfl ?_
    clear hc
    refine kV_aloadn 11 dX6_valueOf_10 rfl rfl ?_
    refine rg6_28 14 dX6_valueOf_11 (kOk_of hG rfl) rfl rfl ?_
    refine kV_iloadn 15 dX6_valueOf_14 rfl rfl ?_
    obtain ⟨hi, h⟩ := kgd_ex h
    obtain ⟨x11, hx, h⟩ := kb_ex h
    refine rl6_8 16 dX6_valueOf_15 (kOk_of hG rfl) rfl hi hx rfl ?_
    clear hi hx
    rcases kif_ex h with ⟨hc, h⟩ | ⟨hc, h⟩
    · refine kV_if_eq_t 31 dX6_valueOf_16 (by decide) hc ?_
      clear hc
      refine kV_iconst 32 dX6_valueOf_31 ic_m1 rfl ?_
      refine kV_drop [false, false, false, false] rfl ?_
      exact TX6_valueOf_J32 hG h
    · refine kV_if_eq_f 31 19 dX6_valueOf_16 (by decide) hc rfl ?_
      clear hc
      refine kV_aloadn 20 dX6_valueOf_19 rfl rfl ?_
      refine rg6_25 23 dX6_valueOf_20 (kOk_of hG rfl) rfl rfl ?_
      refine kV_iloadn 24 dX6_valueOf_23 rfl rfl ?_
      obtain ⟨hi, h⟩ := kgd_ex h
      obtain ⟨x12, hx, h⟩ := kb_ex h
      refine rl6_7 25 dX6_valueOf_24 (kOk_of hG rfl) rfl hi hx rfl ?_
      clear hi hx
      obtain ⟨x13, hx, h⟩ := kbi_ex h
      refine kC_S 28 [] [.int x13] dX6_valueOf_25 (okX6_lowest hG d  hx) kmtX6_lowest (wi_r24 _ (List.mem_of_getElem? (i := 23) rfl)) rfl rfl rfl rfl rfl ?_
      clear hx
      refine kV_goto 32 dX6_valueOf_28 (by decide) ?_
      refine kV_drop [false, false, false, false] rfl ?_
      exact TX6_valueOf_J32 hG h
abbrev mX6_isWanted : kM := (yX6_isWanted, cX6_isWanted, 6, (some .boolean))
theorem kmvX6_isWanted : kMv mX6_isWanted 2 6 := ⟨⟨(wi_r29 _ (List.mem_of_getElem? (i := 0) rfl)), (wi_r1 _ (List.mem_of_getElem? (i := 5) rfl)), ⟨by decide +kernel, by decide +kernel, by decide +kernel⟩, by decide⟩, (wi_r28 _ (List.mem_of_getElem? (i := 22) rfl)), (wi_r28 _ (List.mem_of_getElem? (i := 23) rfl)), rfl⟩
def FX6_isWanted_J81 (c15 : Int32 × Int32 × Int32 × Int32 → Option (Int32)) (S : kS) (v1 : Int32) (v3 : Int32) (v4 : Int32) (v5 : Int32) : Option (Int32) :=
  c15 (v1, v3, v4, (v5 + (1 : Int32)))
def FX6_isWanted_J107 (S : kS) (s0 : Int32) : Option (Int32) :=
  kgd (kz s0) <| some s0
def FX6_isWanted_J106 (S : kS) : Option (Int32) :=
  FX6_isWanted_J107 S (0 : Int32)
def FX6_isWanted_B15 (c15 : Int32 × Int32 × Int32 × Int32 → Option (Int32)) (S : kS) (v1 : Int32) (v3 : Int32) (v4 : Int32) (v5 : Int32) : Option (Int32) :=
  kgd (kin v1 3) <| kb (kA S 5 9 v1) fun x1 => if (((6 : Int32) * v1) + x1) ≤ v5 then (if v4 = 0 then (kgd (kin v3 15) <| kb (kA S 5 3 v3) fun x2 => if x2 = (1 : Int32) then (FX6_isWanted_J106 S) else (FX6_isWanted_J107 S (1 : Int32))) else (FX6_isWanted_J106 S)) else (kgd (kin v5 18) <| kb (kA S 5 10 v5) fun x3 => if x3 = 0 then (kgd (kin v5 18) <| kb (kA S 5 13 v5) fun x4 => if x4 = v3 then (kgd (kin v5 18) <| kb (kA S 5 11 v5) fun x5 => (FX6_valueOf S x5).bind fun x6 => kgd (kin v5 18) <| kb (kA S 5 12 v5) fun x7 => if x6 = x7 then (some (1 : Int32)) else (FX6_isWanted_J81 c15 S v1 v3 (1 : Int32) v5)) else (FX6_isWanted_J81 c15 S v1 v3 v4 v5)) else (FX6_isWanted_J81 c15 S v1 v3 v4 v5))
def FX6_isWanted_L15 (S : kS) (v1 : Int32) (v3 : Int32) (v4 : Int32) (v5 : Int32) : Option (Int32) :=
  kfix (fun rec (q : Int32 × Int32 × Int32 × Int32) => FX6_isWanted_B15 rec S q.1 q.2.1 q.2.2.1 q.2.2.2) kfuel (v1, v3, v4, v5)
def FX6_isWanted (S : kS) (a1 : Int32) (a2 : Int32) : Option (Int32) :=
  FX6_isWanted_L15 S a1 (((5 : Int32) * a1) + a2) (0 : Int32) ((6 : Int32) * a1)
theorem TX6_isWanted_J81 {G : kG} {n : Nat} {d : Nat} {X : kX} (hG : kg_N G = 55 + 14 * n) {c15 : Int32 × Int32 × Int32 × Int32 → Option (Int32)} {S : kS} (hc15 : ∀ (q : Int32 × Int32 × Int32 × Int32) (res : Int32), c15 q = some res → kV (X, RX6, 6, (some .boolean), G, krm (d + 2), (0, 0), kQ X G (some (.int res)) (kgl G n S)) cX6_isWanted (kgl G n S) [some (.ref (kg_ad G (kbo 5))), some (.int (q.1)), none, some (.int (q.2.1)), some (.int (q.2.2.1)), some (.int (q.2.2.2))] [] 15) {v1 : Int32} {v3 : Int32} {v4 : Int32} {v5 : Int32} {res : Int32} (h : FX6_isWanted_J81 c15 S v1 v3 v4 v5 = some res) : kV (X, RX6, 6, (some .boolean), G, krm (d + 2), (0, 0), kQ X G (some (.int res)) (kgl G n S)) cX6_isWanted (kgl G n S) [some (.ref (kg_ad G (kbo 5))), some (.int v1), none, some (.int v3), some (.int v4), some (.int v5)] [] 81 := by
  unfold FX6_isWanted_J81 at h
  refine kV_iinc 84 [some (.ref (kg_ad G (kbo 5))), some (.int v1), none, some (.int v3), some (.int v4), some (.int (v5 + (1 : Int32)))] dX6_isWanted_81 rfl (kinc_1 _) rfl rfl rfl ?_
  refine kV_goto 15 dX6_isWanted_84 (by decide) ?_
  refine kV_drop [true, true, false, true, true, true] rfl ?_
  exact hc15 _ _ h
theorem TX6_isWanted_J107 {G : kG} {n : Nat} {d : Nat} {X : kX} (hG : kg_N G = 55 + 14 * n) {S : kS} {s0 : Int32} {res : Int32} (h : FX6_isWanted_J107 S s0 = some res) : kV (X, RX6, 6, (some .boolean), G, krm (d + 2), (0, 0), kQ X G (some (.int res)) (kgl G n S)) cX6_isWanted (kgl G n S) [none, none, none, none, none, none] [.int s0] 107 := by
  unfold FX6_isWanted_J107 at h
  obtain ⟨hz, h⟩ := kgd_ex h
  cases h
  exact kV_zret dX6_isWanted_107 (of_decide_eq_true hz)
theorem TX6_isWanted_J106 {G : kG} {n : Nat} {d : Nat} {X : kX} (hG : kg_N G = 55 + 14 * n) {S : kS} {res : Int32} (h : FX6_isWanted_J106 S = some res) : kV (X, RX6, 6, (some .boolean), G, krm (d + 2), (0, 0), kQ X G (some (.int res)) (kgl G n S)) cX6_isWanted (kgl G n S) [none, none, none, none, none, none] [] 106 := by
  unfold FX6_isWanted_J106 at h
  refine kV_iconst 107 dX6_isWanted_106 ic_0 rfl ?_
  refine kV_drop [false, false, false, false, false, false] rfl ?_
  exact TX6_isWanted_J107 hG h
theorem TX6_isWanted_B15 {G : kG} {n : Nat} {d : Nat} {X : kX} (hG : kg_N G = 55 + 14 * n) {S : kS} {c15 : Int32 × Int32 × Int32 × Int32 → Option (Int32)} (hc15 : ∀ (q : Int32 × Int32 × Int32 × Int32) (res : Int32), c15 q = some res → kV (X, RX6, 6, (some .boolean), G, krm (d + 2), (0, 0), kQ X G (some (.int res)) (kgl G n S)) cX6_isWanted (kgl G n S) [some (.ref (kg_ad G (kbo 5))), some (.int (q.1)), none, some (.int (q.2.1)), some (.int (q.2.2.1)), some (.int (q.2.2.2))] [] 15) {v1 : Int32} {v3 : Int32} {v4 : Int32} {v5 : Int32} {res : Int32} (h : FX6_isWanted_B15 c15 S v1 v3 v4 v5 = some res) : kV (X, RX6, 6, (some .boolean), G, krm (d + 2), (0, 0), kQ X G (some (.int res)) (kgl G n S)) cX6_isWanted (kgl G n S) [some (.ref (kg_ad G (kbo 5))), some (.int v1), none, some (.int v3), some (.int v4), some (.int v5)] [] 15 := by
  unfold FX6_isWanted_B15 at h
  refine kV_iload 17 dX6_isWanted_15 rfl rfl ?_
  refine kV_bipush 19 dX6_isWanted_17 bp_6 rfl ?_
  refine kV_iloadn 20 dX6_isWanted_19 rfl rfl ?_
  refine kV_imul 21 dX6_isWanted_20 rfl ?_
  refine kV_aloadn 22 dX6_isWanted_21 rfl rfl ?_
  refine rg6_32 25 dX6_isWanted_22 (kOk_of hG rfl) rfl rfl ?_
  refine kV_iloadn 26 dX6_isWanted_25 rfl rfl ?_
  obtain ⟨hi, h⟩ := kgd_ex h
  obtain ⟨x1, hx, h⟩ := kb_ex h
  refine rl6_9 27 dX6_isWanted_26 (kOk_of hG rfl) rfl hi hx rfl ?_
  clear hi hx
  refine kV_iadd 28 dX6_isWanted_27 rfl ?_
  rcases kif_ex h with ⟨hc, h⟩ | ⟨hc, h⟩
  · refine kV_icmp_ge_t 87 dX6_isWanted_28 (by decide) hc ?_
    clear hc
    refine kV_iload 89 dX6_isWanted_87 rfl rfl ?_
    rcases kif_ex h with ⟨hc, h⟩ | ⟨hc, h⟩
    · refine kV_if_ne_f 106 92 dX6_isWanted_89 (by decide) hc rfl ?_
      clear hc
      refine kV_aloadn 93 dX6_isWanted_92 rfl rfl ?_
      refine rg6_13 96 dX6_isWanted_93 (kOk_of hG rfl) rfl rfl ?_
      refine kV_iloadn 97 dX6_isWanted_96 rfl rfl ?_
      obtain ⟨hi, h⟩ := kgd_ex h
      obtain ⟨x2, hx, h⟩ := kb_ex h
      refine rl6_3 98 dX6_isWanted_97 (kOk_of hG rfl) rfl hi hx rfl ?_
      clear hi hx
      refine kV_iconst 99 dX6_isWanted_98 ic_1 rfl ?_
      rcases kif_ex h with ⟨hc, h⟩ | ⟨hc, h⟩
      · refine kV_icmp_eq_t 106 dX6_isWanted_99 (by decide) hc ?_
        clear hc
        refine kV_drop [false, false, false, false, false, false] rfl ?_
        exact TX6_isWanted_J106 hG h
      · refine kV_icmp_eq_f 106 102 dX6_isWanted_99 (by decide) hc rfl ?_
        clear hc
        refine kV_iconst 103 dX6_isWanted_102 ic_1 rfl ?_
        refine kV_goto 107 dX6_isWanted_103 (by decide) ?_
        refine kV_drop [false, false, false, false, false, false] rfl ?_
        exact TX6_isWanted_J107 hG h
    · refine kV_if_ne_t 106 dX6_isWanted_89 (by decide) hc ?_
      clear hc
      refine kV_drop [false, false, false, false, false, false] rfl ?_
      exact TX6_isWanted_J106 hG h
  · refine kV_icmp_ge_f 87 31 dX6_isWanted_28 (by decide) hc rfl ?_
    clear hc
    refine kV_aloadn 32 dX6_isWanted_31 rfl rfl ?_
    refine rg6_35 35 dX6_isWanted_32 (kOk_of hG rfl) rfl rfl ?_
    refine kV_iload 37 dX6_isWanted_35 rfl rfl ?_
    obtain ⟨hi, h⟩ := kgd_ex h
    obtain ⟨x3, hx, h⟩ := kb_ex h
    refine rl6_10 38 dX6_isWanted_37 (kOk_of hG rfl) rfl hi hx rfl ?_
    clear hi hx
    rcases kif_ex h with ⟨hc, h⟩ | ⟨hc, h⟩
    · refine kV_if_ne_f 81 41 dX6_isWanted_38 (by decide) hc rfl ?_
      clear hc
      refine kV_aloadn 42 dX6_isWanted_41 rfl rfl ?_
      refine rg6_44 45 dX6_isWanted_42 (kOk_of hG rfl) rfl rfl ?_
      refine kV_iload 47 dX6_isWanted_45 rfl rfl ?_
      obtain ⟨hi, h⟩ := kgd_ex h
      obtain ⟨x4, hx, h⟩ := kb_ex h
      refine rl6_13 48 dX6_isWanted_47 (kOk_of hG rfl) rfl hi hx rfl ?_
      clear hi hx
      refine kV_iloadn 49 dX6_isWanted_48 rfl rfl ?_
      rcases kif_ex h with ⟨hc, h⟩ | ⟨hc, h⟩
      · refine kV_icmp_eq_t 55 dX6_isWanted_49 (by decide) hc ?_
        clear hc
        refine kV_aloadn 56 dX6_isWanted_55 rfl rfl ?_
        refine kV_aloadn 57 dX6_isWanted_56 rfl rfl ?_
        refine rg6_38 60 dX6_isWanted_57 (kOk_of hG rfl) rfl rfl ?_
        refine kV_iload 62 dX6_isWanted_60 rfl rfl ?_
        obtain ⟨hi, h⟩ := kgd_ex h
        obtain ⟨x5, hx, h⟩ := kb_ex h
        refine rl6_11 63 dX6_isWanted_62 (kOk_of hG rfl) rfl hi hx rfl ?_
        clear hi hx
        obtain ⟨x6, hx, h⟩ := kbi_ex h
        refine kC_V 66 [] [.int x6] dX6_isWanted_63 (okX6_valueOf hG d  hx) kmvX6_valueOf (wi_r24 _ (List.mem_of_getElem? (i := 19) rfl)) (kOk_of hG rfl) rfl rfl rfl rfl rfl rfl ?_
        clear hx
        refine kV_aloadn 67 dX6_isWanted_66 rfl rfl ?_
        refine rg6_41 70 dX6_isWanted_67 (kOk_of hG rfl) rfl rfl ?_
        refine kV_iload 72 dX6_isWanted_70 rfl rfl ?_
        obtain ⟨hi, h⟩ := kgd_ex h
        obtain ⟨x7, hx, h⟩ := kb_ex h
        refine rl6_12 73 dX6_isWanted_72 (kOk_of hG rfl) rfl hi hx rfl ?_
        clear hi hx
        rcases kif_ex h with ⟨hc, h⟩ | ⟨hc, h⟩
        · refine kV_icmp_ne_f 78 76 dX6_isWanted_73 (by decide) hc rfl ?_
          clear hc
          refine kV_iconst 77 dX6_isWanted_76 ic_1 rfl ?_
          cases h
          exact kV_zret dX6_isWanted_77 (by decide)
        · refine kV_icmp_ne_t 78 dX6_isWanted_73 (by decide) hc ?_
          clear hc
          refine kV_iconst 79 dX6_isWanted_78 ic_1 rfl ?_
          refine kV_istore 81 [some (.ref (kg_ad G (kbo 5))), some (.int v1), none, some (.int v3), some (.int (1 : Int32)), some (.int v5)] dX6_isWanted_79 rfl rfl rfl ?_
          refine kV_drop [true, true, false, true, true, true] rfl ?_
          exact TX6_isWanted_J81 hG hc15 h
      · refine kV_icmp_eq_f 55 52 dX6_isWanted_49 (by decide) hc rfl ?_
        clear hc
        refine kV_goto 81 dX6_isWanted_52 (by decide) ?_
        refine kV_drop [true, true, false, true, true, true] rfl ?_
        exact TX6_isWanted_J81 hG hc15 h
    · refine kV_if_ne_t 81 dX6_isWanted_38 (by decide) hc ?_
      clear hc
      refine kV_drop [true, true, false, true, true, true] rfl ?_
      exact TX6_isWanted_J81 hG hc15 h
theorem TX6_isWanted_L15 {G : kG} {n : Nat} {d : Nat} {X : kX} (hG : kg_N G = 55 + 14 * n) {S : kS} {v1 : Int32} {v3 : Int32} {v4 : Int32} {v5 : Int32} {res : Int32} (h : FX6_isWanted_L15 S v1 v3 v4 v5 = some res) : kV (X, RX6, 6, (some .boolean), G, krm (d + 2), (0, 0), kQ X G (some (.int res)) (kgl G n S)) cX6_isWanted (kgl G n S) [some (.ref (kg_ad G (kbo 5))), some (.int v1), none, some (.int v3), some (.int v4), some (.int v5)] [] 15 := by
  unfold FX6_isWanted_L15 at h
  exact kfix_ok (P := fun (q : Int32 × Int32 × Int32 × Int32) (res : Int32) => kV (X, RX6, 6, (some .boolean), G, krm (d + 2), (0, 0), kQ X G (some (.int res)) (kgl G n S)) cX6_isWanted (kgl G n S) [some (.ref (kg_ad G (kbo 5))), some (.int (q.1)), none, some (.int (q.2.1)), some (.int (q.2.2.1)), some (.int (q.2.2.2))] [] 15) (fun rec hrec q res hq => TX6_isWanted_B15 hG hrec hq) kfuel _ _ h
theorem okX6_isWanted {l : Launch} {G : kG} {n : Nat} (hG : kg_N G = 55 + 14 * n) (d : Nat) {S : kS} {a1 : Int32} {a2 : Int32} {res : Int32} (h : FX6_isWanted S a1 a2 = some res) : kEv l G (d + 2) mX6_isWanted [.ref (kg_ad G (kbo 5)), .int a1, .int a2] (kgl G n S) (some (.int res)) (kgl G n S) := by
  refine kEv_of RX6 [some (.ref (kg_ad G (kbo 5))), some (.int a1), some (.int a2), none, none, none] rfl (by decide +kernel) rfl rfl rfl rfl (fun X hX => ?_)
  subst hX
  unfold FX6_isWanted at h
  refine kV_iconst 1 dX6_isWanted_0 ic_5 rfl ?_
  refine kV_iloadn 2 dX6_isWanted_1 rfl rfl ?_
  refine kV_imul 3 dX6_isWanted_2 rfl ?_
  refine kV_iloadn 4 dX6_isWanted_3 rfl rfl ?_
  refine kV_iadd 5 dX6_isWanted_4 rfl ?_
  refine kV_istoren 6 [some (.ref (kg_ad G (kbo 5))), some (.int a1), some (.int a2), some (.int (((5 : Int32) * a1) + a2)), none, none] dX6_isWanted_5 rfl rfl rfl ?_
  refine kV_iconst 7 dX6_isWanted_6 ic_0 rfl ?_
  refine kV_istore 9 [some (.ref (kg_ad G (kbo 5))), some (.int a1), some (.int a2), some (.int (((5 : Int32) * a1) + a2)), some (.int (0 : Int32)), none] dX6_isWanted_7 rfl rfl rfl ?_
  refine kV_bipush 11 dX6_isWanted_9 bp_6 rfl ?_
  refine kV_iloadn 12 dX6_isWanted_11 rfl rfl ?_
  refine kV_imul 13 dX6_isWanted_12 rfl ?_
  refine kV_istore 15 [some (.ref (kg_ad G (kbo 5))), some (.int a1), some (.int a2), some (.int (((5 : Int32) * a1) + a2)), some (.int (0 : Int32)), some (.int ((6 : Int32) * a1))] dX6_isWanted_13 rfl rfl rfl ?_
  refine kV_drop [true, true, false, true, true, true] rfl ?_
  exact TX6_isWanted_L15 hG h
abbrev mX6_broken : kM := (yX6_broken, cX6_broken, 3, (some .int))
theorem kmvX6_broken : kMv mX6_broken 1 6 := ⟨⟨(wi_r24 _ (List.mem_of_getElem? (i := 18) rfl)), (wi_r1 _ (List.mem_of_getElem? (i := 5) rfl)), ⟨by decide +kernel, by decide +kernel, by decide +kernel⟩, by decide⟩, (wi_r24 _ (List.mem_of_getElem? (i := 16) rfl)), (wi_r24 _ (List.mem_of_getElem? (i := 17) rfl)), rfl⟩
def FX6_broken_J74 (c5 : Int32 × Int32 → Option (Int32)) (S : kS) (v1 : Int32) (v2 : Int32) : Option (Int32) :=
  c5 (v1, (v2 + (1 : Int32)))
def FX6_broken_B5 (c5 : Int32 × Int32 → Option (Int32)) (S : kS) (v1 : Int32) (v2 : Int32) : Option (Int32) :=
  kgd (kin v1 3) <| kb (kA S 5 9 v1) fun x1 => if (((6 : Int32) * v1) + x1) ≤ v2 then (some (-1 : Int32)) else (kgd (kin v2 18) <| kb (kA S 5 10 v2) fun x2 => if x2 = 0 then (FX6_broken_J74 c5 S v1 v2) else (kgd (kin v2 18) <| kb (kA S 5 11 v2) fun x3 => (FX6_valueOf S x3).bind fun x4 => kgd (kin v2 18) <| kb (kA S 5 12 v2) fun x5 => if x4 = x5 then (kgd (kin v2 18) <| kb (kA S 5 13 v2) fun x6 => (FX6_valueOf S x6).bind fun x7 => kgd (kin v2 18) <| kb (kA S 5 14 v2) fun x8 => if x7 = x8 then (some (v2 - ((6 : Int32) * v1))) else (FX6_broken_J74 c5 S v1 v2)) else (FX6_broken_J74 c5 S v1 v2)))
def FX6_broken_L5 (S : kS) (v1 : Int32) (v2 : Int32) : Option (Int32) :=
  kfix (fun rec (q : Int32 × Int32) => FX6_broken_B5 rec S q.1 q.2) kfuel (v1, v2)
def FX6_broken (S : kS) (a1 : Int32) : Option (Int32) :=
  FX6_broken_L5 S a1 ((6 : Int32) * a1)
theorem TX6_broken_J74 {G : kG} {n : Nat} {d : Nat} {X : kX} (hG : kg_N G = 55 + 14 * n) {c5 : Int32 × Int32 → Option (Int32)} {S : kS} (hc5 : ∀ (q : Int32 × Int32) (res : Int32), c5 q = some res → kV (X, RX6, 3, (some .int), G, krm (d + 2), (0, 0), kQ X G (some (.int res)) (kgl G n S)) cX6_broken (kgl G n S) [some (.ref (kg_ad G (kbo 5))), some (.int (q.1)), some (.int (q.2))] [] 5) {v1 : Int32} {v2 : Int32} {res : Int32} (h : FX6_broken_J74 c5 S v1 v2 = some res) : kV (X, RX6, 3, (some .int), G, krm (d + 2), (0, 0), kQ X G (some (.int res)) (kgl G n S)) cX6_broken (kgl G n S) [some (.ref (kg_ad G (kbo 5))), some (.int v1), some (.int v2)] [] 74 := by
  unfold FX6_broken_J74 at h
  refine kV_iinc 77 [some (.ref (kg_ad G (kbo 5))), some (.int v1), some (.int (v2 + (1 : Int32)))] dX6_broken_74 rfl (kinc_1 _) rfl rfl rfl ?_
  refine kV_goto 5 dX6_broken_77 (by decide) ?_
  refine kV_drop [true, true, true] rfl ?_
  exact hc5 _ _ h
theorem TX6_broken_B5 {G : kG} {n : Nat} {d : Nat} {X : kX} (hG : kg_N G = 55 + 14 * n) {S : kS} {c5 : Int32 × Int32 → Option (Int32)} (hc5 : ∀ (q : Int32 × Int32) (res : Int32), c5 q = some res → kV (X, RX6, 3, (some .int), G, krm (d + 2), (0, 0), kQ X G (some (.int res)) (kgl G n S)) cX6_broken (kgl G n S) [some (.ref (kg_ad G (kbo 5))), some (.int (q.1)), some (.int (q.2))] [] 5) {v1 : Int32} {v2 : Int32} {res : Int32} (h : FX6_broken_B5 c5 S v1 v2 = some res) : kV (X, RX6, 3, (some .int), G, krm (d + 2), (0, 0), kQ X G (some (.int res)) (kgl G n S)) cX6_broken (kgl G n S) [some (.ref (kg_ad G (kbo 5))), some (.int v1), some (.int v2)] [] 5 := by
  unfold FX6_broken_B5 at h
  refine kV_iloadn 6 dX6_broken_5 rfl rfl ?_
  refine kV_bipush 8 dX6_broken_6 bp_6 rfl ?_
  refine kV_iloadn 9 dX6_broken_8 rfl rfl ?_
  refine kV_imul 10 dX6_broken_9 rfl ?_
  refine kV_aloadn 11 dX6_broken_10 rfl rfl ?_
  refine rg6_32 14 dX6_broken_11 (kOk_of hG rfl) rfl rfl ?_
  refine kV_iloadn 15 dX6_broken_14 rfl rfl ?_
  obtain ⟨hi, h⟩ := kgd_ex h
  obtain ⟨x1, hx, h⟩ := kb_ex h
  refine rl6_9 16 dX6_broken_15 (kOk_of hG rfl) rfl hi hx rfl ?_
  clear hi hx
  refine kV_iadd 17 dX6_broken_16 rfl ?_
  rcases kif_ex h with ⟨hc, h⟩ | ⟨hc, h⟩
  · refine kV_icmp_ge_t 80 dX6_broken_17 (by decide) hc ?_
    clear hc
    refine kV_iconst 81 dX6_broken_80 ic_m1 rfl ?_
    cases h
    exact kV_iret dX6_broken_81
  · refine kV_icmp_ge_f 80 20 dX6_broken_17 (by decide) hc rfl ?_
    clear hc
    refine kV_aloadn 21 dX6_broken_20 rfl rfl ?_
    refine rg6_35 24 dX6_broken_21 (kOk_of hG rfl) rfl rfl ?_
    refine kV_iloadn 25 dX6_broken_24 rfl rfl ?_
    obtain ⟨hi, h⟩ := kgd_ex h
    obtain ⟨x2, hx, h⟩ := kb_ex h
    refine rl6_10 26 dX6_broken_25 (kOk_of hG rfl) rfl hi hx rfl ?_
    clear hi hx
    rcases kif_ex h with ⟨hc, h⟩ | ⟨hc, h⟩
    · refine kV_if_eq_t 74 dX6_broken_26 (by decide) hc ?_
      clear hc
      refine kV_drop [true, true, true] rfl ?_
      exact TX6_broken_J74 hG hc5 h
    · refine kV_if_eq_f 74 29 dX6_broken_26 (by decide) hc rfl ?_
      clear hc
      refine kV_aloadn 30 dX6_broken_29 rfl rfl ?_
      refine kV_aloadn 31 dX6_broken_30 rfl rfl ?_
      refine rg6_38 34 dX6_broken_31 (kOk_of hG rfl) rfl rfl ?_
      refine kV_iloadn 35 dX6_broken_34 rfl rfl ?_
      obtain ⟨hi, h⟩ := kgd_ex h
      obtain ⟨x3, hx, h⟩ := kb_ex h
      refine rl6_11 36 dX6_broken_35 (kOk_of hG rfl) rfl hi hx rfl ?_
      clear hi hx
      obtain ⟨x4, hx, h⟩ := kbi_ex h
      refine kC_V 39 [] [.int x4] dX6_broken_36 (okX6_valueOf hG d  hx) kmvX6_valueOf (wi_r24 _ (List.mem_of_getElem? (i := 19) rfl)) (kOk_of hG rfl) rfl rfl rfl rfl rfl rfl ?_
      clear hx
      refine kV_aloadn 40 dX6_broken_39 rfl rfl ?_
      refine rg6_41 43 dX6_broken_40 (kOk_of hG rfl) rfl rfl ?_
      refine kV_iloadn 44 dX6_broken_43 rfl rfl ?_
      obtain ⟨hi, h⟩ := kgd_ex h
      obtain ⟨x5, hx, h⟩ := kb_ex h
      refine rl6_12 45 dX6_broken_44 (kOk_of hG rfl) rfl hi hx rfl ?_
      clear hi hx
      rcases kif_ex h with ⟨hc, h⟩ | ⟨hc, h⟩
      · refine kV_icmp_ne_f 74 48 dX6_broken_45 (by decide) hc rfl ?_
        clear hc
        refine kV_aloadn 49 dX6_broken_48 rfl rfl ?_
        refine kV_aloadn 50 dX6_broken_49 rfl rfl ?_
        refine rg6_44 53 dX6_broken_50 (kOk_of hG rfl) rfl rfl ?_
        refine kV_iloadn 54 dX6_broken_53 rfl rfl ?_
        obtain ⟨hi, h⟩ := kgd_ex h
        obtain ⟨x6, hx, h⟩ := kb_ex h
        refine rl6_13 55 dX6_broken_54 (kOk_of hG rfl) rfl hi hx rfl ?_
        clear hi hx
        obtain ⟨x7, hx, h⟩ := kbi_ex h
        refine kC_V 58 [] [.int x7] dX6_broken_55 (okX6_valueOf hG d  hx) kmvX6_valueOf (wi_r24 _ (List.mem_of_getElem? (i := 19) rfl)) (kOk_of hG rfl) rfl rfl rfl rfl rfl rfl ?_
        clear hx
        refine kV_aloadn 59 dX6_broken_58 rfl rfl ?_
        refine rg6_47 62 dX6_broken_59 (kOk_of hG rfl) rfl rfl ?_
        refine kV_iloadn 63 dX6_broken_62 rfl rfl ?_
        obtain ⟨hi, h⟩ := kgd_ex h
        obtain ⟨x8, hx, h⟩ := kb_ex h
        refine rl6_14 64 dX6_broken_63 (kOk_of hG rfl) rfl hi hx rfl ?_
        clear hi hx
        rcases kif_ex h with ⟨hc, h⟩ | ⟨hc, h⟩
        · refine kV_icmp_ne_f 74 67 dX6_broken_64 (by decide) hc rfl ?_
          clear hc
          refine kV_iloadn 68 dX6_broken_67 rfl rfl ?_
          refine kV_bipush 70 dX6_broken_68 bp_6 rfl ?_
          refine kV_iloadn 71 dX6_broken_70 rfl rfl ?_
          refine kV_imul 72 dX6_broken_71 rfl ?_
          refine kV_isub 73 dX6_broken_72 rfl ?_
          cases h
          exact kV_iret dX6_broken_73
        · refine kV_icmp_ne_t 74 dX6_broken_64 (by decide) hc ?_
          clear hc
          refine kV_drop [true, true, true] rfl ?_
          exact TX6_broken_J74 hG hc5 h
      · refine kV_icmp_ne_t 74 dX6_broken_45 (by decide) hc ?_
        clear hc
        refine kV_drop [true, true, true] rfl ?_
        exact TX6_broken_J74 hG hc5 h
theorem TX6_broken_L5 {G : kG} {n : Nat} {d : Nat} {X : kX} (hG : kg_N G = 55 + 14 * n) {S : kS} {v1 : Int32} {v2 : Int32} {res : Int32} (h : FX6_broken_L5 S v1 v2 = some res) : kV (X, RX6, 3, (some .int), G, krm (d + 2), (0, 0), kQ X G (some (.int res)) (kgl G n S)) cX6_broken (kgl G n S) [some (.ref (kg_ad G (kbo 5))), some (.int v1), some (.int v2)] [] 5 := by
  unfold FX6_broken_L5 at h
  exact kfix_ok (P := fun (q : Int32 × Int32) (res : Int32) => kV (X, RX6, 3, (some .int), G, krm (d + 2), (0, 0), kQ X G (some (.int res)) (kgl G n S)) cX6_broken (kgl G n S) [some (.ref (kg_ad G (kbo 5))), some (.int (q.1)), some (.int (q.2))] [] 5) (fun rec hrec q res hq => TX6_broken_B5 hG hrec hq) kfuel _ _ h
theorem okX6_broken {l : Launch} {G : kG} {n : Nat} (hG : kg_N G = 55 + 14 * n) (d : Nat) {S : kS} {a1 : Int32} {res : Int32} (h : FX6_broken S a1 = some res) : kEv l G (d + 2) mX6_broken [.ref (kg_ad G (kbo 5)), .int a1] (kgl G n S) (some (.int res)) (kgl G n S) := by
  refine kEv_of RX6 [some (.ref (kg_ad G (kbo 5))), some (.int a1), none] rfl (by decide +kernel) rfl rfl rfl rfl (fun X hX => ?_)
  subst hX
  unfold FX6_broken at h
  refine kV_bipush 2 dX6_broken_0 bp_6 rfl ?_
  refine kV_iloadn 3 dX6_broken_2 rfl rfl ?_
  refine kV_imul 4 dX6_broken_3 rfl ?_
  refine kV_istoren 5 [some (.ref (kg_ad G (kbo 5))), some (.int a1), some (.int ((6 : Int32) * a1))] dX6_broken_4 rfl rfl rfl ?_
  refine kV_drop [true, true, true] rfl ?_
  exact TX6_broken_L5 hG h
abbrev mX6_open : kM := (yX6_open, cX6_open, 3, (some .int))
theorem kmvX6_open : kMv mX6_open 1 6 := ⟨⟨(wi_r14 _ (List.mem_of_getElem? (i := 12) rfl)), (wi_r1 _ (List.mem_of_getElem? (i := 5) rfl)), ⟨by decide +kernel, by decide +kernel, by decide +kernel⟩, by decide⟩, (wi_r14 _ (List.mem_of_getElem? (i := 10) rfl)), (wi_r14 _ (List.mem_of_getElem? (i := 11) rfl)), rfl⟩
def FX6_open_B43 (c43 : kS × Int32 × Int32 → Option (Int32 × kS)) (S : kS) (v1 : Int32) (v2 : Int32) : Option (Int32 × kS) :=
  if (5 : Int32) ≤ v2 then (kb (kpI S 5 26 (0 : Int32)) fun S1 => kb (kpI S1 5 29 (-1 : Int32)) fun S2 => kb (kI S2 5 25) fun x1 => some (x1, S2)) else (kgd (kin (((5 : Int32) * v1) + v2) 15) <| kb (kpA S 5 7 (((5 : Int32) * v1) + v2) (0 : Int32)) fun S3 => kgd (kin (((5 : Int32) * v1) + v2) 15) <| kb (kpA S3 5 8 (((5 : Int32) * v1) + v2) ((0 : Int32) &&& 1)) fun S4 => c43 (S4, v1, (v2 + (1 : Int32))))
def FX6_open_L43 (S : kS) (v1 : Int32) (v2 : Int32) : Option (Int32 × kS) :=
  kfix (fun rec (q : kS × Int32 × Int32) => FX6_open_B43 rec q.1 q.2.1 q.2.2) kfuel (S, v1, v2)
def FX6_open (S : kS) (a1 : Int32) : Option (Int32 × kS) :=
  (FX6_isForm S a1).bind fun x1 => if x1 = 0 then (some ((-1 : Int32), S)) else ((FX6_isOpen S a1).bind fun x2 => if x2 = 0 then (kb (kI S 5 25) fun x3 => kgd (kin x3 3) <| kb (kpA S 5 24 x3 a1) fun S1 => kb (kI S1 5 25) fun x4 => kb (kpI S1 5 25 (x4 + (1 : Int32))) fun S2 => FX6_open_L43 S2 a1 (0 : Int32)) else (some ((-3 : Int32), S)))
theorem TX6_open_B43 {G : kG} {n : Nat} {d : Nat} {X : kX} (hG : kg_N G = 55 + 14 * n) {c43 : kS × Int32 × Int32 → Option (Int32 × kS)} (hc43 : ∀ (q : kS × Int32 × Int32) (res : Int32 × kS), c43 q = some res → kV (X, RX6, 3, (some .int), G, krm (d + 2), (0, 0), kQ X G (some (.int res.1)) (kgl G n res.2)) cX6_open (kgl G n q.1) [some (.ref (kg_ad G (kbo 5))), some (.int (q.2.1)), some (.int (q.2.2))] [] 43) {S : kS} {v1 : Int32} {v2 : Int32} {res : Int32 × kS} (h : FX6_open_B43 c43 S v1 v2 = some res) : kV (X, RX6, 3, (some .int), G, krm (d + 2), (0, 0), kQ X G (some (.int res.1)) (kgl G n res.2)) cX6_open (kgl G n S) [some (.ref (kg_ad G (kbo 5))), some (.int v1), some (.int v2)] [] 43 := by
  unfold FX6_open_B43 at h
  refine kV_iloadn 44 dX6_open_43 rfl rfl ?_
  refine kV_iconst 45 dX6_open_44 ic_5 rfl ?_
  rcases kif_ex h with ⟨hc, h⟩ | ⟨hc, h⟩
  · refine kV_icmp_ge_t 76 dX6_open_45 (by decide) hc ?_
    clear hc
    refine kV_aloadn 77 dX6_open_76 rfl rfl ?_
    refine kV_iconst 78 dX6_open_77 ic_0 rfl ?_
    obtain ⟨S1, hx, h⟩ := kb_ex h
    refine rp6_156 81 dX6_open_78 (kOk_of hG rfl) rfl hx rfl ?_
    clear hx
    refine kV_aloadn 82 dX6_open_81 rfl rfl ?_
    refine kV_iconst 83 dX6_open_82 ic_m1 rfl ?_
    obtain ⟨S2, hx, h⟩ := kb_ex h
    refine rp6_80 86 dX6_open_83 (kOk_of hG rfl) rfl hx rfl ?_
    clear hx
    refine kV_aloadn 87 dX6_open_86 rfl rfl ?_
    obtain ⟨x1, hx, h⟩ := kb_ex h
    refine rg6_126 90 dX6_open_87 (kOk_of hG rfl) rfl hx rfl ?_
    clear hx
    cases h
    exact kV_iret dX6_open_90
  · refine kV_icmp_ge_f 76 48 dX6_open_45 (by decide) hc rfl ?_
    clear hc
    refine kV_aloadn 49 dX6_open_48 rfl rfl ?_
    refine rg6_25 52 dX6_open_49 (kOk_of hG rfl) rfl rfl ?_
    refine kV_iconst 53 dX6_open_52 ic_5 rfl ?_
    refine kV_iloadn 54 dX6_open_53 rfl rfl ?_
    refine kV_imul 55 dX6_open_54 rfl ?_
    refine kV_iloadn 56 dX6_open_55 rfl rfl ?_
    refine kV_iadd 57 dX6_open_56 rfl ?_
    refine kV_iconst 58 dX6_open_57 ic_0 rfl ?_
    obtain ⟨hi, h⟩ := kgd_ex h
    obtain ⟨S3, hx, h⟩ := kb_ex h
    refine rs6_7 59 dX6_open_58 (kOk_of hG rfl) rfl hi hx rfl ?_
    clear hi hx
    refine kV_aloadn 60 dX6_open_59 rfl rfl ?_
    refine rg6_28 63 dX6_open_60 (kOk_of hG rfl) rfl rfl ?_
    refine kV_iconst 64 dX6_open_63 ic_5 rfl ?_
    refine kV_iloadn 65 dX6_open_64 rfl rfl ?_
    refine kV_imul 66 dX6_open_65 rfl ?_
    refine kV_iloadn 67 dX6_open_66 rfl rfl ?_
    refine kV_iadd 68 dX6_open_67 rfl ?_
    refine kV_iconst 69 dX6_open_68 ic_0 rfl ?_
    obtain ⟨hi, h⟩ := kgd_ex h
    obtain ⟨S4, hx, h⟩ := kb_ex h
    refine rs6_8 70 dX6_open_69 (kOk_of hG rfl) rfl hi hx rfl ?_
    clear hi hx
    refine kV_iinc 73 [some (.ref (kg_ad G (kbo 5))), some (.int v1), some (.int (v2 + (1 : Int32)))] dX6_open_70 rfl (kinc_1 _) rfl rfl rfl ?_
    refine kV_goto 43 dX6_open_73 (by decide) ?_
    refine kV_drop [true, true, true] rfl ?_
    exact hc43 _ _ h
theorem TX6_open_L43 {G : kG} {n : Nat} {d : Nat} {X : kX} (hG : kg_N G = 55 + 14 * n) {S : kS} {v1 : Int32} {v2 : Int32} {res : Int32 × kS} (h : FX6_open_L43 S v1 v2 = some res) : kV (X, RX6, 3, (some .int), G, krm (d + 2), (0, 0), kQ X G (some (.int res.1)) (kgl G n res.2)) cX6_open (kgl G n S) [some (.ref (kg_ad G (kbo 5))), some (.int v1), some (.int v2)] [] 43 := by
  unfold FX6_open_L43 at h
  exact kfix_ok (P := fun (q : kS × Int32 × Int32) (res : Int32 × kS) => kV (X, RX6, 3, (some .int), G, krm (d + 2), (0, 0), kQ X G (some (.int res.1)) (kgl G n res.2)) cX6_open (kgl G n q.1) [some (.ref (kg_ad G (kbo 5))), some (.int (q.2.1)), some (.int (q.2.2))] [] 43) (fun rec hrec q res hq => TX6_open_B43 hG hrec hq) kfuel _ _ h
theorem okX6_open {l : Launch} {G : kG} {n : Nat} (hG : kg_N G = 55 + 14 * n) (d : Nat) {S : kS} {a1 : Int32} {res : Int32 × kS} (h : FX6_open S a1 = some res) : kEv l G (d + 2) mX6_open [.ref (kg_ad G (kbo 5)), .int a1] (kgl G n S) (some (.int res.1)) (kgl G n res.2) := by
  refine kEv_of RX6 [some (.ref (kg_ad G (kbo 5))), some (.int a1), none] rfl (by decide +kernel) rfl rfl rfl rfl (fun X hX => ?_)
  subst hX
  unfold FX6_open at h
  refine kV_aloadn 1 dX6_open_0 rfl rfl ?_
  refine kV_iloadn 2 dX6_open_1 rfl rfl ?_
  obtain ⟨x1, hx, h⟩ := kbi_ex h
  refine kC_V 5 [] [.int x1] dX6_open_2 (okX6_isForm hG d  hx) kmvX6_isForm (wi_r8 _ (List.mem_of_getElem? (i := 2) rfl)) (kOk_of hG rfl) rfl rfl rfl rfl rfl rfl ?_
  clear hx
  rcases kif_ex h with ⟨hc, h⟩ | ⟨hc, h⟩
  · refine kV_if_ne_f 10 8 dX6_open_5 (by decide) hc rfl ?_
    clear hc
    refine kV_iconst 9 dX6_open_8 ic_m1 rfl ?_
    cases h
    exact kV_iret dX6_open_9
  · refine kV_if_ne_t 10 dX6_open_5 (by decide) hc ?_
    clear hc
    refine kV_aloadn 11 dX6_open_10 rfl rfl ?_
    refine kV_iloadn 12 dX6_open_11 rfl rfl ?_
    obtain ⟨x2, hx, h⟩ := kbi_ex h
    refine kC_V 15 [] [.int x2] dX6_open_12 (okX6_isOpen hG (d + 1)  hx) kmvX6_isOpen (wi_r8 _ (List.mem_of_getElem? (i := 9) rfl)) (kOk_of hG rfl) rfl rfl rfl rfl rfl rfl ?_
    clear hx
    rcases kif_ex h with ⟨hc, h⟩ | ⟨hc, h⟩
    · refine kV_if_eq_t 21 dX6_open_15 (by decide) hc ?_
      clear hc
      refine kV_aloadn 22 dX6_open_21 rfl rfl ?_
      refine rg6_71 25 dX6_open_22 (kOk_of hG rfl) rfl rfl ?_
      refine kV_aloadn 26 dX6_open_25 rfl rfl ?_
      obtain ⟨x3, hx, h⟩ := kb_ex h
      refine rg6_126 29 dX6_open_26 (kOk_of hG rfl) rfl hx rfl ?_
      clear hx
      refine kV_iloadn 30 dX6_open_29 rfl rfl ?_
      obtain ⟨hi, h⟩ := kgd_ex h
      obtain ⟨S1, hx, h⟩ := kb_ex h
      refine rs6_24 31 dX6_open_30 (kOk_of hG rfl) rfl hi hx rfl ?_
      clear hi hx
      refine kV_aloadn 32 dX6_open_31 rfl rfl ?_
      refine kV_dup 33 dX6_open_32 rfl rfl ?_
      obtain ⟨x4, hx, h⟩ := kb_ex h
      refine rg6_126 36 dX6_open_33 (kOk_of hG rfl) rfl hx rfl ?_
      clear hx
      refine kV_iconst 37 dX6_open_36 ic_1 rfl ?_
      refine kV_iadd 38 dX6_open_37 rfl ?_
      obtain ⟨S2, hx, h⟩ := kb_ex h
      refine rp6_126 41 dX6_open_38 (kOk_of hG rfl) rfl hx rfl ?_
      clear hx
      refine kV_iconst 42 dX6_open_41 ic_0 rfl ?_
      refine kV_istoren 43 [some (.ref (kg_ad G (kbo 5))), some (.int a1), some (.int (0 : Int32))] dX6_open_42 rfl rfl rfl ?_
      refine kV_drop [true, true, true] rfl ?_
      exact TX6_open_L43 hG h
    · refine kV_if_eq_f 21 18 dX6_open_15 (by decide) hc rfl ?_
      clear hc
      refine kV_bipush 20 dX6_open_18 bp_m3 rfl ?_
      cases h
      exact kV_iret dX6_open_20
abbrev mX6_close : kM := (yX6_close, cX6_close, 1, (some .int))
theorem kmvX6_close : kMv mX6_close 0 6 := ⟨⟨(wi_r14 _ (List.mem_of_getElem? (i := 21) rfl)), (wi_r1 _ (List.mem_of_getElem? (i := 5) rfl)), ⟨by decide +kernel, by decide +kernel, by decide +kernel⟩, by decide⟩, (wi_r14 _ (List.mem_of_getElem? (i := 19) rfl)), (wi_r14 _ (List.mem_of_getElem? (i := 20) rfl)), rfl⟩
def FX6_close (S : kS) : Option (Int32 × kS) :=
  kb (kI S 5 25) fun x1 => if x1 = 0 then (some ((-3 : Int32), S)) else (kb (kI S 5 25) fun x2 => kb (kpI S 5 25 (x2 - (1 : Int32))) fun S1 => kb (kpI S1 5 26 (0 : Int32)) fun S2 => kb (kpI S2 5 29 (-1 : Int32)) fun S3 => kb (kI S3 5 25) fun x3 => kgd (kin x3 3) <| kb (kA S3 5 24 x3) fun x4 => some (x4, S3))
theorem okX6_close {l : Launch} {G : kG} {n : Nat} (hG : kg_N G = 55 + 14 * n) (d : Nat) {S : kS} {res : Int32 × kS} (h : FX6_close S = some res) : kEv l G (d + 0) mX6_close [.ref (kg_ad G (kbo 5))] (kgl G n S) (some (.int res.1)) (kgl G n res.2) := by
  refine kEv_of RX6 [some (.ref (kg_ad G (kbo 5)))] rfl (by decide +kernel) rfl rfl rfl rfl (fun X hX => ?_)
  subst hX
  unfold FX6_close at h
  refine kV_aloadn 1 dX6_close_0 rfl rfl ?_
  obtain ⟨x1, hx, h⟩ := kb_ex h
  refine rg6_126 4 dX6_close_1 (kOk_of hG rfl) rfl hx rfl ?_
  clear hx
  rcases kif_ex h with ⟨hc, h⟩ | ⟨hc, h⟩
  · refine kV_if_ne_f 10 7 dX6_close_4 (by decide) hc rfl ?_
    clear hc
    refine kV_bipush 9 dX6_close_7 bp_m3 rfl ?_
    cases h
    exact kV_iret dX6_close_9
  · refine kV_if_ne_t 10 dX6_close_4 (by decide) hc ?_
    clear hc
    refine kV_aloadn 11 dX6_close_10 rfl rfl ?_
    refine kV_dup 12 dX6_close_11 rfl rfl ?_
    obtain ⟨x2, hx, h⟩ := kb_ex h
    refine rg6_126 15 dX6_close_12 (kOk_of hG rfl) rfl hx rfl ?_
    clear hx
    refine kV_iconst 16 dX6_close_15 ic_1 rfl ?_
    refine kV_isub 17 dX6_close_16 rfl ?_
    obtain ⟨S1, hx, h⟩ := kb_ex h
    refine rp6_126 20 dX6_close_17 (kOk_of hG rfl) rfl hx rfl ?_
    clear hx
    refine kV_aloadn 21 dX6_close_20 rfl rfl ?_
    refine kV_iconst 22 dX6_close_21 ic_0 rfl ?_
    obtain ⟨S2, hx, h⟩ := kb_ex h
    refine rp6_156 25 dX6_close_22 (kOk_of hG rfl) rfl hx rfl ?_
    clear hx
    refine kV_aloadn 26 dX6_close_25 rfl rfl ?_
    refine kV_iconst 27 dX6_close_26 ic_m1 rfl ?_
    obtain ⟨S3, hx, h⟩ := kb_ex h
    refine rp6_80 30 dX6_close_27 (kOk_of hG rfl) rfl hx rfl ?_
    clear hx
    refine kV_aloadn 31 dX6_close_30 rfl rfl ?_
    refine rg6_71 34 dX6_close_31 (kOk_of hG rfl) rfl rfl ?_
    refine kV_aloadn 35 dX6_close_34 rfl rfl ?_
    obtain ⟨x3, hx, h⟩ := kb_ex h
    refine rg6_126 38 dX6_close_35 (kOk_of hG rfl) rfl hx rfl ?_
    clear hx
    obtain ⟨hi, h⟩ := kgd_ex h
    obtain ⟨x4, hx, h⟩ := kb_ex h
    refine rl6_24 39 dX6_close_38 (kOk_of hG rfl) rfl hi hx rfl ?_
    clear hi hx
    cases h
    exact kV_iret dX6_close_39
abbrev mX6_keep : kM := (yX6_keep, cX6_keep, 2, none)
theorem kmvX6_keep : kMv mX6_keep 0 6 := ⟨⟨(wi_r23 _ (List.mem_of_getElem? (i := 19) rfl)), (wi_r1 _ (List.mem_of_getElem? (i := 5) rfl)), ⟨by decide +kernel, by decide +kernel, by decide +kernel⟩, by decide⟩, (wi_r23 _ (List.mem_of_getElem? (i := 17) rfl)), (wi_r23 _ (List.mem_of_getElem? (i := 18) rfl)), rfl⟩
def FX6_keep_B66 (c66 : kS × Int32 → Option (kS)) (S : kS) (v1 : Int32) : Option (kS) :=
  if (15 : Int32) ≤ v1 then (kb (kI S 5 26) fun x1 => kb (kpI S 5 26 (x1 + (1 : Int32))) fun S1 => some S1) else (kb (kI S 5 26) fun x2 => kgd (kin v1 15) <| kb (kA S 5 7 v1) fun x3 => kgd (kin (((15 : Int32) * x2) + v1) 150) <| kb (kpA S 5 27 (((15 : Int32) * x2) + v1) x3) fun S2 => kb (kI S2 5 26) fun x4 => kgd (kin v1 15) <| kb (kA S2 5 8 v1) fun x5 => kgd (kin (((15 : Int32) * x4) + v1) 150) <| kb (kpA S2 5 28 (((15 : Int32) * x4) + v1) (x5 &&& 1)) fun S3 => c66 (S3, (v1 + (1 : Int32))))
def FX6_keep_L66 (S : kS) (v1 : Int32) : Option (kS) :=
  kfix (fun rec (q : kS × Int32) => FX6_keep_B66 rec q.1 q.2) kfuel (S, v1)
def FX6_keep_J64 (S : kS) : Option (kS) :=
  FX6_keep_L66 S (0 : Int32)
def FX6_keep_B11 (c11 : kS × Int32 → Option (kS)) (S : kS) (v1 : Int32) : Option (kS) :=
  if (135 : Int32) ≤ v1 then (kb (kI S 5 26) fun x1 => kb (kpI S 5 26 (x1 - (1 : Int32))) fun S1 => FX6_keep_J64 S1) else (kgd (kin (v1 + (15 : Int32)) 150) <| kb (kA S 5 27 (v1 + (15 : Int32))) fun x2 => kgd (kin v1 150) <| kb (kpA S 5 27 v1 x2) fun S2 => kgd (kin (v1 + (15 : Int32)) 150) <| kb (kA S2 5 28 (v1 + (15 : Int32))) fun x3 => kgd (kin v1 150) <| kb (kpA S2 5 28 v1 (x3 &&& 1)) fun S3 => c11 (S3, (v1 + (1 : Int32))))
def FX6_keep_L11 (S : kS) (v1 : Int32) : Option (kS) :=
  kfix (fun rec (q : kS × Int32) => FX6_keep_B11 rec q.1 q.2) kfuel (S, v1)
def FX6_keep (S : kS) : Option (kS) :=
  kb (kI S 5 26) fun x1 => if x1 = (10 : Int32) then (FX6_keep_L11 S (0 : Int32)) else (FX6_keep_J64 S)
theorem TX6_keep_B66 {G : kG} {n : Nat} {d : Nat} {X : kX} (hG : kg_N G = 55 + 14 * n) {c66 : kS × Int32 → Option (kS)} (hc66 : ∀ (q : kS × Int32) (res : kS), c66 q = some res → kV (X, RX6, 2, none, G, krm (d + 0), (0, 0), kQ X G none (kgl G n res)) cX6_keep (kgl G n q.1) [some (.ref (kg_ad G (kbo 5))), some (.int (q.2))] [] 66) {S : kS} {v1 : Int32} {res : kS} (h : FX6_keep_B66 c66 S v1 = some res) : kV (X, RX6, 2, none, G, krm (d + 0), (0, 0), kQ X G none (kgl G n res)) cX6_keep (kgl G n S) [some (.ref (kg_ad G (kbo 5))), some (.int v1)] [] 66 := by
  unfold FX6_keep_B66 at h
  refine kV_iloadn 67 dX6_keep_66 rfl rfl ?_
  refine kV_bipush 69 dX6_keep_67 bp_15 rfl ?_
  rcases kif_ex h with ⟨hc, h⟩ | ⟨hc, h⟩
  · refine kV_icmp_ge_t 118 dX6_keep_69 (by decide) hc ?_
    clear hc
    refine kV_aloadn 119 dX6_keep_118 rfl rfl ?_
    refine kV_dup 120 dX6_keep_119 rfl rfl ?_
    obtain ⟨x1, hx, h⟩ := kb_ex h
    refine rg6_156 123 dX6_keep_120 (kOk_of hG rfl) rfl hx rfl ?_
    clear hx
    refine kV_iconst 124 dX6_keep_123 ic_1 rfl ?_
    refine kV_iadd 125 dX6_keep_124 rfl ?_
    obtain ⟨S1, hx, h⟩ := kb_ex h
    refine rp6_156 128 dX6_keep_125 (kOk_of hG rfl) rfl hx rfl ?_
    clear hx
    cases h
    exact kV_vret dX6_keep_128
  · refine kV_icmp_ge_f 118 72 dX6_keep_69 (by decide) hc rfl ?_
    clear hc
    refine kV_aloadn 73 dX6_keep_72 rfl rfl ?_
    refine rg6_74 76 dX6_keep_73 (kOk_of hG rfl) rfl rfl ?_
    refine kV_bipush 78 dX6_keep_76 bp_15 rfl ?_
    refine kV_aloadn 79 dX6_keep_78 rfl rfl ?_
    obtain ⟨x2, hx, h⟩ := kb_ex h
    refine rg6_156 82 dX6_keep_79 (kOk_of hG rfl) rfl hx rfl ?_
    clear hx
    refine kV_imul 83 dX6_keep_82 rfl ?_
    refine kV_iloadn 84 dX6_keep_83 rfl rfl ?_
    refine kV_iadd 85 dX6_keep_84 rfl ?_
    refine kV_aloadn 86 dX6_keep_85 rfl rfl ?_
    refine rg6_25 89 dX6_keep_86 (kOk_of hG rfl) rfl rfl ?_
    refine kV_iloadn 90 dX6_keep_89 rfl rfl ?_
    obtain ⟨hi, h⟩ := kgd_ex h
    obtain ⟨x3, hx, h⟩ := kb_ex h
    refine rl6_7 91 dX6_keep_90 (kOk_of hG rfl) rfl hi hx rfl ?_
    clear hi hx
    obtain ⟨hi, h⟩ := kgd_ex h
    obtain ⟨S2, hx, h⟩ := kb_ex h
    refine rs6_27 92 dX6_keep_91 (kOk_of hG rfl) rfl hi hx rfl ?_
    clear hi hx
    refine kV_aloadn 93 dX6_keep_92 rfl rfl ?_
    refine rg6_77 96 dX6_keep_93 (kOk_of hG rfl) rfl rfl ?_
    refine kV_bipush 98 dX6_keep_96 bp_15 rfl ?_
    refine kV_aloadn 99 dX6_keep_98 rfl rfl ?_
    obtain ⟨x4, hx, h⟩ := kb_ex h
    refine rg6_156 102 dX6_keep_99 (kOk_of hG rfl) rfl hx rfl ?_
    clear hx
    refine kV_imul 103 dX6_keep_102 rfl ?_
    refine kV_iloadn 104 dX6_keep_103 rfl rfl ?_
    refine kV_iadd 105 dX6_keep_104 rfl ?_
    refine kV_aloadn 106 dX6_keep_105 rfl rfl ?_
    refine rg6_28 109 dX6_keep_106 (kOk_of hG rfl) rfl rfl ?_
    refine kV_iloadn 110 dX6_keep_109 rfl rfl ?_
    obtain ⟨hi, h⟩ := kgd_ex h
    obtain ⟨x5, hx, h⟩ := kb_ex h
    refine rl6_8 111 dX6_keep_110 (kOk_of hG rfl) rfl hi hx rfl ?_
    clear hi hx
    obtain ⟨hi, h⟩ := kgd_ex h
    obtain ⟨S3, hx, h⟩ := kb_ex h
    refine rs6_28 112 dX6_keep_111 (kOk_of hG rfl) rfl hi hx rfl ?_
    clear hi hx
    refine kV_iinc 115 [some (.ref (kg_ad G (kbo 5))), some (.int (v1 + (1 : Int32)))] dX6_keep_112 rfl (kinc_1 _) rfl rfl rfl ?_
    refine kV_goto 66 dX6_keep_115 (by decide) ?_
    refine kV_drop [true, true] rfl ?_
    exact hc66 _ _ h
theorem TX6_keep_L66 {G : kG} {n : Nat} {d : Nat} {X : kX} (hG : kg_N G = 55 + 14 * n) {S : kS} {v1 : Int32} {res : kS} (h : FX6_keep_L66 S v1 = some res) : kV (X, RX6, 2, none, G, krm (d + 0), (0, 0), kQ X G none (kgl G n res)) cX6_keep (kgl G n S) [some (.ref (kg_ad G (kbo 5))), some (.int v1)] [] 66 := by
  unfold FX6_keep_L66 at h
  exact kfix_ok (P := fun (q : kS × Int32) (res : kS) => kV (X, RX6, 2, none, G, krm (d + 0), (0, 0), kQ X G none (kgl G n res)) cX6_keep (kgl G n q.1) [some (.ref (kg_ad G (kbo 5))), some (.int (q.2))] [] 66) (fun rec hrec q res hq => TX6_keep_B66 hG hrec hq) kfuel _ _ h
theorem TX6_keep_J64 {G : kG} {n : Nat} {d : Nat} {X : kX} (hG : kg_N G = 55 + 14 * n) {S : kS} {res : kS} (h : FX6_keep_J64 S = some res) : kV (X, RX6, 2, none, G, krm (d + 0), (0, 0), kQ X G none (kgl G n res)) cX6_keep (kgl G n S) [some (.ref (kg_ad G (kbo 5))), none] [] 64 := by
  unfold FX6_keep_J64 at h
  refine kV_iconst 65 dX6_keep_64 ic_0 rfl ?_
  refine kV_istoren 66 [some (.ref (kg_ad G (kbo 5))), some (.int (0 : Int32))] dX6_keep_65 rfl rfl rfl ?_
  refine kV_drop [true, true] rfl ?_
  exact TX6_keep_L66 hG h
theorem TX6_keep_B11 {G : kG} {n : Nat} {d : Nat} {X : kX} (hG : kg_N G = 55 + 14 * n) {c11 : kS × Int32 → Option (kS)} (hc11 : ∀ (q : kS × Int32) (res : kS), c11 q = some res → kV (X, RX6, 2, none, G, krm (d + 0), (0, 0), kQ X G none (kgl G n res)) cX6_keep (kgl G n q.1) [some (.ref (kg_ad G (kbo 5))), some (.int (q.2))] [] 11) {S : kS} {v1 : Int32} {res : kS} (h : FX6_keep_B11 c11 S v1 = some res) : kV (X, RX6, 2, none, G, krm (d + 0), (0, 0), kQ X G none (kgl G n res)) cX6_keep (kgl G n S) [some (.ref (kg_ad G (kbo 5))), some (.int v1)] [] 11 := by
  unfold FX6_keep_B11 at h
  refine kV_iloadn 12 dX6_keep_11 rfl rfl ?_
  refine kV_sipush 15 dX6_keep_12 sp_135 rfl ?_
  rcases kif_ex h with ⟨hc, h⟩ | ⟨hc, h⟩
  · refine kV_icmp_ge_t 54 dX6_keep_15 (by decide) hc ?_
    clear hc
    refine kV_aloadn 55 dX6_keep_54 rfl rfl ?_
    refine kV_dup 56 dX6_keep_55 rfl rfl ?_
    obtain ⟨x1, hx, h⟩ := kb_ex h
    refine rg6_156 59 dX6_keep_56 (kOk_of hG rfl) rfl hx rfl ?_
    clear hx
    refine kV_iconst 60 dX6_keep_59 ic_1 rfl ?_
    refine kV_isub 61 dX6_keep_60 rfl ?_
    obtain ⟨S1, hx, h⟩ := kb_ex h
    refine rp6_156 64 dX6_keep_61 (kOk_of hG rfl) rfl hx rfl ?_
    clear hx
    refine kV_drop [true, false] rfl ?_
    exact TX6_keep_J64 hG h
  · refine kV_icmp_ge_f 54 18 dX6_keep_15 (by decide) hc rfl ?_
    clear hc
    refine kV_aloadn 19 dX6_keep_18 rfl rfl ?_
    refine rg6_74 22 dX6_keep_19 (kOk_of hG rfl) rfl rfl ?_
    refine kV_iloadn 23 dX6_keep_22 rfl rfl ?_
    refine kV_aloadn 24 dX6_keep_23 rfl rfl ?_
    refine rg6_74 27 dX6_keep_24 (kOk_of hG rfl) rfl rfl ?_
    refine kV_iloadn 28 dX6_keep_27 rfl rfl ?_
    refine kV_bipush 30 dX6_keep_28 bp_15 rfl ?_
    refine kV_iadd 31 dX6_keep_30 rfl ?_
    obtain ⟨hi, h⟩ := kgd_ex h
    obtain ⟨x2, hx, h⟩ := kb_ex h
    refine rl6_27 32 dX6_keep_31 (kOk_of hG rfl) rfl hi hx rfl ?_
    clear hi hx
    obtain ⟨hi, h⟩ := kgd_ex h
    obtain ⟨S2, hx, h⟩ := kb_ex h
    refine rs6_27 33 dX6_keep_32 (kOk_of hG rfl) rfl hi hx rfl ?_
    clear hi hx
    refine kV_aloadn 34 dX6_keep_33 rfl rfl ?_
    refine rg6_77 37 dX6_keep_34 (kOk_of hG rfl) rfl rfl ?_
    refine kV_iloadn 38 dX6_keep_37 rfl rfl ?_
    refine kV_aloadn 39 dX6_keep_38 rfl rfl ?_
    refine rg6_77 42 dX6_keep_39 (kOk_of hG rfl) rfl rfl ?_
    refine kV_iloadn 43 dX6_keep_42 rfl rfl ?_
    refine kV_bipush 45 dX6_keep_43 bp_15 rfl ?_
    refine kV_iadd 46 dX6_keep_45 rfl ?_
    obtain ⟨hi, h⟩ := kgd_ex h
    obtain ⟨x3, hx, h⟩ := kb_ex h
    refine rl6_28 47 dX6_keep_46 (kOk_of hG rfl) rfl hi hx rfl ?_
    clear hi hx
    obtain ⟨hi, h⟩ := kgd_ex h
    obtain ⟨S3, hx, h⟩ := kb_ex h
    refine rs6_28 48 dX6_keep_47 (kOk_of hG rfl) rfl hi hx rfl ?_
    clear hi hx
    refine kV_iinc 51 [some (.ref (kg_ad G (kbo 5))), some (.int (v1 + (1 : Int32)))] dX6_keep_48 rfl (kinc_1 _) rfl rfl rfl ?_
    refine kV_goto 11 dX6_keep_51 (by decide) ?_
    refine kV_drop [true, true] rfl ?_
    exact hc11 _ _ h
theorem TX6_keep_L11 {G : kG} {n : Nat} {d : Nat} {X : kX} (hG : kg_N G = 55 + 14 * n) {S : kS} {v1 : Int32} {res : kS} (h : FX6_keep_L11 S v1 = some res) : kV (X, RX6, 2, none, G, krm (d + 0), (0, 0), kQ X G none (kgl G n res)) cX6_keep (kgl G n S) [some (.ref (kg_ad G (kbo 5))), some (.int v1)] [] 11 := by
  unfold FX6_keep_L11 at h
  exact kfix_ok (P := fun (q : kS × Int32) (res : kS) => kV (X, RX6, 2, none, G, krm (d + 0), (0, 0), kQ X G none (kgl G n res)) cX6_keep (kgl G n q.1) [some (.ref (kg_ad G (kbo 5))), some (.int (q.2))] [] 11) (fun rec hrec q res hq => TX6_keep_B11 hG hrec hq) kfuel _ _ h
theorem okX6_keep {l : Launch} {G : kG} {n : Nat} (hG : kg_N G = 55 + 14 * n) (d : Nat) {S : kS} {res : kS} (h : FX6_keep S = some res) : kEv l G (d + 0) mX6_keep [.ref (kg_ad G (kbo 5))] (kgl G n S) none (kgl G n res) := by
  refine kEv_of RX6 [some (.ref (kg_ad G (kbo 5))), none] rfl (by decide +kernel) rfl rfl rfl rfl (fun X hX => ?_)
  subst hX
  unfold FX6_keep at h
  refine kV_aloadn 1 dX6_keep_0 rfl rfl ?_
  obtain ⟨x1, hx, h⟩ := kb_ex h
  refine rg6_156 4 dX6_keep_1 (kOk_of hG rfl) rfl hx rfl ?_
  clear hx
  refine kV_bipush 6 dX6_keep_4 bp_10 rfl ?_
  rcases kif_ex h with ⟨hc, h⟩ | ⟨hc, h⟩
  · refine kV_icmp_ne_f 64 9 dX6_keep_6 (by decide) hc rfl ?_
    clear hc
    refine kV_iconst 10 dX6_keep_9 ic_0 rfl ?_
    refine kV_istoren 11 [some (.ref (kg_ad G (kbo 5))), some (.int (0 : Int32))] dX6_keep_10 rfl rfl rfl ?_
    refine kV_drop [true, true] rfl ?_
    exact TX6_keep_L11 hG h
  · refine kV_icmp_ne_t 64 dX6_keep_6 (by decide) hc ?_
    clear hc
    refine kV_drop [true, false] rfl ?_
    exact TX6_keep_J64 hG h
abbrev mX6_back : kM := (yX6_back, cX6_back, 2, (some .int))
theorem kmvX6_back : kMv mX6_back 0 6 := ⟨⟨(wi_r26 _ (List.mem_of_getElem? (i := 7) rfl)), (wi_r1 _ (List.mem_of_getElem? (i := 5) rfl)), ⟨by decide +kernel, by decide +kernel, by decide +kernel⟩, by decide⟩, (wi_r26 _ (List.mem_of_getElem? (i := 5) rfl)), (wi_r26 _ (List.mem_of_getElem? (i := 6) rfl)), rfl⟩
def FX6_back_B22 (c22 : kS × Int32 → Option (Int32 × kS)) (S : kS) (v1 : Int32) : Option (Int32 × kS) :=
  if (15 : Int32) ≤ v1 then (kb (kpI S 5 29 (-1 : Int32)) fun S1 => kb (kI S1 5 26) fun x1 => some (x1, S1)) else (kb (kI S 5 26) fun x2 => kgd (kin (((15 : Int32) * x2) + v1) 150) <| kb (kA S 5 27 (((15 : Int32) * x2) + v1)) fun x3 => kgd (kin v1 15) <| kb (kpA S 5 7 v1 x3) fun S2 => kb (kI S2 5 26) fun x4 => kgd (kin (((15 : Int32) * x4) + v1) 150) <| kb (kA S2 5 28 (((15 : Int32) * x4) + v1)) fun x5 => kgd (kin v1 15) <| kb (kpA S2 5 8 v1 (x5 &&& 1)) fun S3 => c22 (S3, (v1 + (1 : Int32))))
def FX6_back_L22 (S : kS) (v1 : Int32) : Option (Int32 × kS) :=
  kfix (fun rec (q : kS × Int32) => FX6_back_B22 rec q.1 q.2) kfuel (S, v1)
def FX6_back (S : kS) : Option (Int32 × kS) :=
  kb (kI S 5 26) fun x1 => if x1 = 0 then (some ((-3 : Int32), S)) else (kb (kI S 5 26) fun x2 => kb (kpI S 5 26 (x2 - (1 : Int32))) fun S1 => FX6_back_L22 S1 (0 : Int32))
theorem TX6_back_B22 {G : kG} {n : Nat} {d : Nat} {X : kX} (hG : kg_N G = 55 + 14 * n) {c22 : kS × Int32 → Option (Int32 × kS)} (hc22 : ∀ (q : kS × Int32) (res : Int32 × kS), c22 q = some res → kV (X, RX6, 2, (some .int), G, krm (d + 0), (0, 0), kQ X G (some (.int res.1)) (kgl G n res.2)) cX6_back (kgl G n q.1) [some (.ref (kg_ad G (kbo 5))), some (.int (q.2))] [] 22) {S : kS} {v1 : Int32} {res : Int32 × kS} (h : FX6_back_B22 c22 S v1 = some res) : kV (X, RX6, 2, (some .int), G, krm (d + 0), (0, 0), kQ X G (some (.int res.1)) (kgl G n res.2)) cX6_back (kgl G n S) [some (.ref (kg_ad G (kbo 5))), some (.int v1)] [] 22 := by
  unfold FX6_back_B22 at h
  refine kV_iloadn 23 dX6_back_22 rfl rfl ?_
  refine kV_bipush 25 dX6_back_23 bp_15 rfl ?_
  rcases kif_ex h with ⟨hc, h⟩ | ⟨hc, h⟩
  · refine kV_icmp_ge_t 74 dX6_back_25 (by decide) hc ?_
    clear hc
    refine kV_aloadn 75 dX6_back_74 rfl rfl ?_
    refine kV_iconst 76 dX6_back_75 ic_m1 rfl ?_
    obtain ⟨S1, hx, h⟩ := kb_ex h
    refine rp6_80 79 dX6_back_76 (kOk_of hG rfl) rfl hx rfl ?_
    clear hx
    refine kV_aloadn 80 dX6_back_79 rfl rfl ?_
    obtain ⟨x1, hx, h⟩ := kb_ex h
    refine rg6_156 83 dX6_back_80 (kOk_of hG rfl) rfl hx rfl ?_
    clear hx
    cases h
    exact kV_iret dX6_back_83
  · refine kV_icmp_ge_f 74 28 dX6_back_25 (by decide) hc rfl ?_
    clear hc
    refine kV_aloadn 29 dX6_back_28 rfl rfl ?_
    refine rg6_25 32 dX6_back_29 (kOk_of hG rfl) rfl rfl ?_
    refine kV_iloadn 33 dX6_back_32 rfl rfl ?_
    refine kV_aloadn 34 dX6_back_33 rfl rfl ?_
    refine rg6_74 37 dX6_back_34 (kOk_of hG rfl) rfl rfl ?_
    refine kV_bipush 39 dX6_back_37 bp_15 rfl ?_
    refine kV_aloadn 40 dX6_back_39 rfl rfl ?_
    obtain ⟨x2, hx, h⟩ := kb_ex h
    refine rg6_156 43 dX6_back_40 (kOk_of hG rfl) rfl hx rfl ?_
    clear hx
    refine kV_imul 44 dX6_back_43 rfl ?_
    refine kV_iloadn 45 dX6_back_44 rfl rfl ?_
    refine kV_iadd 46 dX6_back_45 rfl ?_
    obtain ⟨hi, h⟩ := kgd_ex h
    obtain ⟨x3, hx, h⟩ := kb_ex h
    refine rl6_27 47 dX6_back_46 (kOk_of hG rfl) rfl hi hx rfl ?_
    clear hi hx
    obtain ⟨hi, h⟩ := kgd_ex h
    obtain ⟨S2, hx, h⟩ := kb_ex h
    refine rs6_7 48 dX6_back_47 (kOk_of hG rfl) rfl hi hx rfl ?_
    clear hi hx
    refine kV_aloadn 49 dX6_back_48 rfl rfl ?_
    refine rg6_28 52 dX6_back_49 (kOk_of hG rfl) rfl rfl ?_
    refine kV_iloadn 53 dX6_back_52 rfl rfl ?_
    refine kV_aloadn 54 dX6_back_53 rfl rfl ?_
    refine rg6_77 57 dX6_back_54 (kOk_of hG rfl) rfl rfl ?_
    refine kV_bipush 59 dX6_back_57 bp_15 rfl ?_
    refine kV_aloadn 60 dX6_back_59 rfl rfl ?_
    obtain ⟨x4, hx, h⟩ := kb_ex h
    refine rg6_156 63 dX6_back_60 (kOk_of hG rfl) rfl hx rfl ?_
    clear hx
    refine kV_imul 64 dX6_back_63 rfl ?_
    refine kV_iloadn 65 dX6_back_64 rfl rfl ?_
    refine kV_iadd 66 dX6_back_65 rfl ?_
    obtain ⟨hi, h⟩ := kgd_ex h
    obtain ⟨x5, hx, h⟩ := kb_ex h
    refine rl6_28 67 dX6_back_66 (kOk_of hG rfl) rfl hi hx rfl ?_
    clear hi hx
    obtain ⟨hi, h⟩ := kgd_ex h
    obtain ⟨S3, hx, h⟩ := kb_ex h
    refine rs6_8 68 dX6_back_67 (kOk_of hG rfl) rfl hi hx rfl ?_
    clear hi hx
    refine kV_iinc 71 [some (.ref (kg_ad G (kbo 5))), some (.int (v1 + (1 : Int32)))] dX6_back_68 rfl (kinc_1 _) rfl rfl rfl ?_
    refine kV_goto 22 dX6_back_71 (by decide) ?_
    refine kV_drop [true, true] rfl ?_
    exact hc22 _ _ h
theorem TX6_back_L22 {G : kG} {n : Nat} {d : Nat} {X : kX} (hG : kg_N G = 55 + 14 * n) {S : kS} {v1 : Int32} {res : Int32 × kS} (h : FX6_back_L22 S v1 = some res) : kV (X, RX6, 2, (some .int), G, krm (d + 0), (0, 0), kQ X G (some (.int res.1)) (kgl G n res.2)) cX6_back (kgl G n S) [some (.ref (kg_ad G (kbo 5))), some (.int v1)] [] 22 := by
  unfold FX6_back_L22 at h
  exact kfix_ok (P := fun (q : kS × Int32) (res : Int32 × kS) => kV (X, RX6, 2, (some .int), G, krm (d + 0), (0, 0), kQ X G (some (.int res.1)) (kgl G n res.2)) cX6_back (kgl G n q.1) [some (.ref (kg_ad G (kbo 5))), some (.int (q.2))] [] 22) (fun rec hrec q res hq => TX6_back_B22 hG hrec hq) kfuel _ _ h
theorem okX6_back {l : Launch} {G : kG} {n : Nat} (hG : kg_N G = 55 + 14 * n) (d : Nat) {S : kS} {res : Int32 × kS} (h : FX6_back S = some res) : kEv l G (d + 0) mX6_back [.ref (kg_ad G (kbo 5))] (kgl G n S) (some (.int res.1)) (kgl G n res.2) := by
  refine kEv_of RX6 [some (.ref (kg_ad G (kbo 5))), none] rfl (by decide +kernel) rfl rfl rfl rfl (fun X hX => ?_)
  subst hX
  unfold FX6_back at h
  refine kV_aloadn 1 dX6_back_0 rfl rfl ?_
  obtain ⟨x1, hx, h⟩ := kb_ex h
  refine rg6_156 4 dX6_back_1 (kOk_of hG rfl) rfl hx rfl ?_
  clear hx
  rcases kif_ex h with ⟨hc, h⟩ | ⟨hc, h⟩
  · refine kV_if_ne_f 10 7 dX6_back_4 (by decide) hc rfl ?_
    clear hc
    refine kV_bipush 9 dX6_back_7 bp_m3 rfl ?_
    cases h
    exact kV_iret dX6_back_9
  · refine kV_if_ne_t 10 dX6_back_4 (by decide) hc ?_
    clear hc
    refine kV_aloadn 11 dX6_back_10 rfl rfl ?_
    refine kV_dup 12 dX6_back_11 rfl rfl ?_
    obtain ⟨x2, hx, h⟩ := kb_ex h
    refine rg6_156 15 dX6_back_12 (kOk_of hG rfl) rfl hx rfl ?_
    clear hx
    refine kV_iconst 16 dX6_back_15 ic_1 rfl ?_
    refine kV_isub 17 dX6_back_16 rfl ?_
    obtain ⟨S1, hx, h⟩ := kb_ex h
    refine rp6_156 20 dX6_back_17 (kOk_of hG rfl) rfl hx rfl ?_
    clear hx
    refine kV_iconst 21 dX6_back_20 ic_0 rfl ?_
    refine kV_istoren 22 [some (.ref (kg_ad G (kbo 5))), some (.int (0 : Int32))] dX6_back_21 rfl rfl rfl ?_
    refine kV_drop [true, true] rfl ?_
    exact TX6_back_L22 hG h
abbrev mX6_say : kM := (yX6_say, cX6_say, 2, (some .int))
theorem kmvX6_say : kMv mX6_say 1 6 := ⟨⟨(wi_r15 _ (List.mem_of_getElem? (i := 5) rfl)), (wi_r1 _ (List.mem_of_getElem? (i := 5) rfl)), ⟨by decide +kernel, by decide +kernel, by decide +kernel⟩, by decide⟩, (wi_r15 _ (List.mem_of_getElem? (i := 3) rfl)), (wi_r15 _ (List.mem_of_getElem? (i := 4) rfl)), rfl⟩
def FX6_say (S : kS) (a1 : Int32) : Option (Int32 × kS) :=
  (FX6_in S a1 (0 : Int32) (63 : Int32)).bind fun x1 => if x1 = 0 then (some ((-1 : Int32), S)) else (kb (kI S 5 33) fun x2 => if x2 = (8 : Int32) then (some ((-4 : Int32), S)) else (kb (kI S 5 33) fun x3 => kgd (kin x3 8) <| kb (kpA S 5 32 x3 a1) fun S1 => kb (kI S1 5 33) fun x4 => kb (kpI S1 5 33 (x4 + (1 : Int32))) fun S2 => kb (kI S2 5 33) fun x5 => some (x5, S2)))
theorem okX6_say {l : Launch} {G : kG} {n : Nat} (hG : kg_N G = 55 + 14 * n) (d : Nat) {S : kS} {a1 : Int32} {res : Int32 × kS} (h : FX6_say S a1 = some res) : kEv l G (d + 1) mX6_say [.ref (kg_ad G (kbo 5)), .int a1] (kgl G n S) (some (.int res.1)) (kgl G n res.2) := by
  refine kEv_of RX6 [some (.ref (kg_ad G (kbo 5))), some (.int a1)] rfl (by decide +kernel) rfl rfl rfl rfl (fun X hX => ?_)
  subst hX
  unfold FX6_say at h
  refine kV_iloadn 1 dX6_say_0 rfl rfl ?_
  refine kV_iconst 2 dX6_say_1 ic_0 rfl ?_
  refine kV_bipush 4 dX6_say_2 bp_63 rfl ?_
  obtain ⟨x1, hx, h⟩ := kbi_ex h
  refine kC_S 7 [] [.int x1] dX6_say_4 (okX6_in hG d  hx) kmtX6_in (wi_r8 _ (List.mem_of_getElem? (i := 6) rfl)) rfl rfl rfl rfl rfl ?_
  clear hx
  rcases kif_ex h with ⟨hc, h⟩ | ⟨hc, h⟩
  · refine kV_if_ne_f 12 10 dX6_say_7 (by decide) hc rfl ?_
    clear hc
    refine kV_iconst 11 dX6_say_10 ic_m1 rfl ?_
    cases h
    exact kV_iret dX6_say_11
  · refine kV_if_ne_t 12 dX6_say_7 (by decide) hc ?_
    clear hc
    refine kV_aloadn 13 dX6_say_12 rfl rfl ?_
    obtain ⟨x2, hx, h⟩ := kb_ex h
    refine rg6_159 16 dX6_say_13 (kOk_of hG rfl) rfl hx rfl ?_
    clear hx
    refine kV_bipush 18 dX6_say_16 bp_8 rfl ?_
    rcases kif_ex h with ⟨hc, h⟩ | ⟨hc, h⟩
    · refine kV_icmp_ne_f 24 21 dX6_say_18 (by decide) hc rfl ?_
      clear hc
      refine kV_bipush 23 dX6_say_21 bp_m4 rfl ?_
      cases h
      exact kV_iret dX6_say_23
    · refine kV_icmp_ne_t 24 dX6_say_18 (by decide) hc ?_
      clear hc
      refine kV_aloadn 25 dX6_say_24 rfl rfl ?_
      refine rg6_84 28 dX6_say_25 (kOk_of hG rfl) rfl rfl ?_
      refine kV_aloadn 29 dX6_say_28 rfl rfl ?_
      obtain ⟨x3, hx, h⟩ := kb_ex h
      refine rg6_159 32 dX6_say_29 (kOk_of hG rfl) rfl hx rfl ?_
      clear hx
      refine kV_iloadn 33 dX6_say_32 rfl rfl ?_
      obtain ⟨hi, h⟩ := kgd_ex h
      obtain ⟨S1, hx, h⟩ := kb_ex h
      refine rs6_32 34 dX6_say_33 (kOk_of hG rfl) rfl hi hx rfl ?_
      clear hi hx
      refine kV_aloadn 35 dX6_say_34 rfl rfl ?_
      refine kV_dup 36 dX6_say_35 rfl rfl ?_
      obtain ⟨x4, hx, h⟩ := kb_ex h
      refine rg6_159 39 dX6_say_36 (kOk_of hG rfl) rfl hx rfl ?_
      clear hx
      refine kV_iconst 40 dX6_say_39 ic_1 rfl ?_
      refine kV_iadd 41 dX6_say_40 rfl ?_
      obtain ⟨S2, hx, h⟩ := kb_ex h
      refine rp6_159 44 dX6_say_41 (kOk_of hG rfl) rfl hx rfl ?_
      clear hx
      refine kV_aloadn 45 dX6_say_44 rfl rfl ?_
      obtain ⟨x5, hx, h⟩ := kb_ex h
      refine rg6_159 48 dX6_say_45 (kOk_of hG rfl) rfl hx rfl ?_
      clear hx
      cases h
      exact kV_iret dX6_say_48
abbrev mX6_fits : kM := (yX6_fits, cX6_fits, 8, (some .boolean))
theorem kmvX6_fits : kMv mX6_fits 3 6 := ⟨⟨(wi_r23 _ (List.mem_of_getElem? (i := 7) rfl)), (wi_r1 _ (List.mem_of_getElem? (i := 5) rfl)), ⟨by decide +kernel, by decide +kernel, by decide +kernel⟩, by decide⟩, (wi_r23 _ (List.mem_of_getElem? (i := 5) rfl)), (wi_r23 _ (List.mem_of_getElem? (i := 6) rfl)), rfl⟩
def FX6_fits_J130 (S : kS) : Option (Int32) :=
  some (0 : Int32)
def FX6_fits_J132 (c30 : Int32 × Int32 × Int32 × Int32 → Option (Int32)) (S : kS) (v1 : Int32) (v2 : Int32) (v3 : Int32) (v4 : Int32) : Option (Int32) :=
  c30 (v1, v2, v3, (v4 + (1 : Int32)))
def FX6_fits_J100 (c30 : Int32 × Int32 × Int32 × Int32 → Option (Int32)) (S : kS) (v1 : Int32) (v2 : Int32) (v3 : Int32) (v4 : Int32) (v5 : Int32) (v7 : Int32) : Option (Int32) :=
  if v5 = (1 : Int32) then (if v7 = (-1 : Int32) then (FX6_fits_J130 S) else (kgd (kin (((4 : Int32) * v1) + v4) 84) <| kb (kA S 5 22 (((4 : Int32) * v1) + v4)) fun x1 => if (v7 / (4 : Int32)) = x1 then (FX6_fits_J132 c30 S v1 v2 v3 v4) else (FX6_fits_J130 S))) else (FX6_fits_J132 c30 S v1 v2 v3 v4)
def FX6_fits_B30 (c30 : Int32 × Int32 × Int32 × Int32 → Option (Int32)) (S : kS) (v1 : Int32) (v2 : Int32) (v3 : Int32) (v4 : Int32) : Option (Int32) :=
  kgd (kin v1 20) <| kb (kA S 5 20 v1) fun x1 => if x1 ≤ v4 then (some (1 : Int32)) else (kgd (kin (((4 : Int32) * v1) + v4) 84) <| kb (kA S 5 21 (((4 : Int32) * v1) + v4)) fun x2 => kgd (kin (v2 + v4) 8) <| kb (kA S 5 32 (v2 + v4)) fun x3 => kgd (kin (((64 : Int32) * v3) + x3) 192) <| kb (kA S 5 15 (((64 : Int32) * v3) + x3)) fun x4 => if x2 = 0 then (kgd (kin (((4 : Int32) * v1) + v4) 84) <| kb (kA S 5 22 (((4 : Int32) * v1) + v4)) fun x5 => if x5 = x3 then (FX6_fits_J100 c30 S v1 v2 v3 v4 x2 x4) else (FX6_fits_J130 S)) else (FX6_fits_J100 c30 S v1 v2 v3 v4 x2 x4))
def FX6_fits_L30 (S : kS) (v1 : Int32) (v2 : Int32) (v3 : Int32) (v4 : Int32) : Option (Int32) :=
  kfix (fun rec (q : Int32 × Int32 × Int32 × Int32) => FX6_fits_B30 rec S q.1 q.2.1 q.2.2.1 q.2.2.2) kfuel (v1, v2, v3, v4)
def FX6_fits_J25 (S : kS) : Option (Int32) :=
  some (0 : Int32)
def FX6_fits (S : kS) (a1 : Int32) (a2 : Int32) (a3 : Int32) : Option (Int32) :=
  kgd (kin a1 20) <| kb (kA S 5 17 a1) fun x1 => if x1 = a3 then (kgd (kin a1 20) <| kb (kA S 5 20 a1) fun x2 => kb (kI S 5 33) fun x3 => if (a2 + x2) ≤ x3 then (FX6_fits_L30 S a1 a2 a3 (0 : Int32)) else (FX6_fits_J25 S)) else (FX6_fits_J25 S)
theorem TX6_fits_J130 {G : kG} {n : Nat} {d : Nat} {X : kX} (hG : kg_N G = 55 + 14 * n) {S : kS} {res : Int32} (h : FX6_fits_J130 S = some res) : kV (X, RX6, 8, (some .boolean), G, krm (d + 0), (0, 0), kQ X G (some (.int res)) (kgl G n S)) cX6_fits (kgl G n S) [none, none, none, none, none, none, none, none] [] 130 := by
  unfold FX6_fits_J130 at h
  refine kV_iconst 131 dX6_fits_130 ic_0 rfl ?_
  cases h
  exact kV_zret dX6_fits_131 (by decide)
theorem TX6_fits_J132 {G : kG} {n : Nat} {d : Nat} {X : kX} (hG : kg_N G = 55 + 14 * n) {c30 : Int32 × Int32 × Int32 × Int32 → Option (Int32)} {S : kS} (hc30 : ∀ (q : Int32 × Int32 × Int32 × Int32) (res : Int32), c30 q = some res → kV (X, RX6, 8, (some .boolean), G, krm (d + 0), (0, 0), kQ X G (some (.int res)) (kgl G n S)) cX6_fits (kgl G n S) [some (.ref (kg_ad G (kbo 5))), some (.int (q.1)), some (.int (q.2.1)), some (.int (q.2.2.1)), some (.int (q.2.2.2)), none, none, none] [] 30) {v1 : Int32} {v2 : Int32} {v3 : Int32} {v4 : Int32} {res : Int32} (h : FX6_fits_J132 c30 S v1 v2 v3 v4 = some res) : kV (X, RX6, 8, (some .boolean), G, krm (d + 0), (0, 0), kQ X G (some (.int res)) (kgl G n S)) cX6_fits (kgl G n S) [some (.ref (kg_ad G (kbo 5))), some (.int v1), some (.int v2), some (.int v3), some (.int v4), none, none, none] [] 132 := by
  unfold FX6_fits_J132 at h
  refine kV_iinc 135 [some (.ref (kg_ad G (kbo 5))), some (.int v1), some (.int v2), some (.int v3), some (.int (v4 + (1 : Int32))), none, none, none] dX6_fits_132 rfl (kinc_1 _) rfl rfl rfl ?_
  refine kV_goto 30 dX6_fits_135 (by decide) ?_
  refine kV_drop [true, true, true, true, true, false, false, false] rfl ?_
  exact hc30 _ _ h
theorem TX6_fits_J100 {G : kG} {n : Nat} {d : Nat} {X : kX} (hG : kg_N G = 55 + 14 * n) {c30 : Int32 × Int32 × Int32 × Int32 → Option (Int32)} {S : kS} (hc30 : ∀ (q : Int32 × Int32 × Int32 × Int32) (res : Int32), c30 q = some res → kV (X, RX6, 8, (some .boolean), G, krm (d + 0), (0, 0), kQ X G (some (.int res)) (kgl G n S)) cX6_fits (kgl G n S) [some (.ref (kg_ad G (kbo 5))), some (.int (q.1)), some (.int (q.2.1)), some (.int (q.2.2.1)), some (.int (q.2.2.2)), none, none, none] [] 30) {v1 : Int32} {v2 : Int32} {v3 : Int32} {v4 : Int32} {v5 : Int32} {v7 : Int32} {res : Int32} (h : FX6_fits_J100 c30 S v1 v2 v3 v4 v5 v7 = some res) : kV (X, RX6, 8, (some .boolean), G, krm (d + 0), (0, 0), kQ X G (some (.int res)) (kgl G n S)) cX6_fits (kgl G n S) [some (.ref (kg_ad G (kbo 5))), some (.int v1), some (.int v2), some (.int v3), some (.int v4), some (.int v5), none, some (.int v7)] [] 100 := by
  unfold FX6_fits_J100 at h
  refine kV_iload 102 dX6_fits_100 rfl rfl ?_
  refine kV_iconst 103 dX6_fits_102 ic_1 rfl ?_
  rcases kif_ex h with ⟨hc, h⟩ | ⟨hc, h⟩
  · refine kV_icmp_ne_f 132 106 dX6_fits_103 (by decide) hc rfl ?_
    clear hc
    refine kV_iload 108 dX6_fits_106 rfl rfl ?_
    refine kV_iconst 109 dX6_fits_108 ic_m1 rfl ?_
    rcases kif_ex h with ⟨hc, h⟩ | ⟨hc, h⟩
    · refine kV_icmp_eq_t 130 dX6_fits_109 (by decide) hc ?_
      clear hc
      refine kV_drop [false, false, false, false, false, false, false, false] rfl ?_
      exact TX6_fits_J130 hG h
    · refine kV_icmp_eq_f 130 112 dX6_fits_109 (by decide) hc rfl ?_
      clear hc
      refine kV_iload 114 dX6_fits_112 rfl rfl ?_
      refine kV_iconst 115 dX6_fits_114 ic_4 rfl ?_
      refine kV_idiv 116 dX6_fits_115 (by decide) rfl ?_
      refine kV_aloadn 117 dX6_fits_116 rfl rfl ?_
      refine rg6_68 120 dX6_fits_117 (kOk_of hG rfl) rfl rfl ?_
      refine kV_iconst 121 dX6_fits_120 ic_4 rfl ?_
      refine kV_iloadn 122 dX6_fits_121 rfl rfl ?_
      refine kV_imul 123 dX6_fits_122 rfl ?_
      refine kV_iload 125 dX6_fits_123 rfl rfl ?_
      refine kV_iadd 126 dX6_fits_125 rfl ?_
      obtain ⟨hi, h⟩ := kgd_ex h
      obtain ⟨x1, hx, h⟩ := kb_ex h
      refine rl6_22 127 dX6_fits_126 (kOk_of hG rfl) rfl hi hx rfl ?_
      clear hi hx
      rcases kif_ex h with ⟨hc, h⟩ | ⟨hc, h⟩
      · refine kV_icmp_eq_t 132 dX6_fits_127 (by decide) hc ?_
        clear hc
        refine kV_drop [true, true, true, true, true, false, false, false] rfl ?_
        exact TX6_fits_J132 hG hc30 h
      · refine kV_icmp_eq_f 132 130 dX6_fits_127 (by decide) hc rfl ?_
        clear hc
        refine kV_drop [false, false, false, false, false, false, false, false] rfl ?_
        exact TX6_fits_J130 hG h
  · refine kV_icmp_ne_t 132 dX6_fits_103 (by decide) hc ?_
    clear hc
    refine kV_drop [true, true, true, true, true, false, false, false] rfl ?_
    exact TX6_fits_J132 hG hc30 h
theorem TX6_fits_B30 {G : kG} {n : Nat} {d : Nat} {X : kX} (hG : kg_N G = 55 + 14 * n) {S : kS} {c30 : Int32 × Int32 × Int32 × Int32 → Option (Int32)} (hc30 : ∀ (q : Int32 × Int32 × Int32 × Int32) (res : Int32), c30 q = some res → kV (X, RX6, 8, (some .boolean), G, krm (d + 0), (0, 0), kQ X G (some (.int res)) (kgl G n S)) cX6_fits (kgl G n S) [some (.ref (kg_ad G (kbo 5))), some (.int (q.1)), some (.int (q.2.1)), some (.int (q.2.2.1)), some (.int (q.2.2.2)), none, none, none] [] 30) {v1 : Int32} {v2 : Int32} {v3 : Int32} {v4 : Int32} {res : Int32} (h : FX6_fits_B30 c30 S v1 v2 v3 v4 = some res) : kV (X, RX6, 8, (some .boolean), G, krm (d + 0), (0, 0), kQ X G (some (.int res)) (kgl G n S)) cX6_fits (kgl G n S) [some (.ref (kg_ad G (kbo 5))), some (.int v1), some (.int v2), some (.int v3), some (.int v4), none, none, none] [] 30 := by
  unfold FX6_fits_B30 at h
  refine kV_iload 32 dX6_fits_30 rfl rfl ?_
  refine kV_aloadn 33 dX6_fits_32 rfl rfl ?_
  refine rg6_62 36 dX6_fits_33 (kOk_of hG rfl) rfl rfl ?_
  refine kV_iloadn 37 dX6_fits_36 rfl rfl ?_
  obtain ⟨hi, h⟩ := kgd_ex h
  obtain ⟨x1, hx, h⟩ := kb_ex h
  refine rl6_20 38 dX6_fits_37 (kOk_of hG rfl) rfl hi hx rfl ?_
  clear hi hx
  rcases kif_ex h with ⟨hc, h⟩ | ⟨hc, h⟩
  · refine kV_icmp_ge_t 138 dX6_fits_38 (by decide) hc ?_
    clear hc
    refine kV_iconst 139 dX6_fits_138 ic_1 rfl ?_
    cases h
    exact kV_zret dX6_fits_139 (by decide)
  · refine kV_icmp_ge_f 138 41 dX6_fits_38 (by decide) hc rfl ?_
    clear hc
    refine kV_aloadn 42 dX6_fits_41 rfl rfl ?_
    refine rg6_65 45 dX6_fits_42 (kOk_of hG rfl) rfl rfl ?_
    refine kV_iconst 46 dX6_fits_45 ic_4 rfl ?_
    refine kV_iloadn 47 dX6_fits_46 rfl rfl ?_
    refine kV_imul 48 dX6_fits_47 rfl ?_
    refine kV_iload 50 dX6_fits_48 rfl rfl ?_
    refine kV_iadd 51 dX6_fits_50 rfl ?_
    obtain ⟨hi, h⟩ := kgd_ex h
    obtain ⟨x2, hx, h⟩ := kb_ex h
    refine rl6_21 52 dX6_fits_51 (kOk_of hG rfl) rfl hi hx rfl ?_
    clear hi hx
    refine kV_istore 54 [some (.ref (kg_ad G (kbo 5))), some (.int v1), some (.int v2), some (.int v3), some (.int v4), some (.int x2), none, none] dX6_fits_52 rfl rfl rfl ?_
    refine kV_aloadn 55 dX6_fits_54 rfl rfl ?_
    refine rg6_84 58 dX6_fits_55 (kOk_of hG rfl) rfl rfl ?_
    refine kV_iloadn 59 dX6_fits_58 rfl rfl ?_
    refine kV_iload 61 dX6_fits_59 rfl rfl ?_
    refine kV_iadd 62 dX6_fits_61 rfl ?_
    obtain ⟨hi, h⟩ := kgd_ex h
    obtain ⟨x3, hx, h⟩ := kb_ex h
    refine rl6_32 63 dX6_fits_62 (kOk_of hG rfl) rfl hi hx rfl ?_
    clear hi hx
    refine kV_istore 65 [some (.ref (kg_ad G (kbo 5))), some (.int v1), some (.int v2), some (.int v3), some (.int v4), some (.int x2), some (.int x3), none] dX6_fits_63 rfl rfl rfl ?_
    refine kV_aloadn 66 dX6_fits_65 rfl rfl ?_
    refine rg6_50 69 dX6_fits_66 (kOk_of hG rfl) rfl rfl ?_
    refine kV_bipush 71 dX6_fits_69 bp_64 rfl ?_
    refine kV_iloadn 72 dX6_fits_71 rfl rfl ?_
    refine kV_imul 73 dX6_fits_72 rfl ?_
    refine kV_iload 75 dX6_fits_73 rfl rfl ?_
    refine kV_iadd 76 dX6_fits_75 rfl ?_
    obtain ⟨hi, h⟩ := kgd_ex h
    obtain ⟨x4, hx, h⟩ := kb_ex h
    refine rl6_15 77 dX6_fits_76 (kOk_of hG rfl) rfl hi hx rfl ?_
    clear hi hx
    refine kV_istore 79 [some (.ref (kg_ad G (kbo 5))), some (.int v1), some (.int v2), some (.int v3), some (.int v4), some (.int x2), some (.int x3), some (.int x4)] dX6_fits_77 rfl rfl rfl ?_
    refine kV_iload 81 dX6_fits_79 rfl rfl ?_
    rcases kif_ex h with ⟨hc, h⟩ | ⟨hc, h⟩
    · refine kV_if_ne_f 100 84 dX6_fits_81 (by decide) hc rfl ?_
      clear hc
      refine kV_aloadn 85 dX6_fits_84 rfl rfl ?_
      refine rg6_68 88 dX6_fits_85 (kOk_of hG rfl) rfl rfl ?_
      refine kV_iconst 89 dX6_fits_88 ic_4 rfl ?_
      refine kV_iloadn 90 dX6_fits_89 rfl rfl ?_
      refine kV_imul 91 dX6_fits_90 rfl ?_
      refine kV_iload 93 dX6_fits_91 rfl rfl ?_
      refine kV_iadd 94 dX6_fits_93 rfl ?_
      obtain ⟨hi, h⟩ := kgd_ex h
      obtain ⟨x5, hx, h⟩ := kb_ex h
      refine rl6_22 95 dX6_fits_94 (kOk_of hG rfl) rfl hi hx rfl ?_
      clear hi hx
      refine kV_iload 97 dX6_fits_95 rfl rfl ?_
      rcases kif_ex h with ⟨hc, h⟩ | ⟨hc, h⟩
      · refine kV_icmp_ne_f 130 100 dX6_fits_97 (by decide) hc rfl ?_
        clear hc
        refine kV_drop [true, true, true, true, true, true, false, true] rfl ?_
        exact TX6_fits_J100 hG hc30 h
      · refine kV_icmp_ne_t 130 dX6_fits_97 (by decide) hc ?_
        clear hc
        refine kV_drop [false, false, false, false, false, false, false, false] rfl ?_
        exact TX6_fits_J130 hG h
    · refine kV_if_ne_t 100 dX6_fits_81 (by decide) hc ?_
      clear hc
      refine kV_drop [true, true, true, true, true, true, false, true] rfl ?_
      exact TX6_fits_J100 hG hc30 h
theorem TX6_fits_L30 {G : kG} {n : Nat} {d : Nat} {X : kX} (hG : kg_N G = 55 + 14 * n) {S : kS} {v1 : Int32} {v2 : Int32} {v3 : Int32} {v4 : Int32} {res : Int32} (h : FX6_fits_L30 S v1 v2 v3 v4 = some res) : kV (X, RX6, 8, (some .boolean), G, krm (d + 0), (0, 0), kQ X G (some (.int res)) (kgl G n S)) cX6_fits (kgl G n S) [some (.ref (kg_ad G (kbo 5))), some (.int v1), some (.int v2), some (.int v3), some (.int v4), none, none, none] [] 30 := by
  unfold FX6_fits_L30 at h
  exact kfix_ok (P := fun (q : Int32 × Int32 × Int32 × Int32) (res : Int32) => kV (X, RX6, 8, (some .boolean), G, krm (d + 0), (0, 0), kQ X G (some (.int res)) (kgl G n S)) cX6_fits (kgl G n S) [some (.ref (kg_ad G (kbo 5))), some (.int (q.1)), some (.int (q.2.1)), some (.int (q.2.2.1)), some (.int (q.2.2.2)), none, none, none] [] 30) (fun rec hrec q res hq => TX6_fits_B30 hG hrec hq) kfuel _ _ h
theorem TX6_fits_J25 {G : kG} {n : Nat} {d : Nat} {X : kX} (hG : kg_N G = 55 + 14 * n) {S : kS} {res : Int32} (h : FX6_fits_J25 S = some res) : kV (X, RX6, 8, (some .boolean), G, krm (d + 0), (0, 0), kQ X G (some (.int res)) (kgl G n S)) cX6_fits (kgl G n S) [none, none, none, none, none, none, none, none] [] 25 := by
  unfold FX6_fits_J25 at h
  refine kV_iconst 26 dX6_fits_25 ic_0 rfl ?_
  cases h
  exact kV_zret dX6_fits_26 (by decide)
theorem okX6_fits {l : Launch} {G : kG} {n : Nat} (hG : kg_N G = 55 + 14 * n) (d : Nat) {S : kS} {a1 : Int32} {a2 : Int32} {a3 : Int32} {res : Int32} (h : FX6_fits S a1 a2 a3 = some res) : kEv l G (d + 0) mX6_fits [.ref (kg_ad G (kbo 5)), .int a1, .int a2, .int a3] (kgl G n S) (some (.int res)) (kgl G n S) := by
  refine kEv_of RX6 [some (.ref (kg_ad G (kbo 5))), some (.int a1), some (.int a2), some (.int a3), none, none, none, none] rfl (by decide +kernel) rfl rfl rfl rfl (fun X hX => ?_)
  subst hX
  unfold FX6_fits at h
  refine kV_aloadn 1 dX6_fits_0 rfl rfl ?_
  refine rg6_53 4 dX6_fits_1 (kOk_of hG rfl) rfl rfl ?_
  refine kV_iloadn 5 dX6_fits_4 rfl rfl ?_
  obtain ⟨hi, h⟩ := kgd_ex h
  obtain ⟨x1, hx, h⟩ := kb_ex h
  refine rl6_17 6 dX6_fits_5 (kOk_of hG rfl) rfl hi hx rfl ?_
  clear hi hx
  refine kV_iloadn 7 dX6_fits_6 rfl rfl ?_
  rcases kif_ex h with ⟨hc, h⟩ | ⟨hc, h⟩
  · refine kV_icmp_ne_f 25 10 dX6_fits_7 (by decide) hc rfl ?_
    clear hc
    refine kV_iloadn 11 dX6_fits_10 rfl rfl ?_
    refine kV_aloadn 12 dX6_fits_11 rfl rfl ?_
    refine rg6_62 15 dX6_fits_12 (kOk_of hG rfl) rfl rfl ?_
    refine kV_iloadn 16 dX6_fits_15 rfl rfl ?_
    obtain ⟨hi, h⟩ := kgd_ex h
    obtain ⟨x2, hx, h⟩ := kb_ex h
    refine rl6_20 17 dX6_fits_16 (kOk_of hG rfl) rfl hi hx rfl ?_
    clear hi hx
    refine kV_iadd 18 dX6_fits_17 rfl ?_
    refine kV_aloadn 19 dX6_fits_18 rfl rfl ?_
    obtain ⟨x3, hx, h⟩ := kb_ex h
    refine rg6_159 22 dX6_fits_19 (kOk_of hG rfl) rfl hx rfl ?_
    clear hx
    rcases kif_ex h with ⟨hc, h⟩ | ⟨hc, h⟩
    · refine kV_icmp_le_t 27 dX6_fits_22 (by decide) hc ?_
      clear hc
      refine kV_iconst 28 dX6_fits_27 ic_0 rfl ?_
      refine kV_istore 30 [some (.ref (kg_ad G (kbo 5))), some (.int a1), some (.int a2), some (.int a3), some (.int (0 : Int32)), none, none, none] dX6_fits_28 rfl rfl rfl ?_
      refine kV_drop [true, true, true, true, true, false, false, false] rfl ?_
      exact TX6_fits_L30 hG h
    · refine kV_icmp_le_f 27 25 dX6_fits_22 (by decide) hc rfl ?_
      clear hc
      refine kV_drop [false, false, false, false, false, false, false, false] rfl ?_
      exact TX6_fits_J25 hG h
  · refine kV_icmp_ne_t 25 dX6_fits_7 (by decide) hc ?_
    clear hc
    refine kV_drop [false, false, false, false, false, false, false, false] rfl ?_
    exact TX6_fits_J25 hG h
abbrev mX6_isLeast : kM := (yX6_isLeast, cX6_isLeast, 4, (some .boolean))
theorem kmvX6_isLeast : kMv mX6_isLeast 3 6 := ⟨⟨(wi_r23 _ (List.mem_of_getElem? (i := 15) rfl)), (wi_r1 _ (List.mem_of_getElem? (i := 5) rfl)), ⟨by decide +kernel, by decide +kernel, by decide +kernel⟩, by decide⟩, (wi_r23 _ (List.mem_of_getElem? (i := 13) rfl)), (wi_r23 _ (List.mem_of_getElem? (i := 14) rfl)), rfl⟩
def FX6_isLeast_J44 (S : kS) (s0 : Int32) : Option (Int32) :=
  kgd (kz s0) <| some s0
def FX6_isLeast_J43 (S : kS) : Option (Int32) :=
  FX6_isLeast_J44 S (0 : Int32)
def FX6_isLeast (S : kS) (a1 : Int32) (a2 : Int32) (a3 : Int32) : Option (Int32) :=
  (FX6_fits S a1 a2 a3).bind fun x1 => if x1 = 0 then (FX6_isLeast_J43 S) else (kgd (kin a1 20) <| kb (kA S 5 18 a1) fun x2 => kgd (kin a1 20) <| kb (kA S 5 20 a1) fun x3 => kgd (kin (a2 + x3) 9) <| kb (kA S 5 34 (a2 + x3)) fun x4 => kgd (kin a2 9) <| kb (kA S 5 34 a2) fun x5 => if (x2 + x4) = x5 then (FX6_isLeast_J44 S (1 : Int32)) else (FX6_isLeast_J43 S))
theorem TX6_isLeast_J44 {G : kG} {n : Nat} {d : Nat} {X : kX} (hG : kg_N G = 55 + 14 * n) {S : kS} {s0 : Int32} {res : Int32} (h : FX6_isLeast_J44 S s0 = some res) : kV (X, RX6, 4, (some .boolean), G, krm (d + 1), (0, 0), kQ X G (some (.int res)) (kgl G n S)) cX6_isLeast (kgl G n S) [none, none, none, none] [.int s0] 44 := by
  unfold FX6_isLeast_J44 at h
  obtain ⟨hz, h⟩ := kgd_ex h
  cases h
  exact kV_zret dX6_isLeast_44 (of_decide_eq_true hz)
theorem TX6_isLeast_J43 {G : kG} {n : Nat} {d : Nat} {X : kX} (hG : kg_N G = 55 + 14 * n) {S : kS} {res : Int32} (h : FX6_isLeast_J43 S = some res) : kV (X, RX6, 4, (some .boolean), G, krm (d + 1), (0, 0), kQ X G (some (.int res)) (kgl G n S)) cX6_isLeast (kgl G n S) [none, none, none, none] [] 43 := by
  unfold FX6_isLeast_J43 at h
  refine kV_iconst 44 dX6_isLeast_43 ic_0 rfl ?_
  refine kV_drop [false, false, false, false] rfl ?_
  exact TX6_isLeast_J44 hG h
theorem okX6_isLeast {l : Launch} {G : kG} {n : Nat} (hG : kg_N G = 55 + 14 * n) (d : Nat) {S : kS} {a1 : Int32} {a2 : Int32} {a3 : Int32} {res : Int32} (h : FX6_isLeast S a1 a2 a3 = some res) : kEv l G (d + 1) mX6_isLeast [.ref (kg_ad G (kbo 5)), .int a1, .int a2, .int a3] (kgl G n S) (some (.int res)) (kgl G n S) := by
  refine kEv_of RX6 [some (.ref (kg_ad G (kbo 5))), some (.int a1), some (.int a2), some (.int a3)] rfl (by decide +kernel) rfl rfl rfl rfl (fun X hX => ?_)
  subst hX
  unfold FX6_isLeast at h
  refine kV_aloadn 1 dX6_isLeast_0 rfl rfl ?_
  refine kV_iloadn 2 dX6_isLeast_1 rfl rfl ?_
  refine kV_iloadn 3 dX6_isLeast_2 rfl rfl ?_
  refine kV_iloadn 4 dX6_isLeast_3 rfl rfl ?_
  obtain ⟨x1, hx, h⟩ := kbi_ex h
  refine kC_V 7 [] [.int x1] dX6_isLeast_4 (okX6_fits hG d  hx) kmvX6_fits (wi_r23 _ (List.mem_of_getElem? (i := 4) rfl)) (kOk_of hG rfl) rfl rfl rfl rfl rfl rfl ?_
  clear hx
  rcases kif_ex h with ⟨hc, h⟩ | ⟨hc, h⟩
  · refine kV_if_eq_t 43 dX6_isLeast_7 (by decide) hc ?_
    clear hc
    refine kV_drop [false, false, false, false] rfl ?_
    exact TX6_isLeast_J43 hG h
  · refine kV_if_eq_f 43 10 dX6_isLeast_7 (by decide) hc rfl ?_
    clear hc
    refine kV_aloadn 11 dX6_isLeast_10 rfl rfl ?_
    refine rg6_56 14 dX6_isLeast_11 (kOk_of hG rfl) rfl rfl ?_
    refine kV_iloadn 15 dX6_isLeast_14 rfl rfl ?_
    obtain ⟨hi, h⟩ := kgd_ex h
    obtain ⟨x2, hx, h⟩ := kb_ex h
    refine rl6_18 16 dX6_isLeast_15 (kOk_of hG rfl) rfl hi hx rfl ?_
    clear hi hx
    refine kV_aloadn 17 dX6_isLeast_16 rfl rfl ?_
    refine rg6_87 20 dX6_isLeast_17 (kOk_of hG rfl) rfl rfl ?_
    refine kV_iloadn 21 dX6_isLeast_20 rfl rfl ?_
    refine kV_aloadn 22 dX6_isLeast_21 rfl rfl ?_
    refine rg6_62 25 dX6_isLeast_22 (kOk_of hG rfl) rfl rfl ?_
    refine kV_iloadn 26 dX6_isLeast_25 rfl rfl ?_
    obtain ⟨hi, h⟩ := kgd_ex h
    obtain ⟨x3, hx, h⟩ := kb_ex h
    refine rl6_20 27 dX6_isLeast_26 (kOk_of hG rfl) rfl hi hx rfl ?_
    clear hi hx
    refine kV_iadd 28 dX6_isLeast_27 rfl ?_
    obtain ⟨hi, h⟩ := kgd_ex h
    obtain ⟨x4, hx, h⟩ := kb_ex h
    refine rl6_34 29 dX6_isLeast_28 (kOk_of hG rfl) rfl hi hx rfl ?_
    clear hi hx
    refine kV_iadd 30 dX6_isLeast_29 rfl ?_
    refine kV_aloadn 31 dX6_isLeast_30 rfl rfl ?_
    refine rg6_87 34 dX6_isLeast_31 (kOk_of hG rfl) rfl rfl ?_
    refine kV_iloadn 35 dX6_isLeast_34 rfl rfl ?_
    obtain ⟨hi, h⟩ := kgd_ex h
    obtain ⟨x5, hx, h⟩ := kb_ex h
    refine rl6_34 36 dX6_isLeast_35 (kOk_of hG rfl) rfl hi hx rfl ?_
    clear hi hx
    rcases kif_ex h with ⟨hc, h⟩ | ⟨hc, h⟩
    · refine kV_icmp_ne_f 43 39 dX6_isLeast_36 (by decide) hc rfl ?_
      clear hc
      refine kV_iconst 40 dX6_isLeast_39 ic_1 rfl ?_
      refine kV_goto 44 dX6_isLeast_40 (by decide) ?_
      refine kV_drop [false, false, false, false] rfl ?_
      exact TX6_isLeast_J44 hG h
    · refine kV_icmp_ne_t 43 dX6_isLeast_36 (by decide) hc ?_
      clear hc
      refine kV_drop [false, false, false, false] rfl ?_
      exact TX6_isLeast_J43 hG h
abbrev mX6_mayPass : kM := (yX6_mayPass, cX6_mayPass, 2, (some .boolean))
theorem kmvX6_mayPass : kMv mX6_mayPass 1 6 := ⟨⟨(wi_r23 _ (List.mem_of_getElem? (i := 11) rfl)), (wi_r1 _ (List.mem_of_getElem? (i := 5) rfl)), ⟨by decide +kernel, by decide +kernel, by decide +kernel⟩, by decide⟩, (wi_r23 _ (List.mem_of_getElem? (i := 9) rfl)), (wi_r23 _ (List.mem_of_getElem? (i := 10) rfl)), rfl⟩
def FX6_mayPass_J25 (S : kS) (s0 : Int32) : Option (Int32) :=
  kgd (kz s0) <| some s0
def FX6_mayPass (S : kS) (a1 : Int32) : Option (Int32) :=
  kgd (kin (a1 + (1 : Int32)) 9) <| kb (kA S 5 34 (a1 + (1 : Int32))) fun x1 => kgd (kin a1 9) <| kb (kA S 5 34 a1) fun x2 => if (x1 + (6 : Int32)) = x2 then (FX6_mayPass_J25 S (1 : Int32)) else (FX6_mayPass_J25 S (0 : Int32))
theorem TX6_mayPass_J25 {G : kG} {n : Nat} {d : Nat} {X : kX} (hG : kg_N G = 55 + 14 * n) {S : kS} {s0 : Int32} {res : Int32} (h : FX6_mayPass_J25 S s0 = some res) : kV (X, RX6, 2, (some .boolean), G, krm (d + 0), (0, 0), kQ X G (some (.int res)) (kgl G n S)) cX6_mayPass (kgl G n S) [none, none] [.int s0] 25 := by
  unfold FX6_mayPass_J25 at h
  obtain ⟨hz, h⟩ := kgd_ex h
  cases h
  exact kV_zret dX6_mayPass_25 (of_decide_eq_true hz)
theorem okX6_mayPass {l : Launch} {G : kG} {n : Nat} (hG : kg_N G = 55 + 14 * n) (d : Nat) {S : kS} {a1 : Int32} {res : Int32} (h : FX6_mayPass S a1 = some res) : kEv l G (d + 0) mX6_mayPass [.ref (kg_ad G (kbo 5)), .int a1] (kgl G n S) (some (.int res)) (kgl G n S) := by
  refine kEv_of RX6 [some (.ref (kg_ad G (kbo 5))), some (.int a1)] rfl (by decide +kernel) rfl rfl rfl rfl (fun X hX => ?_)
  subst hX
  unfold FX6_mayPass at h
  refine kV_aloadn 1 dX6_mayPass_0 rfl rfl ?_
  refine rg6_87 4 dX6_mayPass_1 (kOk_of hG rfl) rfl rfl ?_
  refine kV_iloadn 5 dX6_mayPass_4 rfl rfl ?_
  refine kV_iconst 6 dX6_mayPass_5 ic_1 rfl ?_
  refine kV_iadd 7 dX6_mayPass_6 rfl ?_
  obtain ⟨hi, h⟩ := kgd_ex h
  obtain ⟨x1, hx, h⟩ := kb_ex h
  refine rl6_34 8 dX6_mayPass_7 (kOk_of hG rfl) rfl hi hx rfl ?_
  clear hi hx
  refine kV_bipush 10 dX6_mayPass_8 bp_6 rfl ?_
  refine kV_iadd 11 dX6_mayPass_10 rfl ?_
  refine kV_aloadn 12 dX6_mayPass_11 rfl rfl ?_
  refine rg6_87 15 dX6_mayPass_12 (kOk_of hG rfl) rfl rfl ?_
  refine kV_iloadn 16 dX6_mayPass_15 rfl rfl ?_
  obtain ⟨hi, h⟩ := kgd_ex h
  obtain ⟨x2, hx, h⟩ := kb_ex h
  refine rl6_34 17 dX6_mayPass_16 (kOk_of hG rfl) rfl hi hx rfl ?_
  clear hi hx
  rcases kif_ex h with ⟨hc, h⟩ | ⟨hc, h⟩
  · refine kV_icmp_ne_f 24 20 dX6_mayPass_17 (by decide) hc rfl ?_
    clear hc
    refine kV_iconst 21 dX6_mayPass_20 ic_1 rfl ?_
    refine kV_goto 25 dX6_mayPass_21 (by decide) ?_
    refine kV_drop [false, false] rfl ?_
    exact TX6_mayPass_J25 hG h
  · refine kV_icmp_ne_t 24 dX6_mayPass_17 (by decide) hc ?_
    clear hc
    refine kV_iconst 25 dX6_mayPass_24 ic_0 rfl ?_
    refine kV_drop [false, false] rfl ?_
    exact TX6_mayPass_J25 hG h
abbrev mX6_work : kM := (yX6_work, cX6_work, 5, none)
theorem kmvX6_work : kMv mX6_work 1 6 := ⟨⟨(wi_r23 _ (List.mem_of_getElem? (i := 2) rfl)), (wi_r1 _ (List.mem_of_getElem? (i := 5) rfl)), ⟨by decide +kernel, by decide +kernel, by decide +kernel⟩, by decide⟩, (wi_r23 _ (List.mem_of_getElem? (i := 0) rfl)), (wi_r23 _ (List.mem_of_getElem? (i := 1) rfl)), rfl⟩
def FX6_work_J355 (c47 : kS × Int32 × Int32 → Option (kS)) (c235 : kS × Int32 × Int32 × Int32 → Option (kS)) (S : kS) (v1 : Int32) (v2 : Int32) (v3 : Int32) : Option (kS) :=
  c235 (S, v1, v2, (v3 + (1 : Int32)))
def FX6_work_J347 (c47 : kS × Int32 × Int32 → Option (kS)) (c235 : kS × Int32 × Int32 × Int32 → Option (kS)) (S : kS) (v1 : Int32) (v2 : Int32) (v3 : Int32) (s0 : Int32) (s1 : Int32) : Option (kS) :=
  kgd (kin s1 9) <| kb (kpA S 5 36 s1 s0) fun S1 => kgd (kin v2 9) <| kb (kpA S1 5 37 v2 ((1 : Int32) &&& 1)) fun S2 => FX6_work_J355 c47 c235 S2 v1 v2 v3
def FX6_work_J309 (c47 : kS × Int32 × Int32 → Option (kS)) (c235 : kS × Int32 × Int32 × Int32 → Option (kS)) (S : kS) (v1 : Int32) (v2 : Int32) (v3 : Int32) (v4 : Int32) (s0 : Int32) (s1 : Int32) : Option (kS) :=
  kgd (kin s1 9) <| kb (kpA S 5 35 s1 s0) fun S1 => kgd (kin v4 9) <| kb (kA S1 5 36 v4) fun x1 => kgd (kin v2 9) <| kb (kA S1 5 36 v2) fun x2 => if x1 ≤ x2 then (kgd (kin v2 9) <| kb (kA S1 5 36 v2) fun x3 => FX6_work_J347 c47 c235 S1 v1 v2 v3 x3 v2) else (kgd (kin v4 9) <| kb (kA S1 5 36 v4) fun x4 => FX6_work_J347 c47 c235 S1 v1 v2 v3 x4 v2)
def FX6_work_B235 (c47 : kS × Int32 × Int32 → Option (kS)) (c235 : kS × Int32 × Int32 × Int32 → Option (kS)) (S : kS) (v1 : Int32) (v2 : Int32) (v3 : Int32) : Option (kS) :=
  kb (kI S 5 16) fun x1 => if x1 ≤ v3 then (c47 (S, v1, (v2 + (-1 : Int32)))) else ((FX6_isLeast S v3 v2 v1).bind fun x2 => if x2 = 0 then (FX6_work_J355 c47 c235 S v1 v2 v3) else (kgd (kin v3 20) <| kb (kA S 5 20 v3) fun x3 => kgd (kin v2 9) <| kb (kA S 5 35 v2) fun x4 => kgd (kin (v2 + x3) 9) <| kb (kA S 5 35 (v2 + x3)) fun x5 => kgd (kin v2 9) <| kb (kpA S 5 35 v2 (x4 + x5)) fun S1 => kgd (kin v2 9) <| kb (kA S1 5 35 v2) fun x6 => if x6 ≤ (1000000 : Int32) then (kgd (kin v2 9) <| kb (kA S1 5 35 v2) fun x7 => FX6_work_J309 c47 c235 S1 v1 v2 v3 (v2 + x3) x7 v2) else (FX6_work_J309 c47 c235 S1 v1 v2 v3 (v2 + x3) (1000000 : Int32) v2)))
def FX6_work_L235 (c47 : kS × Int32 × Int32 → Option (kS)) (S : kS) (v1 : Int32) (v2 : Int32) (v3 : Int32) : Option (kS) :=
  kfix (fun rec (q : kS × Int32 × Int32 × Int32) => FX6_work_B235 c47 rec q.1 q.2.1 q.2.2.1 q.2.2.2) kfuel (S, v1, v2, v3)
def FX6_work_J232 (c47 : kS × Int32 × Int32 → Option (kS)) (S : kS) (v1 : Int32) (v2 : Int32) (s0 : Int32) (s1 : Int32) : Option (kS) :=
  kgd (kin s1 9) <| kb (kpA S 5 37 s1 (s0 &&& 1)) fun S1 => FX6_work_L235 c47 S1 v1 v2 (0 : Int32)
def FX6_work_J231 (c47 : kS × Int32 × Int32 → Option (kS)) (S : kS) (v1 : Int32) (v2 : Int32) (s0 : Int32) : Option (kS) :=
  FX6_work_J232 c47 S v1 v2 (0 : Int32) s0
def FX6_work_J202 (c47 : kS × Int32 × Int32 → Option (kS)) (S : kS) (v1 : Int32) (v2 : Int32) (s0 : Int32) (s1 : Int32) : Option (kS) :=
  kgd (kin s1 9) <| kb (kpA S 5 36 s1 s0) fun S1 => (FX6_mayPass S1 v2).bind fun x1 => if x1 = 0 then (FX6_work_J231 c47 S1 v1 v2 v2) else (kgd (kin (v2 + (1 : Int32)) 9) <| kb (kA S1 5 37 (v2 + (1 : Int32))) fun x2 => if x2 = 0 then (FX6_work_J231 c47 S1 v1 v2 v2) else (FX6_work_J232 c47 S1 v1 v2 (1 : Int32) v2))
def FX6_work_J174 (c47 : kS × Int32 × Int32 → Option (kS)) (S : kS) (v1 : Int32) (v2 : Int32) (s0 : Int32) (s1 : Int32) : Option (kS) :=
  kgd (kin s1 9) <| kb (kpA S 5 35 s1 s0) fun S1 => (FX6_mayPass S1 v2).bind fun x1 => if x1 = 0 then (FX6_work_J202 c47 S1 v1 v2 (0 : Int32) v2) else (kgd (kin (v2 + (1 : Int32)) 9) <| kb (kA S1 5 36 (v2 + (1 : Int32))) fun x2 => FX6_work_J202 c47 S1 v1 v2 (x2 + (1 : Int32)) v2)
def FX6_work_J143 (c47 : kS × Int32 × Int32 → Option (kS)) (c70 : kS × Int32 × Int32 × Int32 → Option (kS)) (S : kS) (v1 : Int32) (v2 : Int32) (v3 : Int32) : Option (kS) :=
  c70 (S, v1, v2, (v3 + (1 : Int32)))
def FX6_work_B70 (c47 : kS × Int32 × Int32 → Option (kS)) (c70 : kS × Int32 × Int32 × Int32 → Option (kS)) (S : kS) (v1 : Int32) (v2 : Int32) (v3 : Int32) : Option (kS) :=
  kb (kI S 5 16) fun x1 => if x1 ≤ v3 then ((FX6_mayPass S v2).bind fun x2 => if x2 = 0 then (FX6_work_J174 c47 S v1 v2 (0 : Int32) v2) else (kgd (kin (v2 + (1 : Int32)) 9) <| kb (kA S 5 35 (v2 + (1 : Int32))) fun x3 => FX6_work_J174 c47 S v1 v2 x3 v2)) else ((FX6_fits S v3 v2 v1).bind fun x4 => if x4 = 0 then (FX6_work_J143 c47 c70 S v1 v2 v3) else (kgd (kin v3 20) <| kb (kA S 5 18 v3) fun x5 => kgd (kin v3 20) <| kb (kA S 5 20 v3) fun x6 => kgd (kin (v2 + x6) 9) <| kb (kA S 5 34 (v2 + x6)) fun x7 => kgd (kin v2 9) <| kb (kA S 5 34 v2) fun x8 => if x8 ≤ (x5 + x7) then (FX6_work_J143 c47 c70 S v1 v2 v3) else (kgd (kin v3 20) <| kb (kA S 5 18 v3) fun x9 => kgd (kin v3 20) <| kb (kA S 5 20 v3) fun x10 => kgd (kin (v2 + x10) 9) <| kb (kA S 5 34 (v2 + x10)) fun x11 => kgd (kin v2 9) <| kb (kpA S 5 34 v2 (x9 + x11)) fun S1 => FX6_work_J143 c47 c70 S1 v1 v2 v3)))
def FX6_work_L70 (c47 : kS × Int32 × Int32 → Option (kS)) (S : kS) (v1 : Int32) (v2 : Int32) (v3 : Int32) : Option (kS) :=
  kfix (fun rec (q : kS × Int32 × Int32 × Int32) => FX6_work_B70 c47 rec q.1 q.2.1 q.2.2.1 q.2.2.2) kfuel (S, v1, v2, v3)
def FX6_work_B47 (c47 : kS × Int32 × Int32 → Option (kS)) (S : kS) (v1 : Int32) (v2 : Int32) : Option (kS) :=
  if v2 < 0 then (some S) else (kgd (kin (v2 + (1 : Int32)) 9) <| kb (kA S 5 34 (v2 + (1 : Int32))) fun x1 => kgd (kin v2 9) <| kb (kpA S 5 34 v2 (x1 + (6 : Int32))) fun S1 => FX6_work_L70 c47 S1 v1 v2 (0 : Int32))
def FX6_work_L47 (S : kS) (v1 : Int32) (v2 : Int32) : Option (kS) :=
  kfix (fun rec (q : kS × Int32 × Int32) => FX6_work_B47 rec q.1 q.2.1 q.2.2) kfuel (S, v1, v2)
def FX6_work (S : kS) (a1 : Int32) : Option (kS) :=
  kb (kI S 5 33) fun x1 => kgd (kin x1 9) <| kb (kpA S 5 34 x1 (0 : Int32)) fun S1 => kb (kI S1 5 33) fun x2 => kgd (kin x2 9) <| kb (kpA S1 5 35 x2 (1 : Int32)) fun S2 => kb (kI S2 5 33) fun x3 => kgd (kin x3 9) <| kb (kpA S2 5 36 x3 (0 : Int32)) fun S3 => kb (kI S3 5 33) fun x4 => kgd (kin x4 9) <| kb (kpA S3 5 37 x4 ((0 : Int32) &&& 1)) fun S4 => kb (kI S4 5 33) fun x5 => FX6_work_L47 S4 a1 (x5 - (1 : Int32))
theorem TX6_work_J355 {G : kG} {n : Nat} {d : Nat} {X : kX} (hG : kg_N G = 55 + 14 * n) {c47 : kS × Int32 × Int32 → Option (kS)} {c235 : kS × Int32 × Int32 × Int32 → Option (kS)} {S : kS} (hc47 : ∀ (q : kS × Int32 × Int32) (res : kS), c47 q = some res → kV (X, RX6, 5, none, G, krm (d + 2), (0, 0), kQ X G none (kgl G n res)) cX6_work (kgl G n q.1) [some (.ref (kg_ad G (kbo 5))), some (.int (q.2.1)), some (.int (q.2.2)), none, none] [] 47) (hc235 : ∀ (q : kS × Int32 × Int32 × Int32) (res : kS), c235 q = some res → kV (X, RX6, 5, none, G, krm (d + 2), (0, 0), kQ X G none (kgl G n res)) cX6_work (kgl G n q.1) [some (.ref (kg_ad G (kbo 5))), some (.int (q.2.1)), some (.int (q.2.2.1)), some (.int (q.2.2.2)), none] [] 235) {v1 : Int32} {v2 : Int32} {v3 : Int32} {res : kS} (h : FX6_work_J355 c47 c235 S v1 v2 v3 = some res) : kV (X, RX6, 5, none, G, krm (d + 2), (0, 0), kQ X G none (kgl G n res)) cX6_work (kgl G n S) [some (.ref (kg_ad G (kbo 5))), some (.int v1), some (.int v2), some (.int v3), none] [] 355 := by
  unfold FX6_work_J355 at h
  refine kV_iinc 358 [some (.ref (kg_ad G (kbo 5))), some (.int v1), some (.int v2), some (.int (v3 + (1 : Int32))), none] dX6_work_355 rfl (kinc_1 _) rfl rfl rfl ?_
  refine kV_goto 235 dX6_work_358 (by decide) ?_
  refine kV_drop [true, true, true, true, false] rfl ?_
  exact hc235 _ _ h
theorem TX6_work_J347 {G : kG} {n : Nat} {d : Nat} {X : kX} (hG : kg_N G = 55 + 14 * n) {c47 : kS × Int32 × Int32 → Option (kS)} {c235 : kS × Int32 × Int32 × Int32 → Option (kS)} {S : kS} (hc47 : ∀ (q : kS × Int32 × Int32) (res : kS), c47 q = some res → kV (X, RX6, 5, none, G, krm (d + 2), (0, 0), kQ X G none (kgl G n res)) cX6_work (kgl G n q.1) [some (.ref (kg_ad G (kbo 5))), some (.int (q.2.1)), some (.int (q.2.2)), none, none] [] 47) (hc235 : ∀ (q : kS × Int32 × Int32 × Int32) (res : kS), c235 q = some res → kV (X, RX6, 5, none, G, krm (d + 2), (0, 0), kQ X G none (kgl G n res)) cX6_work (kgl G n q.1) [some (.ref (kg_ad G (kbo 5))), some (.int (q.2.1)), some (.int (q.2.2.1)), some (.int (q.2.2.2)), none] [] 235) {v1 : Int32} {v2 : Int32} {v3 : Int32} {s0 : Int32} {s1 : Int32} {res : kS} (h : FX6_work_J347 c47 c235 S v1 v2 v3 s0 s1 = some res) : kV (X, RX6, 5, none, G, krm (d + 2), (0, 0), kQ X G none (kgl G n res)) cX6_work (kgl G n S) [some (.ref (kg_ad G (kbo 5))), some (.int v1), some (.int v2), some (.int v3), none] [.int s0, .int s1, .ref (kg_ad G (kbo 5 + 27))] 347 := by
  unfold FX6_work_J347 at h
  obtain ⟨hi, h⟩ := kgd_ex h
  obtain ⟨S1, hx, h⟩ := kb_ex h
  refine rs6_36 348 dX6_work_347 (kOk_of hG rfl) rfl hi hx rfl ?_
  clear hi hx
  refine kV_aloadn 349 dX6_work_348 rfl rfl ?_
  refine rg6_96 352 dX6_work_349 (kOk_of hG rfl) rfl rfl ?_
  refine kV_iloadn 353 dX6_work_352 rfl rfl ?_
  refine kV_iconst 354 dX6_work_353 ic_1 rfl ?_
  obtain ⟨hi, h⟩ := kgd_ex h
  obtain ⟨S2, hx, h⟩ := kb_ex h
  refine rs6_37 355 dX6_work_354 (kOk_of hG rfl) rfl hi hx rfl ?_
  clear hi hx
  refine kV_drop [true, true, true, true, false] rfl ?_
  exact TX6_work_J355 hG hc47 hc235 h
theorem TX6_work_J309 {G : kG} {n : Nat} {d : Nat} {X : kX} (hG : kg_N G = 55 + 14 * n) {c47 : kS × Int32 × Int32 → Option (kS)} {c235 : kS × Int32 × Int32 × Int32 → Option (kS)} {S : kS} (hc47 : ∀ (q : kS × Int32 × Int32) (res : kS), c47 q = some res → kV (X, RX6, 5, none, G, krm (d + 2), (0, 0), kQ X G none (kgl G n res)) cX6_work (kgl G n q.1) [some (.ref (kg_ad G (kbo 5))), some (.int (q.2.1)), some (.int (q.2.2)), none, none] [] 47) (hc235 : ∀ (q : kS × Int32 × Int32 × Int32) (res : kS), c235 q = some res → kV (X, RX6, 5, none, G, krm (d + 2), (0, 0), kQ X G none (kgl G n res)) cX6_work (kgl G n q.1) [some (.ref (kg_ad G (kbo 5))), some (.int (q.2.1)), some (.int (q.2.2.1)), some (.int (q.2.2.2)), none] [] 235) {v1 : Int32} {v2 : Int32} {v3 : Int32} {v4 : Int32} {s0 : Int32} {s1 : Int32} {res : kS} (h : FX6_work_J309 c47 c235 S v1 v2 v3 v4 s0 s1 = some res) : kV (X, RX6, 5, none, G, krm (d + 2), (0, 0), kQ X G none (kgl G n res)) cX6_work (kgl G n S) [some (.ref (kg_ad G (kbo 5))), some (.int v1), some (.int v2), some (.int v3), some (.int v4)] [.int s0, .int s1, .ref (kg_ad G (kbo 5 + 26))] 309 := by
  unfold FX6_work_J309 at h
  obtain ⟨hi, h⟩ := kgd_ex h
  obtain ⟨S1, hx, h⟩ := kb_ex h
  refine rs6_35 310 dX6_work_309 (kOk_of hG rfl) rfl hi hx rfl ?_
  clear hi hx
  refine kV_aloadn 311 dX6_work_310 rfl rfl ?_
  refine rg6_93 314 dX6_work_311 (kOk_of hG rfl) rfl rfl ?_
  refine kV_iloadn 315 dX6_work_314 rfl rfl ?_
  refine kV_aloadn 316 dX6_work_315 rfl rfl ?_
  refine rg6_93 319 dX6_work_316 (kOk_of hG rfl) rfl rfl ?_
  refine kV_iload 321 dX6_work_319 rfl rfl ?_
  obtain ⟨hi, h⟩ := kgd_ex h
  obtain ⟨x1, hx, h⟩ := kb_ex h
  refine rl6_36 322 dX6_work_321 (kOk_of hG rfl) rfl hi hx rfl ?_
  clear hi hx
  refine kV_aloadn 323 dX6_work_322 rfl rfl ?_
  refine rg6_93 326 dX6_work_323 (kOk_of hG rfl) rfl rfl ?_
  refine kV_iloadn 327 dX6_work_326 rfl rfl ?_
  obtain ⟨hi, h⟩ := kgd_ex h
  obtain ⟨x2, hx, h⟩ := kb_ex h
  refine rl6_36 328 dX6_work_327 (kOk_of hG rfl) rfl hi hx rfl ?_
  clear hi hx
  rcases kif_ex h with ⟨hc, h⟩ | ⟨hc, h⟩
  · refine kV_icmp_le_t 341 dX6_work_328 (by decide) hc ?_
    clear hc
    refine kV_aloadn 342 dX6_work_341 rfl rfl ?_
    refine rg6_93 345 dX6_work_342 (kOk_of hG rfl) rfl rfl ?_
    refine kV_iloadn 346 dX6_work_345 rfl rfl ?_
    obtain ⟨hi, h⟩ := kgd_ex h
    obtain ⟨x3, hx, h⟩ := kb_ex h
    refine rl6_36 347 dX6_work_346 (kOk_of hG rfl) rfl hi hx rfl ?_
    clear hi hx
    refine kV_drop [true, true, true, true, false] rfl ?_
    exact TX6_work_J347 hG hc47 hc235 h
  · refine kV_icmp_le_f 341 331 dX6_work_328 (by decide) hc rfl ?_
    clear hc
    refine kV_aloadn 332 dX6_work_331 rfl rfl ?_
    refine rg6_93 335 dX6_work_332 (kOk_of hG rfl) rfl rfl ?_
    refine kV_iload 337 dX6_work_335 rfl rfl ?_
    obtain ⟨hi, h⟩ := kgd_ex h
    obtain ⟨x4, hx, h⟩ := kb_ex h
    refine rl6_36 338 dX6_work_337 (kOk_of hG rfl) rfl hi hx rfl ?_
    clear hi hx
    refine kV_goto 347 dX6_work_338 (by decide) ?_
    refine kV_drop [true, true, true, true, false] rfl ?_
    exact TX6_work_J347 hG hc47 hc235 h
theorem TX6_work_B235 {G : kG} {n : Nat} {d : Nat} {X : kX} (hG : kg_N G = 55 + 14 * n) {c47 : kS × Int32 × Int32 → Option (kS)} (hc47 : ∀ (q : kS × Int32 × Int32) (res : kS), c47 q = some res → kV (X, RX6, 5, none, G, krm (d + 2), (0, 0), kQ X G none (kgl G n res)) cX6_work (kgl G n q.1) [some (.ref (kg_ad G (kbo 5))), some (.int (q.2.1)), some (.int (q.2.2)), none, none] [] 47) {c235 : kS × Int32 × Int32 × Int32 → Option (kS)} (hc235 : ∀ (q : kS × Int32 × Int32 × Int32) (res : kS), c235 q = some res → kV (X, RX6, 5, none, G, krm (d + 2), (0, 0), kQ X G none (kgl G n res)) cX6_work (kgl G n q.1) [some (.ref (kg_ad G (kbo 5))), some (.int (q.2.1)), some (.int (q.2.2.1)), some (.int (q.2.2.2)), none] [] 235) {S : kS} {v1 : Int32} {v2 : Int32} {v3 : Int32} {res : kS} (h : FX6_work_B235 c47 c235 S v1 v2 v3 = some res) : kV (X, RX6, 5, none, G, krm (d + 2), (0, 0), kQ X G none (kgl G n res)) cX6_work (kgl G n S) [some (.ref (kg_ad G (kbo 5))), some (.int v1), some (.int v2), some (.int v3), none] [] 235 := by
  unfold FX6_work_B235 at h
  refine kV_iloadn 236 dX6_work_235 rfl rfl ?_
  refine kV_aloadn 237 dX6_work_236 rfl rfl ?_
  obtain ⟨x1, hx, h⟩ := kb_ex h
  refine rg6_146 240 dX6_work_237 (kOk_of hG rfl) rfl hx rfl ?_
  clear hx
  rcases kif_ex h with ⟨hc, h⟩ | ⟨hc, h⟩
  · refine kV_icmp_ge_t 361 dX6_work_240 (by decide) hc ?_
    clear hc
    refine kV_iinc 364 [some (.ref (kg_ad G (kbo 5))), some (.int v1), some (.int (v2 + (-1 : Int32))), some (.int v3), none] dX6_work_361 rfl (kinc_m1 _) rfl rfl rfl ?_
    refine kV_goto 47 dX6_work_364 (by decide) ?_
    refine kV_drop [true, true, true, false, false] rfl ?_
    exact hc47 _ _ h
  · refine kV_icmp_ge_f 361 243 dX6_work_240 (by decide) hc rfl ?_
    clear hc
    refine kV_aloadn 244 dX6_work_243 rfl rfl ?_
    refine kV_iloadn 245 dX6_work_244 rfl rfl ?_
    refine kV_iloadn 246 dX6_work_245 rfl rfl ?_
    refine kV_iloadn 247 dX6_work_246 rfl rfl ?_
    obtain ⟨x2, hx, h⟩ := kbi_ex h
    refine kC_V 250 [] [.int x2] dX6_work_247 (okX6_isLeast hG d  hx) kmvX6_isLeast (wi_r23 _ (List.mem_of_getElem? (i := 12) rfl)) (kOk_of hG rfl) rfl rfl rfl rfl rfl rfl ?_
    clear hx
    rcases kif_ex h with ⟨hc, h⟩ | ⟨hc, h⟩
    · refine kV_if_ne_f 256 253 dX6_work_250 (by decide) hc rfl ?_
      clear hc
      refine kV_goto 355 dX6_work_253 (by decide) ?_
      refine kV_drop [true, true, true, true, false] rfl ?_
      exact TX6_work_J355 hG hc47 hc235 h
    · refine kV_if_ne_t 256 dX6_work_250 (by decide) hc ?_
      clear hc
      refine kV_iloadn 257 dX6_work_256 rfl rfl ?_
      refine kV_aloadn 258 dX6_work_257 rfl rfl ?_
      refine rg6_62 261 dX6_work_258 (kOk_of hG rfl) rfl rfl ?_
      refine kV_iloadn 262 dX6_work_261 rfl rfl ?_
      obtain ⟨hi, h⟩ := kgd_ex h
      obtain ⟨x3, hx, h⟩ := kb_ex h
      refine rl6_20 263 dX6_work_262 (kOk_of hG rfl) rfl hi hx rfl ?_
      clear hi hx
      refine kV_iadd 264 dX6_work_263 rfl ?_
      refine kV_istore 266 [some (.ref (kg_ad G (kbo 5))), some (.int v1), some (.int v2), some (.int v3), some (.int (v2 + x3))] dX6_work_264 rfl rfl rfl ?_
      refine kV_aloadn 267 dX6_work_266 rfl rfl ?_
      refine rg6_90 270 dX6_work_267 (kOk_of hG rfl) rfl rfl ?_
      refine kV_iloadn 271 dX6_work_270 rfl rfl ?_
      refine kV_dup2 272 dX6_work_271 rfl rfl rfl ?_
      obtain ⟨hi, h⟩ := kgd_ex h
      obtain ⟨x4, hx, h⟩ := kb_ex h
      refine rl6_35 273 dX6_work_272 (kOk_of hG rfl) rfl hi hx rfl ?_
      clear hi hx
      refine kV_aloadn 274 dX6_work_273 rfl rfl ?_
      refine rg6_90 277 dX6_work_274 (kOk_of hG rfl) rfl rfl ?_
      refine kV_iload 279 dX6_work_277 rfl rfl ?_
      obtain ⟨hi, h⟩ := kgd_ex h
      obtain ⟨x5, hx, h⟩ := kb_ex h
      refine rl6_35 280 dX6_work_279 (kOk_of hG rfl) rfl hi hx rfl ?_
      clear hi hx
      refine kV_iadd 281 dX6_work_280 rfl ?_
      obtain ⟨hi, h⟩ := kgd_ex h
      obtain ⟨S1, hx, h⟩ := kb_ex h
      refine rs6_35 282 dX6_work_281 (kOk_of hG rfl) rfl hi hx rfl ?_
      clear hi hx
      refine kV_aloadn 283 dX6_work_282 rfl rfl ?_
      refine rg6_90 286 dX6_work_283 (kOk_of hG rfl) rfl rfl ?_
      refine kV_iloadn 287 dX6_work_286 rfl rfl ?_
      refine kV_aloadn 288 dX6_work_287 rfl rfl ?_
      refine rg6_90 291 dX6_work_288 (kOk_of hG rfl) rfl rfl ?_
      refine kV_iloadn 292 dX6_work_291 rfl rfl ?_
      obtain ⟨hi, h⟩ := kgd_ex h
      obtain ⟨x6, hx, h⟩ := kb_ex h
      refine rl6_35 293 dX6_work_292 (kOk_of hG rfl) rfl hi hx rfl ?_
      clear hi hx
      refine kV_ldc 295 dX6_work_293 (wi_r23 _ (List.mem_of_getElem? (i := 3) rfl)) rfl ?_
      rcases kif_ex h with ⟨hc, h⟩ | ⟨hc, h⟩
      · refine kV_icmp_le_t 303 dX6_work_295 (by decide) hc ?_
        clear hc
        refine kV_aloadn 304 dX6_work_303 rfl rfl ?_
        refine rg6_90 307 dX6_work_304 (kOk_of hG rfl) rfl rfl ?_
        refine kV_iloadn 308 dX6_work_307 rfl rfl ?_
        obtain ⟨hi, h⟩ := kgd_ex h
        obtain ⟨x7, hx, h⟩ := kb_ex h
        refine rl6_35 309 dX6_work_308 (kOk_of hG rfl) rfl hi hx rfl ?_
        clear hi hx
        refine kV_drop [true, true, true, true, true] rfl ?_
        exact TX6_work_J309 hG hc47 hc235 h
      · refine kV_icmp_le_f 303 298 dX6_work_295 (by decide) hc rfl ?_
        clear hc
        refine kV_ldc 300 dX6_work_298 (wi_r23 _ (List.mem_of_getElem? (i := 3) rfl)) rfl ?_
        refine kV_goto 309 dX6_work_300 (by decide) ?_
        refine kV_drop [true, true, true, true, true] rfl ?_
        exact TX6_work_J309 hG hc47 hc235 h
theorem TX6_work_L235 {G : kG} {n : Nat} {d : Nat} {X : kX} (hG : kg_N G = 55 + 14 * n) {c47 : kS × Int32 × Int32 → Option (kS)} {S : kS} (hc47 : ∀ (q : kS × Int32 × Int32) (res : kS), c47 q = some res → kV (X, RX6, 5, none, G, krm (d + 2), (0, 0), kQ X G none (kgl G n res)) cX6_work (kgl G n q.1) [some (.ref (kg_ad G (kbo 5))), some (.int (q.2.1)), some (.int (q.2.2)), none, none] [] 47) {v1 : Int32} {v2 : Int32} {v3 : Int32} {res : kS} (h : FX6_work_L235 c47 S v1 v2 v3 = some res) : kV (X, RX6, 5, none, G, krm (d + 2), (0, 0), kQ X G none (kgl G n res)) cX6_work (kgl G n S) [some (.ref (kg_ad G (kbo 5))), some (.int v1), some (.int v2), some (.int v3), none] [] 235 := by
  unfold FX6_work_L235 at h
  exact kfix_ok (P := fun (q : kS × Int32 × Int32 × Int32) (res : kS) => kV (X, RX6, 5, none, G, krm (d + 2), (0, 0), kQ X G none (kgl G n res)) cX6_work (kgl G n q.1) [some (.ref (kg_ad G (kbo 5))), some (.int (q.2.1)), some (.int (q.2.2.1)), some (.int (q.2.2.2)), none] [] 235) (fun rec hrec q res hq => TX6_work_B235 hG hc47 hrec hq) kfuel _ _ h
theorem TX6_work_J232 {G : kG} {n : Nat} {d : Nat} {X : kX} (hG : kg_N G = 55 + 14 * n) {c47 : kS × Int32 × Int32 → Option (kS)} {S : kS} (hc47 : ∀ (q : kS × Int32 × Int32) (res : kS), c47 q = some res → kV (X, RX6, 5, none, G, krm (d + 2), (0, 0), kQ X G none (kgl G n res)) cX6_work (kgl G n q.1) [some (.ref (kg_ad G (kbo 5))), some (.int (q.2.1)), some (.int (q.2.2)), none, none] [] 47) {v1 : Int32} {v2 : Int32} {s0 : Int32} {s1 : Int32} {res : kS} (h : FX6_work_J232 c47 S v1 v2 s0 s1 = some res) : kV (X, RX6, 5, none, G, krm (d + 2), (0, 0), kQ X G none (kgl G n res)) cX6_work (kgl G n S) [some (.ref (kg_ad G (kbo 5))), some (.int v1), some (.int v2), none, none] [.int s0, .int s1, .ref (kg_ad G (kbo 5 + 28))] 232 := by
  unfold FX6_work_J232 at h
  obtain ⟨hi, h⟩ := kgd_ex h
  obtain ⟨S1, hx, h⟩ := kb_ex h
  refine rs6_37 233 dX6_work_232 (kOk_of hG rfl) rfl hi hx rfl ?_
  clear hi hx
  refine kV_iconst 234 dX6_work_233 ic_0 rfl ?_
  refine kV_istoren 235 [some (.ref (kg_ad G (kbo 5))), some (.int v1), some (.int v2), some (.int (0 : Int32)), none] dX6_work_234 rfl rfl rfl ?_
  refine kV_drop [true, true, true, true, false] rfl ?_
  exact TX6_work_L235 hG hc47 h
theorem TX6_work_J231 {G : kG} {n : Nat} {d : Nat} {X : kX} (hG : kg_N G = 55 + 14 * n) {c47 : kS × Int32 × Int32 → Option (kS)} {S : kS} (hc47 : ∀ (q : kS × Int32 × Int32) (res : kS), c47 q = some res → kV (X, RX6, 5, none, G, krm (d + 2), (0, 0), kQ X G none (kgl G n res)) cX6_work (kgl G n q.1) [some (.ref (kg_ad G (kbo 5))), some (.int (q.2.1)), some (.int (q.2.2)), none, none] [] 47) {v1 : Int32} {v2 : Int32} {s0 : Int32} {res : kS} (h : FX6_work_J231 c47 S v1 v2 s0 = some res) : kV (X, RX6, 5, none, G, krm (d + 2), (0, 0), kQ X G none (kgl G n res)) cX6_work (kgl G n S) [some (.ref (kg_ad G (kbo 5))), some (.int v1), some (.int v2), none, none] [.int s0, .ref (kg_ad G (kbo 5 + 28))] 231 := by
  unfold FX6_work_J231 at h
  refine kV_iconst 232 dX6_work_231 ic_0 rfl ?_
  refine kV_drop [true, true, true, false, false] rfl ?_
  exact TX6_work_J232 hG hc47 h
theorem TX6_work_J202 {G : kG} {n : Nat} {d : Nat} {X : kX} (hG : kg_N G = 55 + 14 * n) {c47 : kS × Int32 × Int32 → Option (kS)} {S : kS} (hc47 : ∀ (q : kS × Int32 × Int32) (res : kS), c47 q = some res → kV (X, RX6, 5, none, G, krm (d + 2), (0, 0), kQ X G none (kgl G n res)) cX6_work (kgl G n q.1) [some (.ref (kg_ad G (kbo 5))), some (.int (q.2.1)), some (.int (q.2.2)), none, none] [] 47) {v1 : Int32} {v2 : Int32} {s0 : Int32} {s1 : Int32} {res : kS} (h : FX6_work_J202 c47 S v1 v2 s0 s1 = some res) : kV (X, RX6, 5, none, G, krm (d + 2), (0, 0), kQ X G none (kgl G n res)) cX6_work (kgl G n S) [some (.ref (kg_ad G (kbo 5))), some (.int v1), some (.int v2), none, none] [.int s0, .int s1, .ref (kg_ad G (kbo 5 + 27))] 202 := by
  unfold FX6_work_J202 at h
  obtain ⟨hi, h⟩ := kgd_ex h
  obtain ⟨S1, hx, h⟩ := kb_ex h
  refine rs6_36 203 dX6_work_202 (kOk_of hG rfl) rfl hi hx rfl ?_
  clear hi hx
  refine kV_aloadn 204 dX6_work_203 rfl rfl ?_
  refine rg6_96 207 dX6_work_204 (kOk_of hG rfl) rfl rfl ?_
  refine kV_iloadn 208 dX6_work_207 rfl rfl ?_
  refine kV_aloadn 209 dX6_work_208 rfl rfl ?_
  refine kV_iloadn 210 dX6_work_209 rfl rfl ?_
  obtain ⟨x1, hx, h⟩ := kbi_ex h
  refine kC_V 213 [.int v2, .ref (kg_ad G (kbo 5 + 28))] [.int x1, .int v2, .ref (kg_ad G (kbo 5 + 28))] dX6_work_210 (okX6_mayPass hG (d + 1)  hx) kmvX6_mayPass (wi_r23 _ (List.mem_of_getElem? (i := 8) rfl)) (kOk_of hG rfl) rfl rfl rfl rfl rfl rfl ?_
  clear hx
  rcases kif_ex h with ⟨hc, h⟩ | ⟨hc, h⟩
  · refine kV_if_eq_t 231 dX6_work_213 (by decide) hc ?_
    clear hc
    refine kV_drop [true, true, true, false, false] rfl ?_
    exact TX6_work_J231 hG hc47 h
  · refine kV_if_eq_f 231 216 dX6_work_213 (by decide) hc rfl ?_
    clear hc
    refine kV_aloadn 217 dX6_work_216 rfl rfl ?_
    refine rg6_96 220 dX6_work_217 (kOk_of hG rfl) rfl rfl ?_
    refine kV_iloadn 221 dX6_work_220 rfl rfl ?_
    refine kV_iconst 222 dX6_work_221 ic_1 rfl ?_
    refine kV_iadd 223 dX6_work_222 rfl ?_
    obtain ⟨hi, h⟩ := kgd_ex h
    obtain ⟨x2, hx, h⟩ := kb_ex h
    refine rl6_37 224 dX6_work_223 (kOk_of hG rfl) rfl hi hx rfl ?_
    clear hi hx
    rcases kif_ex h with ⟨hc, h⟩ | ⟨hc, h⟩
    · refine kV_if_eq_t 231 dX6_work_224 (by decide) hc ?_
      clear hc
      refine kV_drop [true, true, true, false, false] rfl ?_
      exact TX6_work_J231 hG hc47 h
    · refine kV_if_eq_f 231 227 dX6_work_224 (by decide) hc rfl ?_
      clear hc
      refine kV_iconst 228 dX6_work_227 ic_1 rfl ?_
      refine kV_goto 232 dX6_work_228 (by decide) ?_
      refine kV_drop [true, true, true, false, false] rfl ?_
      exact TX6_work_J232 hG hc47 h
theorem TX6_work_J174 {G : kG} {n : Nat} {d : Nat} {X : kX} (hG : kg_N G = 55 + 14 * n) {c47 : kS × Int32 × Int32 → Option (kS)} {S : kS} (hc47 : ∀ (q : kS × Int32 × Int32) (res : kS), c47 q = some res → kV (X, RX6, 5, none, G, krm (d + 2), (0, 0), kQ X G none (kgl G n res)) cX6_work (kgl G n q.1) [some (.ref (kg_ad G (kbo 5))), some (.int (q.2.1)), some (.int (q.2.2)), none, none] [] 47) {v1 : Int32} {v2 : Int32} {s0 : Int32} {s1 : Int32} {res : kS} (h : FX6_work_J174 c47 S v1 v2 s0 s1 = some res) : kV (X, RX6, 5, none, G, krm (d + 2), (0, 0), kQ X G none (kgl G n res)) cX6_work (kgl G n S) [some (.ref (kg_ad G (kbo 5))), some (.int v1), some (.int v2), none, none] [.int s0, .int s1, .ref (kg_ad G (kbo 5 + 26))] 174 := by
  unfold FX6_work_J174 at h
  obtain ⟨hi, h⟩ := kgd_ex h
  obtain ⟨S1, hx, h⟩ := kb_ex h
  refine rs6_35 175 dX6_work_174 (kOk_of hG rfl) rfl hi hx rfl ?_
  clear hi hx
  refine kV_aloadn 176 dX6_work_175 rfl rfl ?_
  refine rg6_93 179 dX6_work_176 (kOk_of hG rfl) rfl rfl ?_
  refine kV_iloadn 180 dX6_work_179 rfl rfl ?_
  refine kV_aloadn 181 dX6_work_180 rfl rfl ?_
  refine kV_iloadn 182 dX6_work_181 rfl rfl ?_
  obtain ⟨x1, hx, h⟩ := kbi_ex h
  refine kC_V 185 [.int v2, .ref (kg_ad G (kbo 5 + 27))] [.int x1, .int v2, .ref (kg_ad G (kbo 5 + 27))] dX6_work_182 (okX6_mayPass hG (d + 1)  hx) kmvX6_mayPass (wi_r23 _ (List.mem_of_getElem? (i := 8) rfl)) (kOk_of hG rfl) rfl rfl rfl rfl rfl rfl ?_
  clear hx
  rcases kif_ex h with ⟨hc, h⟩ | ⟨hc, h⟩
  · refine kV_if_eq_t 201 dX6_work_185 (by decide) hc ?_
    clear hc
    refine kV_iconst 202 dX6_work_201 ic_0 rfl ?_
    refine kV_drop [true, true, true, false, false] rfl ?_
    exact TX6_work_J202 hG hc47 h
  · refine kV_if_eq_f 201 188 dX6_work_185 (by decide) hc rfl ?_
    clear hc
    refine kV_aloadn 189 dX6_work_188 rfl rfl ?_
    refine rg6_93 192 dX6_work_189 (kOk_of hG rfl) rfl rfl ?_
    refine kV_iloadn 193 dX6_work_192 rfl rfl ?_
    refine kV_iconst 194 dX6_work_193 ic_1 rfl ?_
    refine kV_iadd 195 dX6_work_194 rfl ?_
    obtain ⟨hi, h⟩ := kgd_ex h
    obtain ⟨x2, hx, h⟩ := kb_ex h
    refine rl6_36 196 dX6_work_195 (kOk_of hG rfl) rfl hi hx rfl ?_
    clear hi hx
    refine kV_iconst 197 dX6_work_196 ic_1 rfl ?_
    refine kV_iadd 198 dX6_work_197 rfl ?_
    refine kV_goto 202 dX6_work_198 (by decide) ?_
    refine kV_drop [true, true, true, false, false] rfl ?_
    exact TX6_work_J202 hG hc47 h
theorem TX6_work_J143 {G : kG} {n : Nat} {d : Nat} {X : kX} (hG : kg_N G = 55 + 14 * n) {c47 : kS × Int32 × Int32 → Option (kS)} {c70 : kS × Int32 × Int32 × Int32 → Option (kS)} {S : kS} (hc47 : ∀ (q : kS × Int32 × Int32) (res : kS), c47 q = some res → kV (X, RX6, 5, none, G, krm (d + 2), (0, 0), kQ X G none (kgl G n res)) cX6_work (kgl G n q.1) [some (.ref (kg_ad G (kbo 5))), some (.int (q.2.1)), some (.int (q.2.2)), none, none] [] 47) (hc70 : ∀ (q : kS × Int32 × Int32 × Int32) (res : kS), c70 q = some res → kV (X, RX6, 5, none, G, krm (d + 2), (0, 0), kQ X G none (kgl G n res)) cX6_work (kgl G n q.1) [some (.ref (kg_ad G (kbo 5))), some (.int (q.2.1)), some (.int (q.2.2.1)), some (.int (q.2.2.2)), none] [] 70) {v1 : Int32} {v2 : Int32} {v3 : Int32} {res : kS} (h : FX6_work_J143 c47 c70 S v1 v2 v3 = some res) : kV (X, RX6, 5, none, G, krm (d + 2), (0, 0), kQ X G none (kgl G n res)) cX6_work (kgl G n S) [some (.ref (kg_ad G (kbo 5))), some (.int v1), some (.int v2), some (.int v3), none] [] 143 := by
  unfold FX6_work_J143 at h
  refine kV_iinc 146 [some (.ref (kg_ad G (kbo 5))), some (.int v1), some (.int v2), some (.int (v3 + (1 : Int32))), none] dX6_work_143 rfl (kinc_1 _) rfl rfl rfl ?_
  refine kV_goto 70 dX6_work_146 (by decide) ?_
  refine kV_drop [true, true, true, true, false] rfl ?_
  exact hc70 _ _ h
theorem TX6_work_B70 {G : kG} {n : Nat} {d : Nat} {X : kX} (hG : kg_N G = 55 + 14 * n) {c47 : kS × Int32 × Int32 → Option (kS)} (hc47 : ∀ (q : kS × Int32 × Int32) (res : kS), c47 q = some res → kV (X, RX6, 5, none, G, krm (d + 2), (0, 0), kQ X G none (kgl G n res)) cX6_work (kgl G n q.1) [some (.ref (kg_ad G (kbo 5))), some (.int (q.2.1)), some (.int (q.2.2)), none, none] [] 47) {c70 : kS × Int32 × Int32 × Int32 → Option (kS)} (hc70 : ∀ (q : kS × Int32 × Int32 × Int32) (res : kS), c70 q = some res → kV (X, RX6, 5, none, G, krm (d + 2), (0, 0), kQ X G none (kgl G n res)) cX6_work (kgl G n q.1) [some (.ref (kg_ad G (kbo 5))), some (.int (q.2.1)), some (.int (q.2.2.1)), some (.int (q.2.2.2)), none] [] 70) {S : kS} {v1 : Int32} {v2 : Int32} {v3 : Int32} {res : kS} (h : FX6_work_B70 c47 c70 S v1 v2 v3 = some res) : kV (X, RX6, 5, none, G, krm (d + 2), (0, 0), kQ X G none (kgl G n res)) cX6_work (kgl G n S) [some (.ref (kg_ad G (kbo 5))), some (.int v1), some (.int v2), some (.int v3), none] [] 70 := by
  unfold FX6_work_B70 at h
  refine kV_iloadn 71 dX6_work_70 rfl rfl ?_
  refine kV_aloadn 72 dX6_work_71 rfl rfl ?_
  obtain ⟨x1, hx, h⟩ := kb_ex h
  refine rg6_146 75 dX6_work_72 (kOk_of hG rfl) rfl hx rfl ?_
  clear hx
  rcases kif_ex h with ⟨hc, h⟩ | ⟨hc, h⟩
  · refine kV_icmp_ge_t 149 dX6_work_75 (by decide) hc ?_
    clear hc
    refine kV_aloadn 150 dX6_work_149 rfl rfl ?_
    refine rg6_90 153 dX6_work_150 (kOk_of hG rfl) rfl rfl ?_
    refine kV_iloadn 154 dX6_work_153 rfl rfl ?_
    refine kV_aloadn 155 dX6_work_154 rfl rfl ?_
    refine kV_iloadn 156 dX6_work_155 rfl rfl ?_
    obtain ⟨x2, hx, h⟩ := kbi_ex h
    refine kC_V 159 [.int v2, .ref (kg_ad G (kbo 5 + 26))] [.int x2, .int v2, .ref (kg_ad G (kbo 5 + 26))] dX6_work_156 (okX6_mayPass hG (d + 1)  hx) kmvX6_mayPass (wi_r23 _ (List.mem_of_getElem? (i := 8) rfl)) (kOk_of hG rfl) rfl rfl rfl rfl rfl rfl ?_
    clear hx
    rcases kif_ex h with ⟨hc, h⟩ | ⟨hc, h⟩
    · refine kV_if_eq_t 173 dX6_work_159 (by decide) hc ?_
      clear hc
      refine kV_iconst 174 dX6_work_173 ic_0 rfl ?_
      refine kV_drop [true, true, true, false, false] rfl ?_
      exact TX6_work_J174 hG hc47 h
    · refine kV_if_eq_f 173 162 dX6_work_159 (by decide) hc rfl ?_
      clear hc
      refine kV_aloadn 163 dX6_work_162 rfl rfl ?_
      refine rg6_90 166 dX6_work_163 (kOk_of hG rfl) rfl rfl ?_
      refine kV_iloadn 167 dX6_work_166 rfl rfl ?_
      refine kV_iconst 168 dX6_work_167 ic_1 rfl ?_
      refine kV_iadd 169 dX6_work_168 rfl ?_
      obtain ⟨hi, h⟩ := kgd_ex h
      obtain ⟨x3, hx, h⟩ := kb_ex h
      refine rl6_35 170 dX6_work_169 (kOk_of hG rfl) rfl hi hx rfl ?_
      clear hi hx
      refine kV_goto 174 dX6_work_170 (by decide) ?_
      refine kV_drop [true, true, true, false, false] rfl ?_
      exact TX6_work_J174 hG hc47 h
  · refine kV_icmp_ge_f 149 78 dX6_work_75 (by decide) hc rfl ?_
    clear hc
    refine kV_aloadn 79 dX6_work_78 rfl rfl ?_
    refine kV_iloadn 80 dX6_work_79 rfl rfl ?_
    refine kV_iloadn 81 dX6_work_80 rfl rfl ?_
    refine kV_iloadn 82 dX6_work_81 rfl rfl ?_
    obtain ⟨x4, hx, h⟩ := kbi_ex h
    refine kC_V 85 [] [.int x4] dX6_work_82 (okX6_fits hG (d + 1)  hx) kmvX6_fits (wi_r23 _ (List.mem_of_getElem? (i := 4) rfl)) (kOk_of hG rfl) rfl rfl rfl rfl rfl rfl ?_
    clear hx
    rcases kif_ex h with ⟨hc, h⟩ | ⟨hc, h⟩
    · refine kV_if_eq_t 143 dX6_work_85 (by decide) hc ?_
      clear hc
      refine kV_drop [true, true, true, true, false] rfl ?_
      exact TX6_work_J143 hG hc47 hc70 h
    · refine kV_if_eq_f 143 88 dX6_work_85 (by decide) hc rfl ?_
      clear hc
      refine kV_aloadn 89 dX6_work_88 rfl rfl ?_
      refine rg6_56 92 dX6_work_89 (kOk_of hG rfl) rfl rfl ?_
      refine kV_iloadn 93 dX6_work_92 rfl rfl ?_
      obtain ⟨hi, h⟩ := kgd_ex h
      obtain ⟨x5, hx, h⟩ := kb_ex h
      refine rl6_18 94 dX6_work_93 (kOk_of hG rfl) rfl hi hx rfl ?_
      clear hi hx
      refine kV_aloadn 95 dX6_work_94 rfl rfl ?_
      refine rg6_87 98 dX6_work_95 (kOk_of hG rfl) rfl rfl ?_
      refine kV_iloadn 99 dX6_work_98 rfl rfl ?_
      refine kV_aloadn 100 dX6_work_99 rfl rfl ?_
      refine rg6_62 103 dX6_work_100 (kOk_of hG rfl) rfl rfl ?_
      refine kV_iloadn 104 dX6_work_103 rfl rfl ?_
      obtain ⟨hi, h⟩ := kgd_ex h
      obtain ⟨x6, hx, h⟩ := kb_ex h
      refine rl6_20 105 dX6_work_104 (kOk_of hG rfl) rfl hi hx rfl ?_
      clear hi hx
      refine kV_iadd 106 dX6_work_105 rfl ?_
      obtain ⟨hi, h⟩ := kgd_ex h
      obtain ⟨x7, hx, h⟩ := kb_ex h
      refine rl6_34 107 dX6_work_106 (kOk_of hG rfl) rfl hi hx rfl ?_
      clear hi hx
      refine kV_iadd 108 dX6_work_107 rfl ?_
      refine kV_aloadn 109 dX6_work_108 rfl rfl ?_
      refine rg6_87 112 dX6_work_109 (kOk_of hG rfl) rfl rfl ?_
      refine kV_iloadn 113 dX6_work_112 rfl rfl ?_
      obtain ⟨hi, h⟩ := kgd_ex h
      obtain ⟨x8, hx, h⟩ := kb_ex h
      refine rl6_34 114 dX6_work_113 (kOk_of hG rfl) rfl hi hx rfl ?_
      clear hi hx
      rcases kif_ex h with ⟨hc, h⟩ | ⟨hc, h⟩
      · refine kV_icmp_ge_t 143 dX6_work_114 (by decide) hc ?_
        clear hc
        refine kV_drop [true, true, true, true, false] rfl ?_
        exact TX6_work_J143 hG hc47 hc70 h
      · refine kV_icmp_ge_f 143 117 dX6_work_114 (by decide) hc rfl ?_
        clear hc
        refine kV_aloadn 118 dX6_work_117 rfl rfl ?_
        refine rg6_87 121 dX6_work_118 (kOk_of hG rfl) rfl rfl ?_
        refine kV_iloadn 122 dX6_work_121 rfl rfl ?_
        refine kV_aloadn 123 dX6_work_122 rfl rfl ?_
        refine rg6_56 126 dX6_work_123 (kOk_of hG rfl) rfl rfl ?_
        refine kV_iloadn 127 dX6_work_126 rfl rfl ?_
        obtain ⟨hi, h⟩ := kgd_ex h
        obtain ⟨x9, hx, h⟩ := kb_ex h
        refine rl6_18 128 dX6_work_127 (kOk_of hG rfl) rfl hi hx rfl ?_
        clear hi hx
        refine kV_aloadn 129 dX6_work_128 rfl rfl ?_
        refine rg6_87 132 dX6_work_129 (kOk_of hG rfl) rfl rfl ?_
        refine kV_iloadn 133 dX6_work_132 rfl rfl ?_
        refine kV_aloadn 134 dX6_work_133 rfl rfl ?_
        refine rg6_62 137 dX6_work_134 (kOk_of hG rfl) rfl rfl ?_
        refine kV_iloadn 138 dX6_work_137 rfl rfl ?_
        obtain ⟨hi, h⟩ := kgd_ex h
        obtain ⟨x10, hx, h⟩ := kb_ex h
        refine rl6_20 139 dX6_work_138 (kOk_of hG rfl) rfl hi hx rfl ?_
        clear hi hx
        refine kV_iadd 140 dX6_work_139 rfl ?_
        obtain ⟨hi, h⟩ := kgd_ex h
        obtain ⟨x11, hx, h⟩ := kb_ex h
        refine rl6_34 141 dX6_work_140 (kOk_of hG rfl) rfl hi hx rfl ?_
        clear hi hx
        refine kV_iadd 142 dX6_work_141 rfl ?_
        obtain ⟨hi, h⟩ := kgd_ex h
        obtain ⟨S1, hx, h⟩ := kb_ex h
        refine rs6_34 143 dX6_work_142 (kOk_of hG rfl) rfl hi hx rfl ?_
        clear hi hx
        refine kV_drop [true, true, true, true, false] rfl ?_
        exact TX6_work_J143 hG hc47 hc70 h
theorem TX6_work_L70 {G : kG} {n : Nat} {d : Nat} {X : kX} (hG : kg_N G = 55 + 14 * n) {c47 : kS × Int32 × Int32 → Option (kS)} {S : kS} (hc47 : ∀ (q : kS × Int32 × Int32) (res : kS), c47 q = some res → kV (X, RX6, 5, none, G, krm (d + 2), (0, 0), kQ X G none (kgl G n res)) cX6_work (kgl G n q.1) [some (.ref (kg_ad G (kbo 5))), some (.int (q.2.1)), some (.int (q.2.2)), none, none] [] 47) {v1 : Int32} {v2 : Int32} {v3 : Int32} {res : kS} (h : FX6_work_L70 c47 S v1 v2 v3 = some res) : kV (X, RX6, 5, none, G, krm (d + 2), (0, 0), kQ X G none (kgl G n res)) cX6_work (kgl G n S) [some (.ref (kg_ad G (kbo 5))), some (.int v1), some (.int v2), some (.int v3), none] [] 70 := by
  unfold FX6_work_L70 at h
  exact kfix_ok (P := fun (q : kS × Int32 × Int32 × Int32) (res : kS) => kV (X, RX6, 5, none, G, krm (d + 2), (0, 0), kQ X G none (kgl G n res)) cX6_work (kgl G n q.1) [some (.ref (kg_ad G (kbo 5))), some (.int (q.2.1)), some (.int (q.2.2.1)), some (.int (q.2.2.2)), none] [] 70) (fun rec hrec q res hq => TX6_work_B70 hG hc47 hrec hq) kfuel _ _ h
theorem TX6_work_B47 {G : kG} {n : Nat} {d : Nat} {X : kX} (hG : kg_N G = 55 + 14 * n) {c47 : kS × Int32 × Int32 → Option (kS)} (hc47 : ∀ (q : kS × Int32 × Int32) (res : kS), c47 q = some res → kV (X, RX6, 5, none, G, krm (d + 2), (0, 0), kQ X G none (kgl G n res)) cX6_work (kgl G n q.1) [some (.ref (kg_ad G (kbo 5))), some (.int (q.2.1)), some (.int (q.2.2)), none, none] [] 47) {S : kS} {v1 : Int32} {v2 : Int32} {res : kS} (h : FX6_work_B47 c47 S v1 v2 = some res) : kV (X, RX6, 5, none, G, krm (d + 2), (0, 0), kQ X G none (kgl G n res)) cX6_work (kgl G n S) [some (.ref (kg_ad G (kbo 5))), some (.int v1), some (.int v2), none, none] [] 47 := by
  unfold FX6_work_B47 at h
  refine kV_iloadn 48 dX6_work_47 rfl rfl ?_
  rcases kif_ex h with ⟨hc, h⟩ | ⟨hc, h⟩
  · refine kV_if_lt_t 367 dX6_work_48 (by decide) hc ?_
    clear hc
    cases h
    exact kV_vret dX6_work_367
  · refine kV_if_lt_f 367 51 dX6_work_48 (by decide) hc rfl ?_
    clear hc
    refine kV_aloadn 52 dX6_work_51 rfl rfl ?_
    refine rg6_87 55 dX6_work_52 (kOk_of hG rfl) rfl rfl ?_
    refine kV_iloadn 56 dX6_work_55 rfl rfl ?_
    refine kV_aloadn 57 dX6_work_56 rfl rfl ?_
    refine rg6_87 60 dX6_work_57 (kOk_of hG rfl) rfl rfl ?_
    refine kV_iloadn 61 dX6_work_60 rfl rfl ?_
    refine kV_iconst 62 dX6_work_61 ic_1 rfl ?_
    refine kV_iadd 63 dX6_work_62 rfl ?_
    obtain ⟨hi, h⟩ := kgd_ex h
    obtain ⟨x1, hx, h⟩ := kb_ex h
    refine rl6_34 64 dX6_work_63 (kOk_of hG rfl) rfl hi hx rfl ?_
    clear hi hx
    refine kV_bipush 66 dX6_work_64 bp_6 rfl ?_
    refine kV_iadd 67 dX6_work_66 rfl ?_
    obtain ⟨hi, h⟩ := kgd_ex h
    obtain ⟨S1, hx, h⟩ := kb_ex h
    refine rs6_34 68 dX6_work_67 (kOk_of hG rfl) rfl hi hx rfl ?_
    clear hi hx
    refine kV_iconst 69 dX6_work_68 ic_0 rfl ?_
    refine kV_istoren 70 [some (.ref (kg_ad G (kbo 5))), some (.int v1), some (.int v2), some (.int (0 : Int32)), none] dX6_work_69 rfl rfl rfl ?_
    refine kV_drop [true, true, true, true, false] rfl ?_
    exact TX6_work_L70 hG hc47 h
theorem TX6_work_L47 {G : kG} {n : Nat} {d : Nat} {X : kX} (hG : kg_N G = 55 + 14 * n) {S : kS} {v1 : Int32} {v2 : Int32} {res : kS} (h : FX6_work_L47 S v1 v2 = some res) : kV (X, RX6, 5, none, G, krm (d + 2), (0, 0), kQ X G none (kgl G n res)) cX6_work (kgl G n S) [some (.ref (kg_ad G (kbo 5))), some (.int v1), some (.int v2), none, none] [] 47 := by
  unfold FX6_work_L47 at h
  exact kfix_ok (P := fun (q : kS × Int32 × Int32) (res : kS) => kV (X, RX6, 5, none, G, krm (d + 2), (0, 0), kQ X G none (kgl G n res)) cX6_work (kgl G n q.1) [some (.ref (kg_ad G (kbo 5))), some (.int (q.2.1)), some (.int (q.2.2)), none, none] [] 47) (fun rec hrec q res hq => TX6_work_B47 hG hrec hq) kfuel _ _ h
theorem okX6_work {l : Launch} {G : kG} {n : Nat} (hG : kg_N G = 55 + 14 * n) (d : Nat) {S : kS} {a1 : Int32} {res : kS} (h : FX6_work S a1 = some res) : kEv l G (d + 2) mX6_work [.ref (kg_ad G (kbo 5)), .int a1] (kgl G n S) none (kgl G n res) := by
  refine kEv_of RX6 [some (.ref (kg_ad G (kbo 5))), some (.int a1), none, none, none] rfl (by decide +kernel) rfl rfl rfl rfl (fun X hX => ?_)
  subst hX
  unfold FX6_work at h
  refine kV_aloadn 1 dX6_work_0 rfl rfl ?_
  refine rg6_87 4 dX6_work_1 (kOk_of hG rfl) rfl rfl ?_
  refine kV_aloadn 5 dX6_work_4 rfl rfl ?_
  obtain ⟨x1, hx, h⟩ := kb_ex h
  refine rg6_159 8 dX6_work_5 (kOk_of hG rfl) rfl hx rfl ?_
  clear hx
  refine kV_iconst 9 dX6_work_8 ic_0 rfl ?_
  obtain ⟨hi, h⟩ := kgd_ex h
  obtain ⟨S1, hx, h⟩ := kb_ex h
  refine rs6_34 10 dX6_work_9 (kOk_of hG rfl) rfl hi hx rfl ?_
  clear hi hx
  refine kV_aloadn 11 dX6_work_10 rfl rfl ?_
  refine rg6_90 14 dX6_work_11 (kOk_of hG rfl) rfl rfl ?_
  refine kV_aloadn 15 dX6_work_14 rfl rfl ?_
  obtain ⟨x2, hx, h⟩ := kb_ex h
  refine rg6_159 18 dX6_work_15 (kOk_of hG rfl) rfl hx rfl ?_
  clear hx
  refine kV_iconst 19 dX6_work_18 ic_1 rfl ?_
  obtain ⟨hi, h⟩ := kgd_ex h
  obtain ⟨S2, hx, h⟩ := kb_ex h
  refine rs6_35 20 dX6_work_19 (kOk_of hG rfl) rfl hi hx rfl ?_
  clear hi hx
  refine kV_aloadn 21 dX6_work_20 rfl rfl ?_
  refine rg6_93 24 dX6_work_21 (kOk_of hG rfl) rfl rfl ?_
  refine kV_aloadn 25 dX6_work_24 rfl rfl ?_
  obtain ⟨x3, hx, h⟩ := kb_ex h
  refine rg6_159 28 dX6_work_25 (kOk_of hG rfl) rfl hx rfl ?_
  clear hx
  refine kV_iconst 29 dX6_work_28 ic_0 rfl ?_
  obtain ⟨hi, h⟩ := kgd_ex h
  obtain ⟨S3, hx, h⟩ := kb_ex h
  refine rs6_36 30 dX6_work_29 (kOk_of hG rfl) rfl hi hx rfl ?_
  clear hi hx
  refine kV_aloadn 31 dX6_work_30 rfl rfl ?_
  refine rg6_96 34 dX6_work_31 (kOk_of hG rfl) rfl rfl ?_
  refine kV_aloadn 35 dX6_work_34 rfl rfl ?_
  obtain ⟨x4, hx, h⟩ := kb_ex h
  refine rg6_159 38 dX6_work_35 (kOk_of hG rfl) rfl hx rfl ?_
  clear hx
  refine kV_iconst 39 dX6_work_38 ic_0 rfl ?_
  obtain ⟨hi, h⟩ := kgd_ex h
  obtain ⟨S4, hx, h⟩ := kb_ex h
  refine rs6_37 40 dX6_work_39 (kOk_of hG rfl) rfl hi hx rfl ?_
  clear hi hx
  refine kV_aloadn 41 dX6_work_40 rfl rfl ?_
  obtain ⟨x5, hx, h⟩ := kb_ex h
  refine rg6_159 44 dX6_work_41 (kOk_of hG rfl) rfl hx rfl ?_
  clear hx
  refine kV_iconst 45 dX6_work_44 ic_1 rfl ?_
  refine kV_isub 46 dX6_work_45 rfl ?_
  refine kV_istoren 47 [some (.ref (kg_ad G (kbo 5))), some (.int a1), some (.int (x5 - (1 : Int32))), none, none] dX6_work_46 rfl rfl rfl ?_
  refine kV_drop [true, true, true, false, false] rfl ?_
  exact TX6_work_L47 hG h
abbrev mX6_filled : kM := (yX6_filled, cX6_filled, 8, (some .int))
theorem kmvX6_filled : kMv mX6_filled 5 6 := ⟨⟨(wi_r24 _ (List.mem_of_getElem? (i := 7) rfl)), (wi_r1 _ (List.mem_of_getElem? (i := 5) rfl)), ⟨by decide +kernel, by decide +kernel, by decide +kernel⟩, by decide⟩, (wi_r24 _ (List.mem_of_getElem? (i := 5) rfl)), (wi_r24 _ (List.mem_of_getElem? (i := 6) rfl)), rfl⟩
def FX6_filled_J74 (c7 : Int32 × Int32 × Int32 × Int32 × Int32 × Int32 × Int32 → Option (Int32)) (S : kS) (v1 : Int32) (v2 : Int32) (v3 : Int32) (v4 : Int32) (v5 : Int32) (v6 : Int32) (v7 : Int32) : Option (Int32) :=
  c7 (v1, v2, v3, v4, v5, v6, (v7 + (1 : Int32)))
def FX6_filled_J101 (S : kS) (s0 : Int32) : Option (Int32) :=
  some s0
def FX6_filled_B7 (c7 : Int32 × Int32 × Int32 × Int32 × Int32 × Int32 × Int32 → Option (Int32)) (S : kS) (v1 : Int32) (v2 : Int32) (v3 : Int32) (v4 : Int32) (v5 : Int32) (v6 : Int32) (v7 : Int32) : Option (Int32) :=
  kgd (kin v1 20) <| kb (kA S 5 20 v1) fun x1 => if x1 ≤ v7 then (if (v5 &&& (16 : Int32)) = 0 then (FX6_filled_J101 S v5) else (FX6_filled_J101 S ((v5 &&& (-17 : Int32)) ||| v6))) else (kgd (kin (((4 : Int32) * v1) + v7) 84) <| kb (kA S 5 21 (((4 : Int32) * v1) + v7)) fun x2 => if x2 = (1 : Int32) then (kgd (kin (((4 : Int32) * v1) + v7) 84) <| kb (kA S 5 22 (((4 : Int32) * v1) + v7)) fun x3 => if x3 = v4 then (kgd (kin (v2 + v7) 8) <| kb (kA S 5 32 (v2 + v7)) fun x4 => kgd (kin (((64 : Int32) * v3) + x4) 192) <| kb (kA S 5 15 (((64 : Int32) * v3) + x4)) fun x5 => FX6_filled_J74 c7 S v1 v2 v3 v4 v5 ((1 : Int32) <<< ((x5 - x5 / (4 : Int32) * (4 : Int32)) &&& 31)) v7) else (FX6_filled_J74 c7 S v1 v2 v3 v4 v5 v6 v7)) else (FX6_filled_J74 c7 S v1 v2 v3 v4 v5 v6 v7))
def FX6_filled_L7 (S : kS) (v1 : Int32) (v2 : Int32) (v3 : Int32) (v4 : Int32) (v5 : Int32) (v6 : Int32) (v7 : Int32) : Option (Int32) :=
  kfix (fun rec (q : Int32 × Int32 × Int32 × Int32 × Int32 × Int32 × Int32) => FX6_filled_B7 rec S q.1 q.2.1 q.2.2.1 q.2.2.2.1 q.2.2.2.2.1 q.2.2.2.2.2.1 q.2.2.2.2.2.2) kfuel (v1, v2, v3, v4, v5, v6, v7)
def FX6_filled (S : kS) (a1 : Int32) (a2 : Int32) (a3 : Int32) (a4 : Int32) (a5 : Int32) : Option (Int32) :=
  FX6_filled_L7 S a1 a2 a3 a4 a5 (16 : Int32) (0 : Int32)
theorem TX6_filled_J74 {G : kG} {n : Nat} {d : Nat} {X : kX} (hG : kg_N G = 55 + 14 * n) {c7 : Int32 × Int32 × Int32 × Int32 × Int32 × Int32 × Int32 → Option (Int32)} {S : kS} (hc7 : ∀ (q : Int32 × Int32 × Int32 × Int32 × Int32 × Int32 × Int32) (res : Int32), c7 q = some res → kV (X, RX6, 8, (some .int), G, krm (d + 0), (0, 0), kQ X G (some (.int res)) (kgl G n S)) cX6_filled (kgl G n S) [some (.ref (kg_ad G (kbo 5))), some (.int (q.1)), some (.int (q.2.1)), some (.int (q.2.2.1)), some (.int (q.2.2.2.1)), some (.int (q.2.2.2.2.1)), some (.int (q.2.2.2.2.2.1)), some (.int (q.2.2.2.2.2.2))] [] 7) {v1 : Int32} {v2 : Int32} {v3 : Int32} {v4 : Int32} {v5 : Int32} {v6 : Int32} {v7 : Int32} {res : Int32} (h : FX6_filled_J74 c7 S v1 v2 v3 v4 v5 v6 v7 = some res) : kV (X, RX6, 8, (some .int), G, krm (d + 0), (0, 0), kQ X G (some (.int res)) (kgl G n S)) cX6_filled (kgl G n S) [some (.ref (kg_ad G (kbo 5))), some (.int v1), some (.int v2), some (.int v3), some (.int v4), some (.int v5), some (.int v6), some (.int v7)] [] 74 := by
  unfold FX6_filled_J74 at h
  refine kV_iinc 77 [some (.ref (kg_ad G (kbo 5))), some (.int v1), some (.int v2), some (.int v3), some (.int v4), some (.int v5), some (.int v6), some (.int (v7 + (1 : Int32)))] dX6_filled_74 rfl (kinc_1 _) rfl rfl rfl ?_
  refine kV_goto 7 dX6_filled_77 (by decide) ?_
  refine kV_drop [true, true, true, true, true, true, true, true] rfl ?_
  exact hc7 _ _ h
theorem TX6_filled_J101 {G : kG} {n : Nat} {d : Nat} {X : kX} (hG : kg_N G = 55 + 14 * n) {S : kS} {s0 : Int32} {res : Int32} (h : FX6_filled_J101 S s0 = some res) : kV (X, RX6, 8, (some .int), G, krm (d + 0), (0, 0), kQ X G (some (.int res)) (kgl G n S)) cX6_filled (kgl G n S) [none, none, none, none, none, none, none, none] [.int s0] 101 := by
  unfold FX6_filled_J101 at h
  cases h
  exact kV_iret dX6_filled_101
theorem TX6_filled_B7 {G : kG} {n : Nat} {d : Nat} {X : kX} (hG : kg_N G = 55 + 14 * n) {S : kS} {c7 : Int32 × Int32 × Int32 × Int32 × Int32 × Int32 × Int32 → Option (Int32)} (hc7 : ∀ (q : Int32 × Int32 × Int32 × Int32 × Int32 × Int32 × Int32) (res : Int32), c7 q = some res → kV (X, RX6, 8, (some .int), G, krm (d + 0), (0, 0), kQ X G (some (.int res)) (kgl G n S)) cX6_filled (kgl G n S) [some (.ref (kg_ad G (kbo 5))), some (.int (q.1)), some (.int (q.2.1)), some (.int (q.2.2.1)), some (.int (q.2.2.2.1)), some (.int (q.2.2.2.2.1)), some (.int (q.2.2.2.2.2.1)), some (.int (q.2.2.2.2.2.2))] [] 7) {v1 : Int32} {v2 : Int32} {v3 : Int32} {v4 : Int32} {v5 : Int32} {v6 : Int32} {v7 : Int32} {res : Int32} (h : FX6_filled_B7 c7 S v1 v2 v3 v4 v5 v6 v7 = some res) : kV (X, RX6, 8, (some .int), G, krm (d + 0), (0, 0), kQ X G (some (.int res)) (kgl G n S)) cX6_filled (kgl G n S) [some (.ref (kg_ad G (kbo 5))), some (.int v1), some (.int v2), some (.int v3), some (.int v4), some (.int v5), some (.int v6), some (.int v7)] [] 7 := by
  unfold FX6_filled_B7 at h
  refine kV_iload 9 dX6_filled_7 rfl rfl ?_
  refine kV_aloadn 10 dX6_filled_9 rfl rfl ?_
  refine rg6_62 13 dX6_filled_10 (kOk_of hG rfl) rfl rfl ?_
  refine kV_iloadn 14 dX6_filled_13 rfl rfl ?_
  obtain ⟨hi, h⟩ := kgd_ex h
  obtain ⟨x1, hx, h⟩ := kb_ex h
  refine rl6_20 15 dX6_filled_14 (kOk_of hG rfl) rfl hi hx rfl ?_
  clear hi hx
  rcases kif_ex h with ⟨hc, h⟩ | ⟨hc, h⟩
  · refine kV_icmp_ge_t 80 dX6_filled_15 (by decide) hc ?_
    clear hc
    refine kV_iload 82 dX6_filled_80 rfl rfl ?_
    refine kV_bipush 84 dX6_filled_82 bp_16 rfl ?_
    refine kV_iand 85 dX6_filled_84 rfl ?_
    rcases kif_ex h with ⟨hc, h⟩ | ⟨hc, h⟩
    · refine kV_if_ne_f 93 88 dX6_filled_85 (by decide) hc rfl ?_
      clear hc
      refine kV_iload 90 dX6_filled_88 rfl rfl ?_
      refine kV_goto 101 dX6_filled_90 (by decide) ?_
      refine kV_drop [false, false, false, false, false, false, false, false] rfl ?_
      exact TX6_filled_J101 hG h
    · refine kV_if_ne_t 93 dX6_filled_85 (by decide) hc ?_
      clear hc
      refine kV_iload 95 dX6_filled_93 rfl rfl ?_
      refine kV_bipush 97 dX6_filled_95 bp_m17 rfl ?_
      refine kV_iand 98 dX6_filled_97 rfl ?_
      refine kV_iload 100 dX6_filled_98 rfl rfl ?_
      refine kV_ior 101 dX6_filled_100 rfl ?_
      refine kV_drop [false, false, false, false, false, false, false, false] rfl ?_
      exact TX6_filled_J101 hG h
  · refine kV_icmp_ge_f 80 18 dX6_filled_15 (by decide) hc rfl ?_
    clear hc
    refine kV_aloadn 19 dX6_filled_18 rfl rfl ?_
    refine rg6_65 22 dX6_filled_19 (kOk_of hG rfl) rfl rfl ?_
    refine kV_iconst 23 dX6_filled_22 ic_4 rfl ?_
    refine kV_iloadn 24 dX6_filled_23 rfl rfl ?_
    refine kV_imul 25 dX6_filled_24 rfl ?_
    refine kV_iload 27 dX6_filled_25 rfl rfl ?_
    refine kV_iadd 28 dX6_filled_27 rfl ?_
    obtain ⟨hi, h⟩ := kgd_ex h
    obtain ⟨x2, hx, h⟩ := kb_ex h
    refine rl6_21 29 dX6_filled_28 (kOk_of hG rfl) rfl hi hx rfl ?_
    clear hi hx
    refine kV_iconst 30 dX6_filled_29 ic_1 rfl ?_
    rcases kif_ex h with ⟨hc, h⟩ | ⟨hc, h⟩
    · refine kV_icmp_ne_f 74 33 dX6_filled_30 (by decide) hc rfl ?_
      clear hc
      refine kV_aloadn 34 dX6_filled_33 rfl rfl ?_
      refine rg6_68 37 dX6_filled_34 (kOk_of hG rfl) rfl rfl ?_
      refine kV_iconst 38 dX6_filled_37 ic_4 rfl ?_
      refine kV_iloadn 39 dX6_filled_38 rfl rfl ?_
      refine kV_imul 40 dX6_filled_39 rfl ?_
      refine kV_iload 42 dX6_filled_40 rfl rfl ?_
      refine kV_iadd 43 dX6_filled_42 rfl ?_
      obtain ⟨hi, h⟩ := kgd_ex h
      obtain ⟨x3, hx, h⟩ := kb_ex h
      refine rl6_22 44 dX6_filled_43 (kOk_of hG rfl) rfl hi hx rfl ?_
      clear hi hx
      refine kV_iload 46 dX6_filled_44 rfl rfl ?_
      rcases kif_ex h with ⟨hc, h⟩ | ⟨hc, h⟩
      · refine kV_icmp_ne_f 74 49 dX6_filled_46 (by decide) hc rfl ?_
        clear hc
        refine kV_iconst 50 dX6_filled_49 ic_1 rfl ?_
        refine kV_aloadn 51 dX6_filled_50 rfl rfl ?_
        refine rg6_50 54 dX6_filled_51 (kOk_of hG rfl) rfl rfl ?_
        refine kV_bipush 56 dX6_filled_54 bp_64 rfl ?_
        refine kV_iloadn 57 dX6_filled_56 rfl rfl ?_
        refine kV_imul 58 dX6_filled_57 rfl ?_
        refine kV_aloadn 59 dX6_filled_58 rfl rfl ?_
        refine rg6_84 62 dX6_filled_59 (kOk_of hG rfl) rfl rfl ?_
        refine kV_iloadn 63 dX6_filled_62 rfl rfl ?_
        refine kV_iload 65 dX6_filled_63 rfl rfl ?_
        refine kV_iadd 66 dX6_filled_65 rfl ?_
        obtain ⟨hi, h⟩ := kgd_ex h
        obtain ⟨x4, hx, h⟩ := kb_ex h
        refine rl6_32 67 dX6_filled_66 (kOk_of hG rfl) rfl hi hx rfl ?_
        clear hi hx
        refine kV_iadd 68 dX6_filled_67 rfl ?_
        obtain ⟨hi, h⟩ := kgd_ex h
        obtain ⟨x5, hx, h⟩ := kb_ex h
        refine rl6_15 69 dX6_filled_68 (kOk_of hG rfl) rfl hi hx rfl ?_
        clear hi hx
        refine kV_iconst 70 dX6_filled_69 ic_4 rfl ?_
        refine kV_irem 71 dX6_filled_70 (by decide) rfl ?_
        refine kV_ishl 72 dX6_filled_71 rfl ?_
        refine kV_istore 74 [some (.ref (kg_ad G (kbo 5))), some (.int v1), some (.int v2), some (.int v3), some (.int v4), some (.int v5), some (.int ((1 : Int32) <<< ((x5 - x5 / (4 : Int32) * (4 : Int32)) &&& 31))), some (.int v7)] dX6_filled_72 rfl rfl rfl ?_
        refine kV_drop [true, true, true, true, true, true, true, true] rfl ?_
        exact TX6_filled_J74 hG hc7 h
      · refine kV_icmp_ne_t 74 dX6_filled_46 (by decide) hc ?_
        clear hc
        refine kV_drop [true, true, true, true, true, true, true, true] rfl ?_
        exact TX6_filled_J74 hG hc7 h
    · refine kV_icmp_ne_t 74 dX6_filled_30 (by decide) hc ?_
      clear hc
      refine kV_drop [true, true, true, true, true, true, true, true] rfl ?_
      exact TX6_filled_J74 hG hc7 h
theorem TX6_filled_L7 {G : kG} {n : Nat} {d : Nat} {X : kX} (hG : kg_N G = 55 + 14 * n) {S : kS} {v1 : Int32} {v2 : Int32} {v3 : Int32} {v4 : Int32} {v5 : Int32} {v6 : Int32} {v7 : Int32} {res : Int32} (h : FX6_filled_L7 S v1 v2 v3 v4 v5 v6 v7 = some res) : kV (X, RX6, 8, (some .int), G, krm (d + 0), (0, 0), kQ X G (some (.int res)) (kgl G n S)) cX6_filled (kgl G n S) [some (.ref (kg_ad G (kbo 5))), some (.int v1), some (.int v2), some (.int v3), some (.int v4), some (.int v5), some (.int v6), some (.int v7)] [] 7 := by
  unfold FX6_filled_L7 at h
  exact kfix_ok (P := fun (q : Int32 × Int32 × Int32 × Int32 × Int32 × Int32 × Int32) (res : Int32) => kV (X, RX6, 8, (some .int), G, krm (d + 0), (0, 0), kQ X G (some (.int res)) (kgl G n S)) cX6_filled (kgl G n S) [some (.ref (kg_ad G (kbo 5))), some (.int (q.1)), some (.int (q.2.1)), some (.int (q.2.2.1)), some (.int (q.2.2.2.1)), some (.int (q.2.2.2.2.1)), some (.int (q.2.2.2.2.2.1)), some (.int (q.2.2.2.2.2.2))] [] 7) (fun rec hrec q res hq => TX6_filled_B7 hG hrec hq) kfuel _ _ h
theorem okX6_filled {l : Launch} {G : kG} {n : Nat} (hG : kg_N G = 55 + 14 * n) (d : Nat) {S : kS} {a1 : Int32} {a2 : Int32} {a3 : Int32} {a4 : Int32} {a5 : Int32} {res : Int32} (h : FX6_filled S a1 a2 a3 a4 a5 = some res) : kEv l G (d + 0) mX6_filled [.ref (kg_ad G (kbo 5)), .int a1, .int a2, .int a3, .int a4, .int a5] (kgl G n S) (some (.int res)) (kgl G n S) := by
  refine kEv_of RX6 [some (.ref (kg_ad G (kbo 5))), some (.int a1), some (.int a2), some (.int a3), some (.int a4), some (.int a5), none, none] rfl (by decide +kernel) rfl rfl rfl rfl (fun X hX => ?_)
  subst hX
  unfold FX6_filled at h
  refine kV_bipush 2 dX6_filled_0 bp_16 rfl ?_
  refine kV_istore 4 [some (.ref (kg_ad G (kbo 5))), some (.int a1), some (.int a2), some (.int a3), some (.int a4), some (.int a5), some (.int (16 : Int32)), none] dX6_filled_2 rfl rfl rfl ?_
  refine kV_iconst 5 dX6_filled_4 ic_0 rfl ?_
  refine kV_istore 7 [some (.ref (kg_ad G (kbo 5))), some (.int a1), some (.int a2), some (.int a3), some (.int a4), some (.int a5), some (.int (16 : Int32)), some (.int (0 : Int32))] dX6_filled_5 rfl rfl rfl ?_
  refine kV_drop [true, true, true, true, true, true, true, true] rfl ?_
  exact TX6_filled_L7 hG h
abbrev mX6_outcomes : kM := (yX6_outcomes, cX6_outcomes, 5, (some .int))
theorem kmvX6_outcomes : kMv mX6_outcomes 2 6 := ⟨⟨(wi_r24 _ (List.mem_of_getElem? (i := 3) rfl)), (wi_r1 _ (List.mem_of_getElem? (i := 5) rfl)), ⟨by decide +kernel, by decide +kernel, by decide +kernel⟩, by decide⟩, (wi_r24 _ (List.mem_of_getElem? (i := 1) rfl)), (wi_r24 _ (List.mem_of_getElem? (i := 2) rfl)), rfl⟩
def FX6_outcomes_J103 (c18 : kS × Int32 × Int32 × Int32 → Option (Int32 × kS)) (c51 : kS × Int32 × Int32 × Int32 × Int32 → Option (Int32 × kS)) (S : kS) (v1 : Int32) (v2 : Int32) (v3 : Int32) (v4 : Int32) : Option (Int32 × kS) :=
  c51 (S, v1, v2, v3, (v4 + (1 : Int32)))
def FX6_outcomes_B51 (c18 : kS × Int32 × Int32 × Int32 → Option (Int32 × kS)) (c51 : kS × Int32 × Int32 × Int32 × Int32 → Option (Int32 × kS)) (S : kS) (v1 : Int32) (v2 : Int32) (v3 : Int32) (v4 : Int32) : Option (Int32 × kS) :=
  kb (kI S 5 16) fun x1 => if x1 ≤ v4 then (c18 (S, v1, v2, (v3 + (-1 : Int32)))) else ((FX6_isLeast S v4 v3 v1).bind fun x2 => if x2 = 0 then (FX6_outcomes_J103 c18 c51 S v1 v2 v3 v4) else (kgd (kin v3 9) <| kb (kA S 5 38 v3) fun x3 => kgd (kin v4 20) <| kb (kA S 5 20 v4) fun x4 => kgd (kin (v3 + x4) 9) <| kb (kA S 5 38 (v3 + x4)) fun x5 => (FX6_filled S v4 v3 v1 v2 x5).bind fun x6 => kgd (kin v3 9) <| kb (kpA S 5 38 v3 (x3 ||| x6)) fun S1 => FX6_outcomes_J103 c18 c51 S1 v1 v2 v3 v4))
def FX6_outcomes_L51 (c18 : kS × Int32 × Int32 × Int32 → Option (Int32 × kS)) (S : kS) (v1 : Int32) (v2 : Int32) (v3 : Int32) (v4 : Int32) : Option (Int32 × kS) :=
  kfix (fun rec (q : kS × Int32 × Int32 × Int32 × Int32) => FX6_outcomes_B51 c18 rec q.1 q.2.1 q.2.2.1 q.2.2.2.1 q.2.2.2.2) kfuel (S, v1, v2, v3, v4)
def FX6_outcomes_J47 (c18 : kS × Int32 × Int32 × Int32 → Option (Int32 × kS)) (S : kS) (v1 : Int32) (v2 : Int32) (v3 : Int32) (s0 : Int32) (s1 : Int32) : Option (Int32 × kS) :=
  kgd (kin s1 9) <| kb (kpA S 5 38 s1 s0) fun S1 => FX6_outcomes_L51 c18 S1 v1 v2 v3 (0 : Int32)
def FX6_outcomes_B18 (c18 : kS × Int32 × Int32 × Int32 → Option (Int32 × kS)) (S : kS) (v1 : Int32) (v2 : Int32) (v3 : Int32) : Option (Int32 × kS) :=
  if v3 < 0 then (kgd (kin (0 : Int32) 9) <| kb (kA S 5 38 (0 : Int32)) fun x1 => some (x1, S)) else ((FX6_mayPass S v3).bind fun x2 => if x2 = 0 then (FX6_outcomes_J47 c18 S v1 v2 v3 (0 : Int32) v3) else (kgd (kin (v3 + (1 : Int32)) 9) <| kb (kA S 5 38 (v3 + (1 : Int32))) fun x3 => FX6_outcomes_J47 c18 S v1 v2 v3 x3 v3))
def FX6_outcomes_L18 (S : kS) (v1 : Int32) (v2 : Int32) (v3 : Int32) : Option (Int32 × kS) :=
  kfix (fun rec (q : kS × Int32 × Int32 × Int32) => FX6_outcomes_B18 rec q.1 q.2.1 q.2.2.1 q.2.2.2) kfuel (S, v1, v2, v3)
def FX6_outcomes (S : kS) (a1 : Int32) (a2 : Int32) : Option (Int32 × kS) :=
  kb (kI S 5 33) fun x1 => kgd (kin x1 9) <| kb (kpA S 5 38 x1 (16 : Int32)) fun S1 => kb (kI S1 5 33) fun x2 => FX6_outcomes_L18 S1 a1 a2 (x2 - (1 : Int32))
theorem TX6_outcomes_J103 {G : kG} {n : Nat} {d : Nat} {X : kX} (hG : kg_N G = 55 + 14 * n) {c18 : kS × Int32 × Int32 × Int32 → Option (Int32 × kS)} {c51 : kS × Int32 × Int32 × Int32 × Int32 → Option (Int32 × kS)} {S : kS} (hc18 : ∀ (q : kS × Int32 × Int32 × Int32) (res : Int32 × kS), c18 q = some res → kV (X, RX6, 5, (some .int), G, krm (d + 2), (0, 0), kQ X G (some (.int res.1)) (kgl G n res.2)) cX6_outcomes (kgl G n q.1) [some (.ref (kg_ad G (kbo 5))), some (.int (q.2.1)), some (.int (q.2.2.1)), some (.int (q.2.2.2)), none] [] 18) (hc51 : ∀ (q : kS × Int32 × Int32 × Int32 × Int32) (res : Int32 × kS), c51 q = some res → kV (X, RX6, 5, (some .int), G, krm (d + 2), (0, 0), kQ X G (some (.int res.1)) (kgl G n res.2)) cX6_outcomes (kgl G n q.1) [some (.ref (kg_ad G (kbo 5))), some (.int (q.2.1)), some (.int (q.2.2.1)), some (.int (q.2.2.2.1)), some (.int (q.2.2.2.2))] [] 51) {v1 : Int32} {v2 : Int32} {v3 : Int32} {v4 : Int32} {res : Int32 × kS} (h : FX6_outcomes_J103 c18 c51 S v1 v2 v3 v4 = some res) : kV (X, RX6, 5, (some .int), G, krm (d + 2), (0, 0), kQ X G (some (.int res.1)) (kgl G n res.2)) cX6_outcomes (kgl G n S) [some (.ref (kg_ad G (kbo 5))), some (.int v1), some (.int v2), some (.int v3), some (.int v4)] [] 103 := by
  unfold FX6_outcomes_J103 at h
  refine kV_iinc 106 [some (.ref (kg_ad G (kbo 5))), some (.int v1), some (.int v2), some (.int v3), some (.int (v4 + (1 : Int32)))] dX6_outcomes_103 rfl (kinc_1 _) rfl rfl rfl ?_
  refine kV_goto 51 dX6_outcomes_106 (by decide) ?_
  refine kV_drop [true, true, true, true, true] rfl ?_
  exact hc51 _ _ h
theorem TX6_outcomes_B51 {G : kG} {n : Nat} {d : Nat} {X : kX} (hG : kg_N G = 55 + 14 * n) {c18 : kS × Int32 × Int32 × Int32 → Option (Int32 × kS)} (hc18 : ∀ (q : kS × Int32 × Int32 × Int32) (res : Int32 × kS), c18 q = some res → kV (X, RX6, 5, (some .int), G, krm (d + 2), (0, 0), kQ X G (some (.int res.1)) (kgl G n res.2)) cX6_outcomes (kgl G n q.1) [some (.ref (kg_ad G (kbo 5))), some (.int (q.2.1)), some (.int (q.2.2.1)), some (.int (q.2.2.2)), none] [] 18) {c51 : kS × Int32 × Int32 × Int32 × Int32 → Option (Int32 × kS)} (hc51 : ∀ (q : kS × Int32 × Int32 × Int32 × Int32) (res : Int32 × kS), c51 q = some res → kV (X, RX6, 5, (some .int), G, krm (d + 2), (0, 0), kQ X G (some (.int res.1)) (kgl G n res.2)) cX6_outcomes (kgl G n q.1) [some (.ref (kg_ad G (kbo 5))), some (.int (q.2.1)), some (.int (q.2.2.1)), some (.int (q.2.2.2.1)), some (.int (q.2.2.2.2))] [] 51) {S : kS} {v1 : Int32} {v2 : Int32} {v3 : Int32} {v4 : Int32} {res : Int32 × kS} (h : FX6_outcomes_B51 c18 c51 S v1 v2 v3 v4 = some res) : kV (X, RX6, 5, (some .int), G, krm (d + 2), (0, 0), kQ X G (some (.int res.1)) (kgl G n res.2)) cX6_outcomes (kgl G n S) [some (.ref (kg_ad G (kbo 5))), some (.int v1), some (.int v2), some (.int v3), some (.int v4)] [] 51 := by
  unfold FX6_outcomes_B51 at h
  refine kV_iload 53 dX6_outcomes_51 rfl rfl ?_
  refine kV_aloadn 54 dX6_outcomes_53 rfl rfl ?_
  obtain ⟨x1, hx, h⟩ := kb_ex h
  refine rg6_146 57 dX6_outcomes_54 (kOk_of hG rfl) rfl hx rfl ?_
  clear hx
  rcases kif_ex h with ⟨hc, h⟩ | ⟨hc, h⟩
  · refine kV_icmp_ge_t 109 dX6_outcomes_57 (by decide) hc ?_
    clear hc
    refine kV_iinc 112 [some (.ref (kg_ad G (kbo 5))), some (.int v1), some (.int v2), some (.int (v3 + (-1 : Int32))), some (.int v4)] dX6_outcomes_109 rfl (kinc_m1 _) rfl rfl rfl ?_
    refine kV_goto 18 dX6_outcomes_112 (by decide) ?_
    refine kV_drop [true, true, true, true, false] rfl ?_
    exact hc18 _ _ h
  · refine kV_icmp_ge_f 109 60 dX6_outcomes_57 (by decide) hc rfl ?_
    clear hc
    refine kV_aloadn 61 dX6_outcomes_60 rfl rfl ?_
    refine kV_iload 63 dX6_outcomes_61 rfl rfl ?_
    refine kV_iloadn 64 dX6_outcomes_63 rfl rfl ?_
    refine kV_iloadn 65 dX6_outcomes_64 rfl rfl ?_
    obtain ⟨x2, hx, h⟩ := kbi_ex h
    refine kC_V 68 [] [.int x2] dX6_outcomes_65 (okX6_isLeast hG d  hx) kmvX6_isLeast (wi_r23 _ (List.mem_of_getElem? (i := 12) rfl)) (kOk_of hG rfl) rfl rfl rfl rfl rfl rfl ?_
    clear hx
    rcases kif_ex h with ⟨hc, h⟩ | ⟨hc, h⟩
    · refine kV_if_eq_t 103 dX6_outcomes_68 (by decide) hc ?_
      clear hc
      refine kV_drop [true, true, true, true, true] rfl ?_
      exact TX6_outcomes_J103 hG hc18 hc51 h
    · refine kV_if_eq_f 103 71 dX6_outcomes_68 (by decide) hc rfl ?_
      clear hc
      refine kV_aloadn 72 dX6_outcomes_71 rfl rfl ?_
      refine rg6_99 75 dX6_outcomes_72 (kOk_of hG rfl) rfl rfl ?_
      refine kV_iloadn 76 dX6_outcomes_75 rfl rfl ?_
      refine kV_dup2 77 dX6_outcomes_76 rfl rfl rfl ?_
      obtain ⟨hi, h⟩ := kgd_ex h
      obtain ⟨x3, hx, h⟩ := kb_ex h
      refine rl6_38 78 dX6_outcomes_77 (kOk_of hG rfl) rfl hi hx rfl ?_
      clear hi hx
      refine kV_aloadn 79 dX6_outcomes_78 rfl rfl ?_
      refine kV_iload 81 dX6_outcomes_79 rfl rfl ?_
      refine kV_iloadn 82 dX6_outcomes_81 rfl rfl ?_
      refine kV_iloadn 83 dX6_outcomes_82 rfl rfl ?_
      refine kV_iloadn 84 dX6_outcomes_83 rfl rfl ?_
      refine kV_aloadn 85 dX6_outcomes_84 rfl rfl ?_
      refine rg6_99 88 dX6_outcomes_85 (kOk_of hG rfl) rfl rfl ?_
      refine kV_iloadn 89 dX6_outcomes_88 rfl rfl ?_
      refine kV_aloadn 90 dX6_outcomes_89 rfl rfl ?_
      refine rg6_62 93 dX6_outcomes_90 (kOk_of hG rfl) rfl rfl ?_
      refine kV_iload 95 dX6_outcomes_93 rfl rfl ?_
      obtain ⟨hi, h⟩ := kgd_ex h
      obtain ⟨x4, hx, h⟩ := kb_ex h
      refine rl6_20 96 dX6_outcomes_95 (kOk_of hG rfl) rfl hi hx rfl ?_
      clear hi hx
      refine kV_iadd 97 dX6_outcomes_96 rfl ?_
      obtain ⟨hi, h⟩ := kgd_ex h
      obtain ⟨x5, hx, h⟩ := kb_ex h
      refine rl6_38 98 dX6_outcomes_97 (kOk_of hG rfl) rfl hi hx rfl ?_
      clear hi hx
      obtain ⟨x6, hx, h⟩ := kbi_ex h
      refine kC_V 101 [.int x3, .int v3, .ref (kg_ad G (kbo 5 + 29))] [.int x6, .int x3, .int v3, .ref (kg_ad G (kbo 5 + 29))] dX6_outcomes_98 (okX6_filled hG (d + 1)  hx) kmvX6_filled (wi_r24 _ (List.mem_of_getElem? (i := 4) rfl)) (kOk_of hG rfl) rfl rfl rfl rfl rfl rfl ?_
      clear hx
      refine kV_ior 102 dX6_outcomes_101 rfl ?_
      obtain ⟨hi, h⟩ := kgd_ex h
      obtain ⟨S1, hx, h⟩ := kb_ex h
      refine rs6_38 103 dX6_outcomes_102 (kOk_of hG rfl) rfl hi hx rfl ?_
      clear hi hx
      refine kV_drop [true, true, true, true, true] rfl ?_
      exact TX6_outcomes_J103 hG hc18 hc51 h
theorem TX6_outcomes_L51 {G : kG} {n : Nat} {d : Nat} {X : kX} (hG : kg_N G = 55 + 14 * n) {c18 : kS × Int32 × Int32 × Int32 → Option (Int32 × kS)} {S : kS} (hc18 : ∀ (q : kS × Int32 × Int32 × Int32) (res : Int32 × kS), c18 q = some res → kV (X, RX6, 5, (some .int), G, krm (d + 2), (0, 0), kQ X G (some (.int res.1)) (kgl G n res.2)) cX6_outcomes (kgl G n q.1) [some (.ref (kg_ad G (kbo 5))), some (.int (q.2.1)), some (.int (q.2.2.1)), some (.int (q.2.2.2)), none] [] 18) {v1 : Int32} {v2 : Int32} {v3 : Int32} {v4 : Int32} {res : Int32 × kS} (h : FX6_outcomes_L51 c18 S v1 v2 v3 v4 = some res) : kV (X, RX6, 5, (some .int), G, krm (d + 2), (0, 0), kQ X G (some (.int res.1)) (kgl G n res.2)) cX6_outcomes (kgl G n S) [some (.ref (kg_ad G (kbo 5))), some (.int v1), some (.int v2), some (.int v3), some (.int v4)] [] 51 := by
  unfold FX6_outcomes_L51 at h
  exact kfix_ok (P := fun (q : kS × Int32 × Int32 × Int32 × Int32) (res : Int32 × kS) => kV (X, RX6, 5, (some .int), G, krm (d + 2), (0, 0), kQ X G (some (.int res.1)) (kgl G n res.2)) cX6_outcomes (kgl G n q.1) [some (.ref (kg_ad G (kbo 5))), some (.int (q.2.1)), some (.int (q.2.2.1)), some (.int (q.2.2.2.1)), some (.int (q.2.2.2.2))] [] 51) (fun rec hrec q res hq => TX6_outcomes_B51 hG hc18 hrec hq) kfuel _ _ h
theorem TX6_outcomes_J47 {G : kG} {n : Nat} {d : Nat} {X : kX} (hG : kg_N G = 55 + 14 * n) {c18 : kS × Int32 × Int32 × Int32 → Option (Int32 × kS)} {S : kS} (hc18 : ∀ (q : kS × Int32 × Int32 × Int32) (res : Int32 × kS), c18 q = some res → kV (X, RX6, 5, (some .int), G, krm (d + 2), (0, 0), kQ X G (some (.int res.1)) (kgl G n res.2)) cX6_outcomes (kgl G n q.1) [some (.ref (kg_ad G (kbo 5))), some (.int (q.2.1)), some (.int (q.2.2.1)), some (.int (q.2.2.2)), none] [] 18) {v1 : Int32} {v2 : Int32} {v3 : Int32} {s0 : Int32} {s1 : Int32} {res : Int32 × kS} (h : FX6_outcomes_J47 c18 S v1 v2 v3 s0 s1 = some res) : kV (X, RX6, 5, (some .int), G, krm (d + 2), (0, 0), kQ X G (some (.int res.1)) (kgl G n res.2)) cX6_outcomes (kgl G n S) [some (.ref (kg_ad G (kbo 5))), some (.int v1), some (.int v2), some (.int v3), none] [.int s0, .int s1, .ref (kg_ad G (kbo 5 + 29))] 47 := by
  unfold FX6_outcomes_J47 at h
  obtain ⟨hi, h⟩ := kgd_ex h
  obtain ⟨S1, hx, h⟩ := kb_ex h
  refine rs6_38 48 dX6_outcomes_47 (kOk_of hG rfl) rfl hi hx rfl ?_
  clear hi hx
  refine kV_iconst 49 dX6_outcomes_48 ic_0 rfl ?_
  refine kV_istore 51 [some (.ref (kg_ad G (kbo 5))), some (.int v1), some (.int v2), some (.int v3), some (.int (0 : Int32))] dX6_outcomes_49 rfl rfl rfl ?_
  refine kV_drop [true, true, true, true, true] rfl ?_
  exact TX6_outcomes_L51 hG hc18 h
theorem TX6_outcomes_B18 {G : kG} {n : Nat} {d : Nat} {X : kX} (hG : kg_N G = 55 + 14 * n) {c18 : kS × Int32 × Int32 × Int32 → Option (Int32 × kS)} (hc18 : ∀ (q : kS × Int32 × Int32 × Int32) (res : Int32 × kS), c18 q = some res → kV (X, RX6, 5, (some .int), G, krm (d + 2), (0, 0), kQ X G (some (.int res.1)) (kgl G n res.2)) cX6_outcomes (kgl G n q.1) [some (.ref (kg_ad G (kbo 5))), some (.int (q.2.1)), some (.int (q.2.2.1)), some (.int (q.2.2.2)), none] [] 18) {S : kS} {v1 : Int32} {v2 : Int32} {v3 : Int32} {res : Int32 × kS} (h : FX6_outcomes_B18 c18 S v1 v2 v3 = some res) : kV (X, RX6, 5, (some .int), G, krm (d + 2), (0, 0), kQ X G (some (.int res.1)) (kgl G n res.2)) cX6_outcomes (kgl G n S) [some (.ref (kg_ad G (kbo 5))), some (.int v1), some (.int v2), some (.int v3), none] [] 18 := by
  unfold FX6_outcomes_B18 at h
  refine kV_iloadn 19 dX6_outcomes_18 rfl rfl ?_
  rcases kif_ex h with ⟨hc, h⟩ | ⟨hc, h⟩
  · refine kV_if_lt_t 115 dX6_outcomes_19 (by decide) hc ?_
    clear hc
    refine kV_aloadn 116 dX6_outcomes_115 rfl rfl ?_
    refine rg6_99 119 dX6_outcomes_116 (kOk_of hG rfl) rfl rfl ?_
    refine kV_iconst 120 dX6_outcomes_119 ic_0 rfl ?_
    obtain ⟨hi, h⟩ := kgd_ex h
    obtain ⟨x1, hx, h⟩ := kb_ex h
    refine rl6_38 121 dX6_outcomes_120 (kOk_of hG rfl) rfl hi hx rfl ?_
    clear hi hx
    cases h
    exact kV_iret dX6_outcomes_121
  · refine kV_if_lt_f 115 22 dX6_outcomes_19 (by decide) hc rfl ?_
    clear hc
    refine kV_aloadn 23 dX6_outcomes_22 rfl rfl ?_
    refine rg6_99 26 dX6_outcomes_23 (kOk_of hG rfl) rfl rfl ?_
    refine kV_iloadn 27 dX6_outcomes_26 rfl rfl ?_
    refine kV_aloadn 28 dX6_outcomes_27 rfl rfl ?_
    refine kV_iloadn 29 dX6_outcomes_28 rfl rfl ?_
    obtain ⟨x2, hx, h⟩ := kbi_ex h
    refine kC_V 32 [.int v3, .ref (kg_ad G (kbo 5 + 29))] [.int x2, .int v3, .ref (kg_ad G (kbo 5 + 29))] dX6_outcomes_29 (okX6_mayPass hG (d + 1)  hx) kmvX6_mayPass (wi_r23 _ (List.mem_of_getElem? (i := 8) rfl)) (kOk_of hG rfl) rfl rfl rfl rfl rfl rfl ?_
    clear hx
    rcases kif_ex h with ⟨hc, h⟩ | ⟨hc, h⟩
    · refine kV_if_eq_t 46 dX6_outcomes_32 (by decide) hc ?_
      clear hc
      refine kV_iconst 47 dX6_outcomes_46 ic_0 rfl ?_
      refine kV_drop [true, true, true, true, false] rfl ?_
      exact TX6_outcomes_J47 hG hc18 h
    · refine kV_if_eq_f 46 35 dX6_outcomes_32 (by decide) hc rfl ?_
      clear hc
      refine kV_aloadn 36 dX6_outcomes_35 rfl rfl ?_
      refine rg6_99 39 dX6_outcomes_36 (kOk_of hG rfl) rfl rfl ?_
      refine kV_iloadn 40 dX6_outcomes_39 rfl rfl ?_
      refine kV_iconst 41 dX6_outcomes_40 ic_1 rfl ?_
      refine kV_iadd 42 dX6_outcomes_41 rfl ?_
      obtain ⟨hi, h⟩ := kgd_ex h
      obtain ⟨x3, hx, h⟩ := kb_ex h
      refine rl6_38 43 dX6_outcomes_42 (kOk_of hG rfl) rfl hi hx rfl ?_
      clear hi hx
      refine kV_goto 47 dX6_outcomes_43 (by decide) ?_
      refine kV_drop [true, true, true, true, false] rfl ?_
      exact TX6_outcomes_J47 hG hc18 h
theorem TX6_outcomes_L18 {G : kG} {n : Nat} {d : Nat} {X : kX} (hG : kg_N G = 55 + 14 * n) {S : kS} {v1 : Int32} {v2 : Int32} {v3 : Int32} {res : Int32 × kS} (h : FX6_outcomes_L18 S v1 v2 v3 = some res) : kV (X, RX6, 5, (some .int), G, krm (d + 2), (0, 0), kQ X G (some (.int res.1)) (kgl G n res.2)) cX6_outcomes (kgl G n S) [some (.ref (kg_ad G (kbo 5))), some (.int v1), some (.int v2), some (.int v3), none] [] 18 := by
  unfold FX6_outcomes_L18 at h
  exact kfix_ok (P := fun (q : kS × Int32 × Int32 × Int32) (res : Int32 × kS) => kV (X, RX6, 5, (some .int), G, krm (d + 2), (0, 0), kQ X G (some (.int res.1)) (kgl G n res.2)) cX6_outcomes (kgl G n q.1) [some (.ref (kg_ad G (kbo 5))), some (.int (q.2.1)), some (.int (q.2.2.1)), some (.int (q.2.2.2)), none] [] 18) (fun rec hrec q res hq => TX6_outcomes_B18 hG hrec hq) kfuel _ _ h
theorem okX6_outcomes {l : Launch} {G : kG} {n : Nat} (hG : kg_N G = 55 + 14 * n) (d : Nat) {S : kS} {a1 : Int32} {a2 : Int32} {res : Int32 × kS} (h : FX6_outcomes S a1 a2 = some res) : kEv l G (d + 2) mX6_outcomes [.ref (kg_ad G (kbo 5)), .int a1, .int a2] (kgl G n S) (some (.int res.1)) (kgl G n res.2) := by
  refine kEv_of RX6 [some (.ref (kg_ad G (kbo 5))), some (.int a1), some (.int a2), none, none] rfl (by decide +kernel) rfl rfl rfl rfl (fun X hX => ?_)
  subst hX
  unfold FX6_outcomes at h
  refine kV_aloadn 1 dX6_outcomes_0 rfl rfl ?_
  refine rg6_99 4 dX6_outcomes_1 (kOk_of hG rfl) rfl rfl ?_
  refine kV_aloadn 5 dX6_outcomes_4 rfl rfl ?_
  obtain ⟨x1, hx, h⟩ := kb_ex h
  refine rg6_159 8 dX6_outcomes_5 (kOk_of hG rfl) rfl hx rfl ?_
  clear hx
  refine kV_bipush 10 dX6_outcomes_8 bp_16 rfl ?_
  obtain ⟨hi, h⟩ := kgd_ex h
  obtain ⟨S1, hx, h⟩ := kb_ex h
  refine rs6_38 11 dX6_outcomes_10 (kOk_of hG rfl) rfl hi hx rfl ?_
  clear hi hx
  refine kV_aloadn 12 dX6_outcomes_11 rfl rfl ?_
  obtain ⟨x2, hx, h⟩ := kb_ex h
  refine rg6_159 15 dX6_outcomes_12 (kOk_of hG rfl) rfl hx rfl ?_
  clear hx
  refine kV_iconst 16 dX6_outcomes_15 ic_1 rfl ?_
  refine kV_isub 17 dX6_outcomes_16 rfl ?_
  refine kV_istoren 18 [some (.ref (kg_ad G (kbo 5))), some (.int a1), some (.int a2), some (.int (x2 - (1 : Int32))), none] dX6_outcomes_17 rfl rfl rfl ?_
  refine kV_drop [true, true, true, true, false] rfl ?_
  exact TX6_outcomes_L18 hG h
abbrev mX6_isOne : kM := (yX6_isOne, cX6_isOne, 1, (some .boolean))
theorem kmtX6_isOne : kMt mX6_isOne 1 := ⟨⟨(wi_r24 _ (List.mem_of_getElem? (i := 10) rfl)), (wi_r1 _ (List.mem_of_getElem? (i := 5) rfl)), ⟨by decide +kernel, by decide +kernel, by decide +kernel⟩, by decide⟩, (wi_r24 _ (List.mem_of_getElem? (i := 9) rfl))⟩
def FX6_isOne_J17 (S : kS) (s0 : Int32) : Option (Int32) :=
  kgd (kz s0) <| some s0
def FX6_isOne_J16 (S : kS) : Option (Int32) :=
  FX6_isOne_J17 S (0 : Int32)
def FX6_isOne (S : kS) (a1 : Int32) : Option (Int32) :=
  if a1 = 0 then (FX6_isOne_J16 S) else (if (a1 &&& (a1 - (1 : Int32))) = 0 then (FX6_isOne_J17 S (1 : Int32)) else (FX6_isOne_J16 S))
theorem TX6_isOne_J17 {G : kG} {n : Nat} {d : Nat} {X : kX} (hG : kg_N G = 55 + 14 * n) {S : kS} {s0 : Int32} {res : Int32} (h : FX6_isOne_J17 S s0 = some res) : kV (X, RX6, 1, (some .boolean), G, krm (d + 0), (0, 0), kQ X G (some (.int res)) (kgl G n S)) cX6_isOne (kgl G n S) [none] [.int s0] 17 := by
  unfold FX6_isOne_J17 at h
  obtain ⟨hz, h⟩ := kgd_ex h
  cases h
  exact kV_zret dX6_isOne_17 (of_decide_eq_true hz)
theorem TX6_isOne_J16 {G : kG} {n : Nat} {d : Nat} {X : kX} (hG : kg_N G = 55 + 14 * n) {S : kS} {res : Int32} (h : FX6_isOne_J16 S = some res) : kV (X, RX6, 1, (some .boolean), G, krm (d + 0), (0, 0), kQ X G (some (.int res)) (kgl G n S)) cX6_isOne (kgl G n S) [none] [] 16 := by
  unfold FX6_isOne_J16 at h
  refine kV_iconst 17 dX6_isOne_16 ic_0 rfl ?_
  refine kV_drop [false] rfl ?_
  exact TX6_isOne_J17 hG h
theorem okX6_isOne {l : Launch} {G : kG} {n : Nat} (hG : kg_N G = 55 + 14 * n) (d : Nat) {S : kS} {a1 : Int32} {res : Int32} (h : FX6_isOne S a1 = some res) : kEv l G (d + 0) mX6_isOne [.int a1] (kgl G n S) (some (.int res)) (kgl G n S) := by
  refine kEv_of RX6 [some (.int a1)] rfl (by decide +kernel) rfl rfl rfl rfl (fun X hX => ?_)
  subst hX
  unfold FX6_isOne at h
  refine kV_iloadn 1 dX6_isOne_0 rfl rfl ?_
  rcases kif_ex h with ⟨hc, h⟩ | ⟨hc, h⟩
  · refine kV_if_eq_t 16 dX6_isOne_1 (by decide) hc ?_
    clear hc
    refine kV_drop [false] rfl ?_
    exact TX6_isOne_J16 hG h
  · refine kV_if_eq_f 16 4 dX6_isOne_1 (by decide) hc rfl ?_
    clear hc
    refine kV_iloadn 5 dX6_isOne_4 rfl rfl ?_
    refine kV_iloadn 6 dX6_isOne_5 rfl rfl ?_
    refine kV_iconst 7 dX6_isOne_6 ic_1 rfl ?_
    refine kV_isub 8 dX6_isOne_7 rfl ?_
    refine kV_iand 9 dX6_isOne_8 rfl ?_
    rcases kif_ex h with ⟨hc, h⟩ | ⟨hc, h⟩
    · refine kV_if_ne_f 16 12 dX6_isOne_9 (by decide) hc rfl ?_
      clear hc
      refine kV_iconst 13 dX6_isOne_12 ic_1 rfl ?_
      refine kV_goto 17 dX6_isOne_13 (by decide) ?_
      refine kV_drop [false] rfl ?_
      exact TX6_isOne_J17 hG h
    · refine kV_if_ne_t 16 dX6_isOne_9 (by decide) hc ?_
      clear hc
      refine kV_drop [false] rfl ?_
      exact TX6_isOne_J16 hG h
abbrev mX6_reverts : kM := (yX6_reverts, cX6_reverts, 6, none)
theorem kmvX6_reverts : kMv mX6_reverts 4 6 := ⟨⟨(wi_r24 _ (List.mem_of_getElem? (i := 14) rfl)), (wi_r1 _ (List.mem_of_getElem? (i := 5) rfl)), ⟨by decide +kernel, by decide +kernel, by decide +kernel⟩, by decide⟩, (wi_r24 _ (List.mem_of_getElem? (i := 12) rfl)), (wi_r24 _ (List.mem_of_getElem? (i := 13) rfl)), rfl⟩
def FX6_reverts_J32 (S : kS) (v2 : Int32) (v3 : Int32) (v4 : Int32) (s0 : Int32) : Option (kS) :=
  kb (kpI S 5 43 s0) fun S1 => kgd (kin v2 15) <| kb (kpA S1 5 7 v2 v3) fun S2 => kgd (kin v2 15) <| kb (kpA S2 5 8 v2 (v4 &&& 1)) fun S3 => some S3
def FX6_reverts (S : kS) (a1 : Int32) (a2 : Int32) (a3 : Int32) (a4 : Int32) : Option (kS) :=
  (FX6_broken S a1).bind fun x1 => if x1 = (-1 : Int32) then (some S) else (kb (kI S 5 43) fun x2 => if x2 = (-1 : Int32) then (FX6_reverts_J32 S a2 a3 a4 x1) else (kb (kI S 5 43) fun x3 => FX6_reverts_J32 S a2 a3 a4 x3))
theorem TX6_reverts_J32 {G : kG} {n : Nat} {d : Nat} {X : kX} (hG : kg_N G = 55 + 14 * n) {S : kS} {v2 : Int32} {v3 : Int32} {v4 : Int32} {s0 : Int32} {res : kS} (h : FX6_reverts_J32 S v2 v3 v4 s0 = some res) : kV (X, RX6, 6, none, G, krm (d + 3), (0, 0), kQ X G none (kgl G n res)) cX6_reverts (kgl G n S) [some (.ref (kg_ad G (kbo 5))), none, some (.int v2), some (.int v3), some (.int v4), none] [.int s0, .ref (kg_ad G (kbo 5))] 32 := by
  unfold FX6_reverts_J32 at h
  obtain ⟨S1, hx, h⟩ := kb_ex h
  refine rp6_102 35 dX6_reverts_32 (kOk_of hG rfl) rfl hx rfl ?_
  clear hx
  refine kV_aloadn 36 dX6_reverts_35 rfl rfl ?_
  refine rg6_25 39 dX6_reverts_36 (kOk_of hG rfl) rfl rfl ?_
  refine kV_iloadn 40 dX6_reverts_39 rfl rfl ?_
  refine kV_iloadn 41 dX6_reverts_40 rfl rfl ?_
  obtain ⟨hi, h⟩ := kgd_ex h
  obtain ⟨S2, hx, h⟩ := kb_ex h
  refine rs6_7 42 dX6_reverts_41 (kOk_of hG rfl) rfl hi hx rfl ?_
  clear hi hx
  refine kV_aloadn 43 dX6_reverts_42 rfl rfl ?_
  refine rg6_28 46 dX6_reverts_43 (kOk_of hG rfl) rfl rfl ?_
  refine kV_iloadn 47 dX6_reverts_46 rfl rfl ?_
  refine kV_iload 49 dX6_reverts_47 rfl rfl ?_
  obtain ⟨hi, h⟩ := kgd_ex h
  obtain ⟨S3, hx, h⟩ := kb_ex h
  refine rs6_8 50 dX6_reverts_49 (kOk_of hG rfl) rfl hi hx rfl ?_
  clear hi hx
  cases h
  exact kV_vret dX6_reverts_50
theorem okX6_reverts {l : Launch} {G : kG} {n : Nat} (hG : kg_N G = 55 + 14 * n) (d : Nat) {S : kS} {a1 : Int32} {a2 : Int32} {a3 : Int32} {a4 : Int32} {res : kS} (h : FX6_reverts S a1 a2 a3 a4 = some res) : kEv l G (d + 3) mX6_reverts [.ref (kg_ad G (kbo 5)), .int a1, .int a2, .int a3, .int a4] (kgl G n S) none (kgl G n res) := by
  refine kEv_of RX6 [some (.ref (kg_ad G (kbo 5))), some (.int a1), some (.int a2), some (.int a3), some (.int a4), none] rfl (by decide +kernel) rfl rfl rfl rfl (fun X hX => ?_)
  subst hX
  unfold FX6_reverts at h
  refine kV_aloadn 1 dX6_reverts_0 rfl rfl ?_
  refine kV_iloadn 2 dX6_reverts_1 rfl rfl ?_
  obtain ⟨x1, hx, h⟩ := kbi_ex h
  refine kC_V 5 [] [.int x1] dX6_reverts_2 (okX6_broken hG d  hx) kmvX6_broken (wi_r24 _ (List.mem_of_getElem? (i := 15) rfl)) (kOk_of hG rfl) rfl rfl rfl rfl rfl rfl ?_
  clear hx
  refine kV_istore 7 [some (.ref (kg_ad G (kbo 5))), some (.int a1), some (.int a2), some (.int a3), some (.int a4), some (.int x1)] dX6_reverts_5 rfl rfl rfl ?_
  refine kV_iload 9 dX6_reverts_7 rfl rfl ?_
  refine kV_iconst 10 dX6_reverts_9 ic_m1 rfl ?_
  rcases kif_ex h with ⟨hc, h⟩ | ⟨hc, h⟩
  · refine kV_icmp_ne_f 14 13 dX6_reverts_10 (by decide) hc rfl ?_
    clear hc
    cases h
    exact kV_vret dX6_reverts_13
  · refine kV_icmp_ne_t 14 dX6_reverts_10 (by decide) hc ?_
    clear hc
    refine kV_aloadn 15 dX6_reverts_14 rfl rfl ?_
    refine kV_aloadn 16 dX6_reverts_15 rfl rfl ?_
    obtain ⟨x2, hx, h⟩ := kb_ex h
    refine rg6_102 19 dX6_reverts_16 (kOk_of hG rfl) rfl hx rfl ?_
    clear hx
    refine kV_iconst 20 dX6_reverts_19 ic_m1 rfl ?_
    rcases kif_ex h with ⟨hc, h⟩ | ⟨hc, h⟩
    · refine kV_icmp_ne_f 28 23 dX6_reverts_20 (by decide) hc rfl ?_
      clear hc
      refine kV_iload 25 dX6_reverts_23 rfl rfl ?_
      refine kV_goto 32 dX6_reverts_25 (by decide) ?_
      refine kV_drop [true, false, true, true, true, false] rfl ?_
      exact TX6_reverts_J32 hG h
    · refine kV_icmp_ne_t 28 dX6_reverts_20 (by decide) hc ?_
      clear hc
      refine kV_aloadn 29 dX6_reverts_28 rfl rfl ?_
      obtain ⟨x3, hx, h⟩ := kb_ex h
      refine rg6_102 32 dX6_reverts_29 (kOk_of hG rfl) rfl hx rfl ?_
      clear hx
      refine kV_drop [true, false, true, true, true, false] rfl ?_
      exact TX6_reverts_J32 hG h
abbrev mX6_fills : kM := (yX6_fills, cX6_fills, 8, none)
theorem kmvX6_fills : kMv mX6_fills 1 6 := ⟨⟨(wi_r23 _ (List.mem_of_getElem? (i := 23) rfl)), (wi_r1 _ (List.mem_of_getElem? (i := 5) rfl)), ⟨by decide +kernel, by decide +kernel, by decide +kernel⟩, by decide⟩, (wi_r23 _ (List.mem_of_getElem? (i := 21) rfl)), (wi_r23 _ (List.mem_of_getElem? (i := 22) rfl)), rfl⟩
def FX6_fills_J142 (c2 : kS × Int32 × Int32 → Option (kS)) (S : kS) (v1 : Int32) (v2 : Int32) : Option (kS) :=
  c2 (S, v1, (v2 + (1 : Int32)))
def FX6_fills_J131 (c2 : kS × Int32 × Int32 → Option (kS)) (S : kS) (v1 : Int32) (v2 : Int32) (v3 : Int32) (v6 : Int32) (v7 : Int32) (s0 : Int32) (s1 : Int32) : Option (kS) :=
  kgd (kin s1 15) <| kb (kpA S 5 7 s1 s0) fun S1 => (FX6_reverts S1 v1 v3 v6 v7).bind fun S2 => FX6_fills_J142 c2 S2 v1 v2
def FX6_fills_J121 (c2 : kS × Int32 × Int32 → Option (kS)) (S : kS) (v1 : Int32) (v2 : Int32) (v3 : Int32) (v5 : Int32) (v6 : Int32) (v7 : Int32) (s0 : Int32) : Option (kS) :=
  FX6_fills_J131 c2 S v1 v2 v3 v6 v7 v5 s0
def FX6_fills_J98 (c2 : kS × Int32 × Int32 → Option (kS)) (S : kS) (v1 : Int32) (v2 : Int32) (v3 : Int32) (v4 : Int32) (v5 : Int32) (v6 : Int32) (v7 : Int32) (s0 : Int32) (s1 : Int32) : Option (kS) :=
  kgd (kin s1 15) <| kb (kpA S 5 8 s1 (s0 &&& 1)) fun S1 => kgd (kin v3 15) <| kb (kA S1 5 8 v3) fun x1 => if x1 = 0 then (if (v4 &&& (16 : Int32)) = 0 then (FX6_fills_J121 c2 S1 v1 v2 v3 v5 v6 v7 v3) else (FX6_fills_J131 c2 S1 v1 v2 v3 v6 v7 (v5 ||| v6) v3)) else (FX6_fills_J121 c2 S1 v1 v2 v3 v5 v6 v7 v3)
def FX6_fills_J97 (c2 : kS × Int32 × Int32 → Option (kS)) (S : kS) (v1 : Int32) (v2 : Int32) (v3 : Int32) (v4 : Int32) (v5 : Int32) (v6 : Int32) (v7 : Int32) (s0 : Int32) : Option (kS) :=
  FX6_fills_J98 c2 S v1 v2 v3 v4 v5 v6 v7 (0 : Int32) s0
def FX6_fills_J39 (c2 : kS × Int32 × Int32 → Option (kS)) (S : kS) (v1 : Int32) (v2 : Int32) (v3 : Int32) (s0 : Int32) : Option (kS) :=
  if (s0 &&& (15 : Int32)) = 0 then (FX6_fills_J142 c2 S v1 v2) else (kgd (kin v3 15) <| kb (kA S 5 7 v3) fun x1 => kgd (kin v3 15) <| kb (kA S 5 8 v3) fun x2 => (FX6_isOne S (s0 &&& (15 : Int32))).bind fun x3 => if x3 = 0 then (FX6_fills_J97 c2 S v1 v2 v3 s0 (s0 &&& (15 : Int32)) x1 x2 v3) else (if (s0 &&& (16 : Int32)) = 0 then (FX6_fills_J98 c2 S v1 v2 v3 s0 (s0 &&& (15 : Int32)) x1 x2 (1 : Int32) v3) else (FX6_fills_J97 c2 S v1 v2 v3 s0 (s0 &&& (15 : Int32)) x1 x2 v3)))
def FX6_fills_B2 (c2 : kS × Int32 × Int32 → Option (kS)) (S : kS) (v1 : Int32) (v2 : Int32) : Option (kS) :=
  kgd (kin v1 3) <| kb (kA S 5 2 v1) fun x1 => if x1 ≤ v2 then (some S) else (kgd (kin (((5 : Int32) * v1) + v2) 15) <| kb (kA S 5 3 (((5 : Int32) * v1) + v2)) fun x2 => if x2 = (1 : Int32) then (FX6_fills_J39 c2 S v1 v2 (((5 : Int32) * v1) + v2) (16 : Int32)) else (kb2 (FX6_outcomes S v1 v2) fun x3 S1 => FX6_fills_J39 c2 S1 v1 v2 (((5 : Int32) * v1) + v2) x3))
def FX6_fills_L2 (S : kS) (v1 : Int32) (v2 : Int32) : Option (kS) :=
  kfix (fun rec (q : kS × Int32 × Int32) => FX6_fills_B2 rec q.1 q.2.1 q.2.2) kfuel (S, v1, v2)
def FX6_fills (S : kS) (a1 : Int32) : Option (kS) :=
  FX6_fills_L2 S a1 (0 : Int32)
theorem TX6_fills_J142 {G : kG} {n : Nat} {d : Nat} {X : kX} (hG : kg_N G = 55 + 14 * n) {c2 : kS × Int32 × Int32 → Option (kS)} {S : kS} (hc2 : ∀ (q : kS × Int32 × Int32) (res : kS), c2 q = some res → kV (X, RX6, 8, none, G, krm (d + 4), (0, 0), kQ X G none (kgl G n res)) cX6_fills (kgl G n q.1) [some (.ref (kg_ad G (kbo 5))), some (.int (q.2.1)), some (.int (q.2.2)), none, none, none, none, none] [] 2) {v1 : Int32} {v2 : Int32} {res : kS} (h : FX6_fills_J142 c2 S v1 v2 = some res) : kV (X, RX6, 8, none, G, krm (d + 4), (0, 0), kQ X G none (kgl G n res)) cX6_fills (kgl G n S) [some (.ref (kg_ad G (kbo 5))), some (.int v1), some (.int v2), none, none, none, none, none] [] 142 := by
  unfold FX6_fills_J142 at h
  refine kV_iinc 145 [some (.ref (kg_ad G (kbo 5))), some (.int v1), some (.int (v2 + (1 : Int32))), none, none, none, none, none] dX6_fills_142 rfl (kinc_1 _) rfl rfl rfl ?_
  refine kV_goto 2 dX6_fills_145 (by decide) ?_
  refine kV_drop [true, true, true, false, false, false, false, false] rfl ?_
  exact hc2 _ _ h
theorem TX6_fills_J131 {G : kG} {n : Nat} {d : Nat} {X : kX} (hG : kg_N G = 55 + 14 * n) {c2 : kS × Int32 × Int32 → Option (kS)} {S : kS} (hc2 : ∀ (q : kS × Int32 × Int32) (res : kS), c2 q = some res → kV (X, RX6, 8, none, G, krm (d + 4), (0, 0), kQ X G none (kgl G n res)) cX6_fills (kgl G n q.1) [some (.ref (kg_ad G (kbo 5))), some (.int (q.2.1)), some (.int (q.2.2)), none, none, none, none, none] [] 2) {v1 : Int32} {v2 : Int32} {v3 : Int32} {v6 : Int32} {v7 : Int32} {s0 : Int32} {s1 : Int32} {res : kS} (h : FX6_fills_J131 c2 S v1 v2 v3 v6 v7 s0 s1 = some res) : kV (X, RX6, 8, none, G, krm (d + 4), (0, 0), kQ X G none (kgl G n res)) cX6_fills (kgl G n S) [some (.ref (kg_ad G (kbo 5))), some (.int v1), some (.int v2), some (.int v3), none, none, some (.int v6), some (.int v7)] [.int s0, .int s1, .ref (kg_ad G (kbo 5 + 6))] 131 := by
  unfold FX6_fills_J131 at h
  obtain ⟨hi, h⟩ := kgd_ex h
  obtain ⟨S1, hx, h⟩ := kb_ex h
  refine rs6_7 132 dX6_fills_131 (kOk_of hG rfl) rfl hi hx rfl ?_
  clear hi hx
  refine kV_aloadn 133 dX6_fills_132 rfl rfl ?_
  refine kV_iloadn 134 dX6_fills_133 rfl rfl ?_
  refine kV_iloadn 135 dX6_fills_134 rfl rfl ?_
  refine kV_iload 137 dX6_fills_135 rfl rfl ?_
  refine kV_iload 139 dX6_fills_137 rfl rfl ?_
  obtain ⟨S2, hx, h⟩ := kbi_ex h
  refine kC_V 142 [] [] dX6_fills_139 (okX6_reverts hG d  hx) kmvX6_reverts (wi_r24 _ (List.mem_of_getElem? (i := 11) rfl)) (kOk_of hG rfl) rfl rfl rfl rfl rfl rfl ?_
  clear hx
  refine kV_drop [true, true, true, false, false, false, false, false] rfl ?_
  exact TX6_fills_J142 hG hc2 h
theorem TX6_fills_J121 {G : kG} {n : Nat} {d : Nat} {X : kX} (hG : kg_N G = 55 + 14 * n) {c2 : kS × Int32 × Int32 → Option (kS)} {S : kS} (hc2 : ∀ (q : kS × Int32 × Int32) (res : kS), c2 q = some res → kV (X, RX6, 8, none, G, krm (d + 4), (0, 0), kQ X G none (kgl G n res)) cX6_fills (kgl G n q.1) [some (.ref (kg_ad G (kbo 5))), some (.int (q.2.1)), some (.int (q.2.2)), none, none, none, none, none] [] 2) {v1 : Int32} {v2 : Int32} {v3 : Int32} {v5 : Int32} {v6 : Int32} {v7 : Int32} {s0 : Int32} {res : kS} (h : FX6_fills_J121 c2 S v1 v2 v3 v5 v6 v7 s0 = some res) : kV (X, RX6, 8, none, G, krm (d + 4), (0, 0), kQ X G none (kgl G n res)) cX6_fills (kgl G n S) [some (.ref (kg_ad G (kbo 5))), some (.int v1), some (.int v2), some (.int v3), none, some (.int v5), some (.int v6), some (.int v7)] [.int s0, .ref (kg_ad G (kbo 5 + 6))] 121 := by
  unfold FX6_fills_J121 at h
  refine kV_iload 123 dX6_fills_121 rfl rfl ?_
  refine kV_goto 131 dX6_fills_123 (by decide) ?_
  refine kV_drop [true, true, true, true, false, false, true, true] rfl ?_
  exact TX6_fills_J131 hG hc2 h
theorem TX6_fills_J98 {G : kG} {n : Nat} {d : Nat} {X : kX} (hG : kg_N G = 55 + 14 * n) {c2 : kS × Int32 × Int32 → Option (kS)} {S : kS} (hc2 : ∀ (q : kS × Int32 × Int32) (res : kS), c2 q = some res → kV (X, RX6, 8, none, G, krm (d + 4), (0, 0), kQ X G none (kgl G n res)) cX6_fills (kgl G n q.1) [some (.ref (kg_ad G (kbo 5))), some (.int (q.2.1)), some (.int (q.2.2)), none, none, none, none, none] [] 2) {v1 : Int32} {v2 : Int32} {v3 : Int32} {v4 : Int32} {v5 : Int32} {v6 : Int32} {v7 : Int32} {s0 : Int32} {s1 : Int32} {res : kS} (h : FX6_fills_J98 c2 S v1 v2 v3 v4 v5 v6 v7 s0 s1 = some res) : kV (X, RX6, 8, none, G, krm (d + 4), (0, 0), kQ X G none (kgl G n res)) cX6_fills (kgl G n S) [some (.ref (kg_ad G (kbo 5))), some (.int v1), some (.int v2), some (.int v3), some (.int v4), some (.int v5), some (.int v6), some (.int v7)] [.int s0, .int s1, .ref (kg_ad G (kbo 5 + 7))] 98 := by
  unfold FX6_fills_J98 at h
  obtain ⟨hi, h⟩ := kgd_ex h
  obtain ⟨S1, hx, h⟩ := kb_ex h
  refine rs6_8 99 dX6_fills_98 (kOk_of hG rfl) rfl hi hx rfl ?_
  clear hi hx
  refine kV_aloadn 100 dX6_fills_99 rfl rfl ?_
  refine rg6_25 103 dX6_fills_100 (kOk_of hG rfl) rfl rfl ?_
  refine kV_iloadn 104 dX6_fills_103 rfl rfl ?_
  refine kV_aloadn 105 dX6_fills_104 rfl rfl ?_
  refine rg6_28 108 dX6_fills_105 (kOk_of hG rfl) rfl rfl ?_
  refine kV_iloadn 109 dX6_fills_108 rfl rfl ?_
  obtain ⟨hi, h⟩ := kgd_ex h
  obtain ⟨x1, hx, h⟩ := kb_ex h
  refine rl6_8 110 dX6_fills_109 (kOk_of hG rfl) rfl hi hx rfl ?_
  clear hi hx
  rcases kif_ex h with ⟨hc, h⟩ | ⟨hc, h⟩
  · refine kV_if_ne_f 121 113 dX6_fills_110 (by decide) hc rfl ?_
    clear hc
    refine kV_iload 115 dX6_fills_113 rfl rfl ?_
    refine kV_bipush 117 dX6_fills_115 bp_16 rfl ?_
    refine kV_iand 118 dX6_fills_117 rfl ?_
    rcases kif_ex h with ⟨hc, h⟩ | ⟨hc, h⟩
    · refine kV_if_ne_f 126 121 dX6_fills_118 (by decide) hc rfl ?_
      clear hc
      refine kV_drop [true, true, true, true, false, true, true, true] rfl ?_
      exact TX6_fills_J121 hG hc2 h
    · refine kV_if_ne_t 126 dX6_fills_118 (by decide) hc ?_
      clear hc
      refine kV_iload 128 dX6_fills_126 rfl rfl ?_
      refine kV_iload 130 dX6_fills_128 rfl rfl ?_
      refine kV_ior 131 dX6_fills_130 rfl ?_
      refine kV_drop [true, true, true, true, false, false, true, true] rfl ?_
      exact TX6_fills_J131 hG hc2 h
  · refine kV_if_ne_t 121 dX6_fills_110 (by decide) hc ?_
    clear hc
    refine kV_drop [true, true, true, true, false, true, true, true] rfl ?_
    exact TX6_fills_J121 hG hc2 h
theorem TX6_fills_J97 {G : kG} {n : Nat} {d : Nat} {X : kX} (hG : kg_N G = 55 + 14 * n) {c2 : kS × Int32 × Int32 → Option (kS)} {S : kS} (hc2 : ∀ (q : kS × Int32 × Int32) (res : kS), c2 q = some res → kV (X, RX6, 8, none, G, krm (d + 4), (0, 0), kQ X G none (kgl G n res)) cX6_fills (kgl G n q.1) [some (.ref (kg_ad G (kbo 5))), some (.int (q.2.1)), some (.int (q.2.2)), none, none, none, none, none] [] 2) {v1 : Int32} {v2 : Int32} {v3 : Int32} {v4 : Int32} {v5 : Int32} {v6 : Int32} {v7 : Int32} {s0 : Int32} {res : kS} (h : FX6_fills_J97 c2 S v1 v2 v3 v4 v5 v6 v7 s0 = some res) : kV (X, RX6, 8, none, G, krm (d + 4), (0, 0), kQ X G none (kgl G n res)) cX6_fills (kgl G n S) [some (.ref (kg_ad G (kbo 5))), some (.int v1), some (.int v2), some (.int v3), some (.int v4), some (.int v5), some (.int v6), some (.int v7)] [.int s0, .ref (kg_ad G (kbo 5 + 7))] 97 := by
  unfold FX6_fills_J97 at h
  refine kV_iconst 98 dX6_fills_97 ic_0 rfl ?_
  refine kV_drop [true, true, true, true, true, true, true, true] rfl ?_
  exact TX6_fills_J98 hG hc2 h
theorem TX6_fills_J39 {G : kG} {n : Nat} {d : Nat} {X : kX} (hG : kg_N G = 55 + 14 * n) {c2 : kS × Int32 × Int32 → Option (kS)} {S : kS} (hc2 : ∀ (q : kS × Int32 × Int32) (res : kS), c2 q = some res → kV (X, RX6, 8, none, G, krm (d + 4), (0, 0), kQ X G none (kgl G n res)) cX6_fills (kgl G n q.1) [some (.ref (kg_ad G (kbo 5))), some (.int (q.2.1)), some (.int (q.2.2)), none, none, none, none, none] [] 2) {v1 : Int32} {v2 : Int32} {v3 : Int32} {s0 : Int32} {res : kS} (h : FX6_fills_J39 c2 S v1 v2 v3 s0 = some res) : kV (X, RX6, 8, none, G, krm (d + 4), (0, 0), kQ X G none (kgl G n res)) cX6_fills (kgl G n S) [some (.ref (kg_ad G (kbo 5))), some (.int v1), some (.int v2), some (.int v3), none, none, none, none] [.int s0] 39 := by
  unfold FX6_fills_J39 at h
  refine kV_istore 41 [some (.ref (kg_ad G (kbo 5))), some (.int v1), some (.int v2), some (.int v3), some (.int s0), none, none, none] dX6_fills_39 rfl rfl rfl ?_
  refine kV_iload 43 dX6_fills_41 rfl rfl ?_
  refine kV_bipush 45 dX6_fills_43 bp_15 rfl ?_
  refine kV_iand 46 dX6_fills_45 rfl ?_
  refine kV_istore 48 [some (.ref (kg_ad G (kbo 5))), some (.int v1), some (.int v2), some (.int v3), some (.int s0), some (.int (s0 &&& (15 : Int32))), none, none] dX6_fills_46 rfl rfl rfl ?_
  refine kV_iload 50 dX6_fills_48 rfl rfl ?_
  rcases kif_ex h with ⟨hc, h⟩ | ⟨hc, h⟩
  · refine kV_if_ne_f 56 53 dX6_fills_50 (by decide) hc rfl ?_
    clear hc
    refine kV_goto 142 dX6_fills_53 (by decide) ?_
    refine kV_drop [true, true, true, false, false, false, false, false] rfl ?_
    exact TX6_fills_J142 hG hc2 h
  · refine kV_if_ne_t 56 dX6_fills_50 (by decide) hc ?_
    clear hc
    refine kV_aloadn 57 dX6_fills_56 rfl rfl ?_
    refine rg6_25 60 dX6_fills_57 (kOk_of hG rfl) rfl rfl ?_
    refine kV_iloadn 61 dX6_fills_60 rfl rfl ?_
    obtain ⟨hi, h⟩ := kgd_ex h
    obtain ⟨x1, hx, h⟩ := kb_ex h
    refine rl6_7 62 dX6_fills_61 (kOk_of hG rfl) rfl hi hx rfl ?_
    clear hi hx
    refine kV_istore 64 [some (.ref (kg_ad G (kbo 5))), some (.int v1), some (.int v2), some (.int v3), some (.int s0), some (.int (s0 &&& (15 : Int32))), some (.int x1), none] dX6_fills_62 rfl rfl rfl ?_
    refine kV_aloadn 65 dX6_fills_64 rfl rfl ?_
    refine rg6_28 68 dX6_fills_65 (kOk_of hG rfl) rfl rfl ?_
    refine kV_iloadn 69 dX6_fills_68 rfl rfl ?_
    obtain ⟨hi, h⟩ := kgd_ex h
    obtain ⟨x2, hx, h⟩ := kb_ex h
    refine rl6_8 70 dX6_fills_69 (kOk_of hG rfl) rfl hi hx rfl ?_
    clear hi hx
    refine kV_istore 72 [some (.ref (kg_ad G (kbo 5))), some (.int v1), some (.int v2), some (.int v3), some (.int s0), some (.int (s0 &&& (15 : Int32))), some (.int x1), some (.int x2)] dX6_fills_70 rfl rfl rfl ?_
    refine kV_aloadn 73 dX6_fills_72 rfl rfl ?_
    refine rg6_28 76 dX6_fills_73 (kOk_of hG rfl) rfl rfl ?_
    refine kV_iloadn 77 dX6_fills_76 rfl rfl ?_
    refine kV_iload 79 dX6_fills_77 rfl rfl ?_
    obtain ⟨x3, hx, h⟩ := kbi_ex h
    refine kC_S 82 [.int v3, .ref (kg_ad G (kbo 5 + 7))] [.int x3, .int v3, .ref (kg_ad G (kbo 5 + 7))] dX6_fills_79 (okX6_isOne hG (d + 3)  hx) kmtX6_isOne (wi_r24 _ (List.mem_of_getElem? (i := 8) rfl)) rfl rfl rfl rfl rfl ?_
    clear hx
    rcases kif_ex h with ⟨hc, h⟩ | ⟨hc, h⟩
    · refine kV_if_eq_t 97 dX6_fills_82 (by decide) hc ?_
      clear hc
      refine kV_drop [true, true, true, true, true, true, true, true] rfl ?_
      exact TX6_fills_J97 hG hc2 h
    · refine kV_if_eq_f 97 85 dX6_fills_82 (by decide) hc rfl ?_
      clear hc
      refine kV_iload 87 dX6_fills_85 rfl rfl ?_
      refine kV_bipush 89 dX6_fills_87 bp_16 rfl ?_
      refine kV_iand 90 dX6_fills_89 rfl ?_
      rcases kif_ex h with ⟨hc, h⟩ | ⟨hc, h⟩
      · refine kV_if_ne_f 97 93 dX6_fills_90 (by decide) hc rfl ?_
        clear hc
        refine kV_iconst 94 dX6_fills_93 ic_1 rfl ?_
        refine kV_goto 98 dX6_fills_94 (by decide) ?_
        refine kV_drop [true, true, true, true, true, true, true, true] rfl ?_
        exact TX6_fills_J98 hG hc2 h
      · refine kV_if_ne_t 97 dX6_fills_90 (by decide) hc ?_
        clear hc
        refine kV_drop [true, true, true, true, true, true, true, true] rfl ?_
        exact TX6_fills_J97 hG hc2 h
theorem TX6_fills_B2 {G : kG} {n : Nat} {d : Nat} {X : kX} (hG : kg_N G = 55 + 14 * n) {c2 : kS × Int32 × Int32 → Option (kS)} (hc2 : ∀ (q : kS × Int32 × Int32) (res : kS), c2 q = some res → kV (X, RX6, 8, none, G, krm (d + 4), (0, 0), kQ X G none (kgl G n res)) cX6_fills (kgl G n q.1) [some (.ref (kg_ad G (kbo 5))), some (.int (q.2.1)), some (.int (q.2.2)), none, none, none, none, none] [] 2) {S : kS} {v1 : Int32} {v2 : Int32} {res : kS} (h : FX6_fills_B2 c2 S v1 v2 = some res) : kV (X, RX6, 8, none, G, krm (d + 4), (0, 0), kQ X G none (kgl G n res)) cX6_fills (kgl G n S) [some (.ref (kg_ad G (kbo 5))), some (.int v1), some (.int v2), none, none, none, none, none] [] 2 := by
  unfold FX6_fills_B2 at h
  refine kV_iloadn 3 dX6_fills_2 rfl rfl ?_
  refine kV_aloadn 4 dX6_fills_3 rfl rfl ?_
  refine rg6_7 7 dX6_fills_4 (kOk_of hG rfl) rfl rfl ?_
  refine kV_iloadn 8 dX6_fills_7 rfl rfl ?_
  obtain ⟨hi, h⟩ := kgd_ex h
  obtain ⟨x1, hx, h⟩ := kb_ex h
  refine rl6_2 9 dX6_fills_8 (kOk_of hG rfl) rfl hi hx rfl ?_
  clear hi hx
  rcases kif_ex h with ⟨hc, h⟩ | ⟨hc, h⟩
  · refine kV_icmp_ge_t 148 dX6_fills_9 (by decide) hc ?_
    clear hc
    cases h
    exact kV_vret dX6_fills_148
  · refine kV_icmp_ge_f 148 12 dX6_fills_9 (by decide) hc rfl ?_
    clear hc
    refine kV_iconst 13 dX6_fills_12 ic_5 rfl ?_
    refine kV_iloadn 14 dX6_fills_13 rfl rfl ?_
    refine kV_imul 15 dX6_fills_14 rfl ?_
    refine kV_iloadn 16 dX6_fills_15 rfl rfl ?_
    refine kV_iadd 17 dX6_fills_16 rfl ?_
    refine kV_istoren 18 [some (.ref (kg_ad G (kbo 5))), some (.int v1), some (.int v2), some (.int (((5 : Int32) * v1) + v2)), none, none, none, none] dX6_fills_17 rfl rfl rfl ?_
    refine kV_aloadn 19 dX6_fills_18 rfl rfl ?_
    refine rg6_13 22 dX6_fills_19 (kOk_of hG rfl) rfl rfl ?_
    refine kV_iloadn 23 dX6_fills_22 rfl rfl ?_
    obtain ⟨hi, h⟩ := kgd_ex h
    obtain ⟨x2, hx, h⟩ := kb_ex h
    refine rl6_3 24 dX6_fills_23 (kOk_of hG rfl) rfl hi hx rfl ?_
    clear hi hx
    refine kV_iconst 25 dX6_fills_24 ic_1 rfl ?_
    rcases kif_ex h with ⟨hc, h⟩ | ⟨hc, h⟩
    · refine kV_icmp_ne_f 33 28 dX6_fills_25 (by decide) hc rfl ?_
      clear hc
      refine kV_bipush 30 dX6_fills_28 bp_16 rfl ?_
      refine kV_goto 39 dX6_fills_30 (by decide) ?_
      refine kV_drop [true, true, true, true, false, false, false, false] rfl ?_
      exact TX6_fills_J39 hG hc2 h
    · refine kV_icmp_ne_t 33 dX6_fills_25 (by decide) hc ?_
      clear hc
      refine kV_aloadn 34 dX6_fills_33 rfl rfl ?_
      refine kV_iloadn 35 dX6_fills_34 rfl rfl ?_
      refine kV_iloadn 36 dX6_fills_35 rfl rfl ?_
      obtain ⟨x3, S1, hx, h⟩ := kb2_ex h
      refine kC_V 39 [] [.int x3] dX6_fills_36 (okX6_outcomes hG (d + 1)  hx) kmvX6_outcomes (wi_r24 _ (List.mem_of_getElem? (i := 0) rfl)) (kOk_of hG rfl) rfl rfl rfl rfl rfl rfl ?_
      clear hx
      refine kV_drop [true, true, true, true, false, false, false, false] rfl ?_
      exact TX6_fills_J39 hG hc2 h
theorem TX6_fills_L2 {G : kG} {n : Nat} {d : Nat} {X : kX} (hG : kg_N G = 55 + 14 * n) {S : kS} {v1 : Int32} {v2 : Int32} {res : kS} (h : FX6_fills_L2 S v1 v2 = some res) : kV (X, RX6, 8, none, G, krm (d + 4), (0, 0), kQ X G none (kgl G n res)) cX6_fills (kgl G n S) [some (.ref (kg_ad G (kbo 5))), some (.int v1), some (.int v2), none, none, none, none, none] [] 2 := by
  unfold FX6_fills_L2 at h
  exact kfix_ok (P := fun (q : kS × Int32 × Int32) (res : kS) => kV (X, RX6, 8, none, G, krm (d + 4), (0, 0), kQ X G none (kgl G n res)) cX6_fills (kgl G n q.1) [some (.ref (kg_ad G (kbo 5))), some (.int (q.2.1)), some (.int (q.2.2)), none, none, none, none, none] [] 2) (fun rec hrec q res hq => TX6_fills_B2 hG hrec hq) kfuel _ _ h
theorem okX6_fills {l : Launch} {G : kG} {n : Nat} (hG : kg_N G = 55 + 14 * n) (d : Nat) {S : kS} {a1 : Int32} {res : kS} (h : FX6_fills S a1 = some res) : kEv l G (d + 4) mX6_fills [.ref (kg_ad G (kbo 5)), .int a1] (kgl G n S) none (kgl G n res) := by
  refine kEv_of RX6 [some (.ref (kg_ad G (kbo 5))), some (.int a1), none, none, none, none, none, none] rfl (by decide +kernel) rfl rfl rfl rfl (fun X hX => ?_)
  subst hX
  unfold FX6_fills at h
  refine kV_iconst 1 dX6_fills_0 ic_0 rfl ?_
  refine kV_istoren 2 [some (.ref (kg_ad G (kbo 5))), some (.int a1), some (.int (0 : Int32)), none, none, none, none, none] dX6_fills_1 rfl rfl rfl ?_
  refine kV_drop [true, true, true, false, false, false, false, false] rfl ?_
  exact TX6_fills_L2 hG h
abbrev mX6_isAll : kM := (yX6_isAll, cX6_isAll, 5, (some .boolean))
theorem kmvX6_isAll : kMv mX6_isAll 2 6 := ⟨⟨(wi_r25 _ (List.mem_of_getElem? (i := 10) rfl)), (wi_r1 _ (List.mem_of_getElem? (i := 5) rfl)), ⟨by decide +kernel, by decide +kernel, by decide +kernel⟩, by decide⟩, (wi_r25 _ (List.mem_of_getElem? (i := 8) rfl)), (wi_r25 _ (List.mem_of_getElem? (i := 9) rfl)), rfl⟩
def FX6_isAll_J56 (c5 : Int32 × Int32 × Int32 × Int32 → Option (Int32)) (S : kS) (v1 : Int32) (v2 : Int32) (v4 : Int32) (s0 : Int32) (s1 : Int32) : Option (Int32) :=
  c5 (v1, v2, (s1 + s0), (v4 + (1 : Int32)))
def FX6_isAll_J83 (S : kS) (s0 : Int32) : Option (Int32) :=
  kgd (kz s0) <| some s0
def FX6_isAll_J82 (S : kS) : Option (Int32) :=
  FX6_isAll_J83 S (0 : Int32)
def FX6_isAll_J55 (c5 : Int32 × Int32 × Int32 × Int32 → Option (Int32)) (S : kS) (v1 : Int32) (v2 : Int32) (v4 : Int32) (s0 : Int32) : Option (Int32) :=
  FX6_isAll_J56 c5 S v1 v2 v4 (0 : Int32) s0
def FX6_isAll_B5 (c5 : Int32 × Int32 × Int32 × Int32 → Option (Int32)) (S : kS) (v1 : Int32) (v2 : Int32) (v3 : Int32) (v4 : Int32) : Option (Int32) :=
  kb (kI S 5 16) fun x1 => if x1 ≤ v4 then (if v3 ≤ 0 then (FX6_isAll_J82 S) else (kgd (kin (0 : Int32) 9) <| kb (kA S 5 35 (0 : Int32)) fun x2 => if v3 = x2 then (FX6_isAll_J83 S (1 : Int32)) else (FX6_isAll_J82 S))) else (kgd (kin v4 20) <| kb (kA S 5 20 v4) fun x3 => kb (kI S 5 33) fun x4 => if x3 = x4 then ((FX6_isLeast S v4 (0 : Int32) v1).bind fun x5 => if x5 = 0 then (FX6_isAll_J55 c5 S v1 v2 v4 v3) else (kgd (kin v4 20) <| kb (kA S 5 19 v4) fun x6 => if x6 = v2 then (FX6_isAll_J56 c5 S v1 v2 v4 (1 : Int32) v3) else (FX6_isAll_J55 c5 S v1 v2 v4 v3))) else (FX6_isAll_J55 c5 S v1 v2 v4 v3))
def FX6_isAll_L5 (S : kS) (v1 : Int32) (v2 : Int32) (v3 : Int32) (v4 : Int32) : Option (Int32) :=
  kfix (fun rec (q : Int32 × Int32 × Int32 × Int32) => FX6_isAll_B5 rec S q.1 q.2.1 q.2.2.1 q.2.2.2) kfuel (v1, v2, v3, v4)
def FX6_isAll (S : kS) (a1 : Int32) (a2 : Int32) : Option (Int32) :=
  FX6_isAll_L5 S a1 a2 (0 : Int32) (0 : Int32)
theorem TX6_isAll_J56 {G : kG} {n : Nat} {d : Nat} {X : kX} (hG : kg_N G = 55 + 14 * n) {c5 : Int32 × Int32 × Int32 × Int32 → Option (Int32)} {S : kS} (hc5 : ∀ (q : Int32 × Int32 × Int32 × Int32) (res : Int32), c5 q = some res → kV (X, RX6, 5, (some .boolean), G, krm (d + 2), (0, 0), kQ X G (some (.int res)) (kgl G n S)) cX6_isAll (kgl G n S) [some (.ref (kg_ad G (kbo 5))), some (.int (q.1)), some (.int (q.2.1)), some (.int (q.2.2.1)), some (.int (q.2.2.2))] [] 5) {v1 : Int32} {v2 : Int32} {v4 : Int32} {s0 : Int32} {s1 : Int32} {res : Int32} (h : FX6_isAll_J56 c5 S v1 v2 v4 s0 s1 = some res) : kV (X, RX6, 5, (some .boolean), G, krm (d + 2), (0, 0), kQ X G (some (.int res)) (kgl G n S)) cX6_isAll (kgl G n S) [some (.ref (kg_ad G (kbo 5))), some (.int v1), some (.int v2), none, some (.int v4)] [.int s0, .int s1] 56 := by
  unfold FX6_isAll_J56 at h
  refine kV_iadd 57 dX6_isAll_56 rfl ?_
  refine kV_istoren 58 [some (.ref (kg_ad G (kbo 5))), some (.int v1), some (.int v2), some (.int (s1 + s0)), some (.int v4)] dX6_isAll_57 rfl rfl rfl ?_
  refine kV_iinc 61 [some (.ref (kg_ad G (kbo 5))), some (.int v1), some (.int v2), some (.int (s1 + s0)), some (.int (v4 + (1 : Int32)))] dX6_isAll_58 rfl (kinc_1 _) rfl rfl rfl ?_
  refine kV_goto 5 dX6_isAll_61 (by decide) ?_
  refine kV_drop [true, true, true, true, true] rfl ?_
  exact hc5 _ _ h
theorem TX6_isAll_J83 {G : kG} {n : Nat} {d : Nat} {X : kX} (hG : kg_N G = 55 + 14 * n) {S : kS} {s0 : Int32} {res : Int32} (h : FX6_isAll_J83 S s0 = some res) : kV (X, RX6, 5, (some .boolean), G, krm (d + 2), (0, 0), kQ X G (some (.int res)) (kgl G n S)) cX6_isAll (kgl G n S) [none, none, none, none, none] [.int s0] 83 := by
  unfold FX6_isAll_J83 at h
  obtain ⟨hz, h⟩ := kgd_ex h
  cases h
  exact kV_zret dX6_isAll_83 (of_decide_eq_true hz)
theorem TX6_isAll_J82 {G : kG} {n : Nat} {d : Nat} {X : kX} (hG : kg_N G = 55 + 14 * n) {S : kS} {res : Int32} (h : FX6_isAll_J82 S = some res) : kV (X, RX6, 5, (some .boolean), G, krm (d + 2), (0, 0), kQ X G (some (.int res)) (kgl G n S)) cX6_isAll (kgl G n S) [none, none, none, none, none] [] 82 := by
  unfold FX6_isAll_J82 at h
  refine kV_iconst 83 dX6_isAll_82 ic_0 rfl ?_
  refine kV_drop [false, false, false, false, false] rfl ?_
  exact TX6_isAll_J83 hG h
theorem TX6_isAll_J55 {G : kG} {n : Nat} {d : Nat} {X : kX} (hG : kg_N G = 55 + 14 * n) {c5 : Int32 × Int32 × Int32 × Int32 → Option (Int32)} {S : kS} (hc5 : ∀ (q : Int32 × Int32 × Int32 × Int32) (res : Int32), c5 q = some res → kV (X, RX6, 5, (some .boolean), G, krm (d + 2), (0, 0), kQ X G (some (.int res)) (kgl G n S)) cX6_isAll (kgl G n S) [some (.ref (kg_ad G (kbo 5))), some (.int (q.1)), some (.int (q.2.1)), some (.int (q.2.2.1)), some (.int (q.2.2.2))] [] 5) {v1 : Int32} {v2 : Int32} {v4 : Int32} {s0 : Int32} {res : Int32} (h : FX6_isAll_J55 c5 S v1 v2 v4 s0 = some res) : kV (X, RX6, 5, (some .boolean), G, krm (d + 2), (0, 0), kQ X G (some (.int res)) (kgl G n S)) cX6_isAll (kgl G n S) [some (.ref (kg_ad G (kbo 5))), some (.int v1), some (.int v2), none, some (.int v4)] [.int s0] 55 := by
  unfold FX6_isAll_J55 at h
  refine kV_iconst 56 dX6_isAll_55 ic_0 rfl ?_
  refine kV_drop [true, true, true, false, true] rfl ?_
  exact TX6_isAll_J56 hG hc5 h
theorem TX6_isAll_B5 {G : kG} {n : Nat} {d : Nat} {X : kX} (hG : kg_N G = 55 + 14 * n) {S : kS} {c5 : Int32 × Int32 × Int32 × Int32 → Option (Int32)} (hc5 : ∀ (q : Int32 × Int32 × Int32 × Int32) (res : Int32), c5 q = some res → kV (X, RX6, 5, (some .boolean), G, krm (d + 2), (0, 0), kQ X G (some (.int res)) (kgl G n S)) cX6_isAll (kgl G n S) [some (.ref (kg_ad G (kbo 5))), some (.int (q.1)), some (.int (q.2.1)), some (.int (q.2.2.1)), some (.int (q.2.2.2))] [] 5) {v1 : Int32} {v2 : Int32} {v3 : Int32} {v4 : Int32} {res : Int32} (h : FX6_isAll_B5 c5 S v1 v2 v3 v4 = some res) : kV (X, RX6, 5, (some .boolean), G, krm (d + 2), (0, 0), kQ X G (some (.int res)) (kgl G n S)) cX6_isAll (kgl G n S) [some (.ref (kg_ad G (kbo 5))), some (.int v1), some (.int v2), some (.int v3), some (.int v4)] [] 5 := by
  unfold FX6_isAll_B5 at h
  refine kV_iload 7 dX6_isAll_5 rfl rfl ?_
  refine kV_aloadn 8 dX6_isAll_7 rfl rfl ?_
  obtain ⟨x1, hx, h⟩ := kb_ex h
  refine rg6_146 11 dX6_isAll_8 (kOk_of hG rfl) rfl hx rfl ?_
  clear hx
  rcases kif_ex h with ⟨hc, h⟩ | ⟨hc, h⟩
  · refine kV_icmp_ge_t 64 dX6_isAll_11 (by decide) hc ?_
    clear hc
    refine kV_iloadn 65 dX6_isAll_64 rfl rfl ?_
    rcases kif_ex h with ⟨hc, h⟩ | ⟨hc, h⟩
    · refine kV_if_le_t 82 dX6_isAll_65 (by decide) hc ?_
      clear hc
      refine kV_drop [false, false, false, false, false] rfl ?_
      exact TX6_isAll_J82 hG h
    · refine kV_if_le_f 82 68 dX6_isAll_65 (by decide) hc rfl ?_
      clear hc
      refine kV_iloadn 69 dX6_isAll_68 rfl rfl ?_
      refine kV_aloadn 70 dX6_isAll_69 rfl rfl ?_
      refine rg6_90 73 dX6_isAll_70 (kOk_of hG rfl) rfl rfl ?_
      refine kV_iconst 74 dX6_isAll_73 ic_0 rfl ?_
      obtain ⟨hi, h⟩ := kgd_ex h
      obtain ⟨x2, hx, h⟩ := kb_ex h
      refine rl6_35 75 dX6_isAll_74 (kOk_of hG rfl) rfl hi hx rfl ?_
      clear hi hx
      rcases kif_ex h with ⟨hc, h⟩ | ⟨hc, h⟩
      · refine kV_icmp_ne_f 82 78 dX6_isAll_75 (by decide) hc rfl ?_
        clear hc
        refine kV_iconst 79 dX6_isAll_78 ic_1 rfl ?_
        refine kV_goto 83 dX6_isAll_79 (by decide) ?_
        refine kV_drop [false, false, false, false, false] rfl ?_
        exact TX6_isAll_J83 hG h
      · refine kV_icmp_ne_t 82 dX6_isAll_75 (by decide) hc ?_
        clear hc
        refine kV_drop [false, false, false, false, false] rfl ?_
        exact TX6_isAll_J82 hG h
  · refine kV_icmp_ge_f 64 14 dX6_isAll_11 (by decide) hc rfl ?_
    clear hc
    refine kV_iloadn 15 dX6_isAll_14 rfl rfl ?_
    refine kV_aloadn 16 dX6_isAll_15 rfl rfl ?_
    refine rg6_62 19 dX6_isAll_16 (kOk_of hG rfl) rfl rfl ?_
    refine kV_iload 21 dX6_isAll_19 rfl rfl ?_
    obtain ⟨hi, h⟩ := kgd_ex h
    obtain ⟨x3, hx, h⟩ := kb_ex h
    refine rl6_20 22 dX6_isAll_21 (kOk_of hG rfl) rfl hi hx rfl ?_
    clear hi hx
    refine kV_aloadn 23 dX6_isAll_22 rfl rfl ?_
    obtain ⟨x4, hx, h⟩ := kb_ex h
    refine rg6_159 26 dX6_isAll_23 (kOk_of hG rfl) rfl hx rfl ?_
    clear hx
    rcases kif_ex h with ⟨hc, h⟩ | ⟨hc, h⟩
    · refine kV_icmp_ne_f 55 29 dX6_isAll_26 (by decide) hc rfl ?_
      clear hc
      refine kV_aloadn 30 dX6_isAll_29 rfl rfl ?_
      refine kV_iload 32 dX6_isAll_30 rfl rfl ?_
      refine kV_iconst 33 dX6_isAll_32 ic_0 rfl ?_
      refine kV_iloadn 34 dX6_isAll_33 rfl rfl ?_
      obtain ⟨x5, hx, h⟩ := kbi_ex h
      refine kC_V 37 [.int v3] [.int x5, .int v3] dX6_isAll_34 (okX6_isLeast hG d  hx) kmvX6_isLeast (wi_r23 _ (List.mem_of_getElem? (i := 12) rfl)) (kOk_of hG rfl) rfl rfl rfl rfl rfl rfl ?_
      clear hx
      rcases kif_ex h with ⟨hc, h⟩ | ⟨hc, h⟩
      · refine kV_if_eq_t 55 dX6_isAll_37 (by decide) hc ?_
        clear hc
        refine kV_drop [true, true, true, false, true] rfl ?_
        exact TX6_isAll_J55 hG hc5 h
      · refine kV_if_eq_f 55 40 dX6_isAll_37 (by decide) hc rfl ?_
        clear hc
        refine kV_aloadn 41 dX6_isAll_40 rfl rfl ?_
        refine rg6_59 44 dX6_isAll_41 (kOk_of hG rfl) rfl rfl ?_
        refine kV_iload 46 dX6_isAll_44 rfl rfl ?_
        obtain ⟨hi, h⟩ := kgd_ex h
        obtain ⟨x6, hx, h⟩ := kb_ex h
        refine rl6_19 47 dX6_isAll_46 (kOk_of hG rfl) rfl hi hx rfl ?_
        clear hi hx
        refine kV_iloadn 48 dX6_isAll_47 rfl rfl ?_
        rcases kif_ex h with ⟨hc, h⟩ | ⟨hc, h⟩
        · refine kV_icmp_ne_f 55 51 dX6_isAll_48 (by decide) hc rfl ?_
          clear hc
          refine kV_iconst 52 dX6_isAll_51 ic_1 rfl ?_
          refine kV_goto 56 dX6_isAll_52 (by decide) ?_
          refine kV_drop [true, true, true, false, true] rfl ?_
          exact TX6_isAll_J56 hG hc5 h
        · refine kV_icmp_ne_t 55 dX6_isAll_48 (by decide) hc ?_
          clear hc
          refine kV_drop [true, true, true, false, true] rfl ?_
          exact TX6_isAll_J55 hG hc5 h
    · refine kV_icmp_ne_t 55 dX6_isAll_26 (by decide) hc ?_
      clear hc
      refine kV_drop [true, true, true, false, true] rfl ?_
      exact TX6_isAll_J55 hG hc5 h
theorem TX6_isAll_L5 {G : kG} {n : Nat} {d : Nat} {X : kX} (hG : kg_N G = 55 + 14 * n) {S : kS} {v1 : Int32} {v2 : Int32} {v3 : Int32} {v4 : Int32} {res : Int32} (h : FX6_isAll_L5 S v1 v2 v3 v4 = some res) : kV (X, RX6, 5, (some .boolean), G, krm (d + 2), (0, 0), kQ X G (some (.int res)) (kgl G n S)) cX6_isAll (kgl G n S) [some (.ref (kg_ad G (kbo 5))), some (.int v1), some (.int v2), some (.int v3), some (.int v4)] [] 5 := by
  unfold FX6_isAll_L5 at h
  exact kfix_ok (P := fun (q : Int32 × Int32 × Int32 × Int32) (res : Int32) => kV (X, RX6, 5, (some .boolean), G, krm (d + 2), (0, 0), kQ X G (some (.int res)) (kgl G n S)) cX6_isAll (kgl G n S) [some (.ref (kg_ad G (kbo 5))), some (.int (q.1)), some (.int (q.2.1)), some (.int (q.2.2.1)), some (.int (q.2.2.2))] [] 5) (fun rec hrec q res hq => TX6_isAll_B5 hG hrec hq) kfuel _ _ h
theorem okX6_isAll {l : Launch} {G : kG} {n : Nat} (hG : kg_N G = 55 + 14 * n) (d : Nat) {S : kS} {a1 : Int32} {a2 : Int32} {res : Int32} (h : FX6_isAll S a1 a2 = some res) : kEv l G (d + 2) mX6_isAll [.ref (kg_ad G (kbo 5)), .int a1, .int a2] (kgl G n S) (some (.int res)) (kgl G n S) := by
  refine kEv_of RX6 [some (.ref (kg_ad G (kbo 5))), some (.int a1), some (.int a2), none, none] rfl (by decide +kernel) rfl rfl rfl rfl (fun X hX => ?_)
  subst hX
  unfold FX6_isAll at h
  refine kV_iconst 1 dX6_isAll_0 ic_0 rfl ?_
  refine kV_istoren 2 [some (.ref (kg_ad G (kbo 5))), some (.int a1), some (.int a2), some (.int (0 : Int32)), none] dX6_isAll_1 rfl rfl rfl ?_
  refine kV_iconst 3 dX6_isAll_2 ic_0 rfl ?_
  refine kV_istore 5 [some (.ref (kg_ad G (kbo 5))), some (.int a1), some (.int a2), some (.int (0 : Int32)), some (.int (0 : Int32))] dX6_isAll_3 rfl rfl rfl ?_
  refine kV_drop [true, true, true, true, true] rfl ?_
  exact TX6_isAll_L5 hG h
abbrev mX6_answers : kM := (yX6_answers, cX6_answers, 4, none)
theorem kmvX6_answers : kMv mX6_answers 1 6 := ⟨⟨(wi_r25 _ (List.mem_of_getElem? (i := 5) rfl)), (wi_r1 _ (List.mem_of_getElem? (i := 5) rfl)), ⟨by decide +kernel, by decide +kernel, by decide +kernel⟩, by decide⟩, (wi_r25 _ (List.mem_of_getElem? (i := 3) rfl)), (wi_r25 _ (List.mem_of_getElem? (i := 4) rfl)), rfl⟩
def FX6_answers_J81 (S : kS) : Option (kS) :=
  some S
def FX6_answers (S : kS) (a1 : Int32) : Option (kS) :=
  kb (kI S 5 29) fun x1 => kgd (kin (((5 : Int32) * a1) + x1) 15) <| kb (kA S 5 7 (((5 : Int32) * a1) + x1)) fun x2 => (FX6_isAll S a1 (1 : Int32)).bind fun x3 => if x3 = 0 then ((FX6_isAll S a1 (2 : Int32)).bind fun x4 => if x4 = 0 then (FX6_answers_J81 S) else (kgd (kin (((5 : Int32) * a1) + x1) 15) <| kb (kA S 5 7 (((5 : Int32) * a1) + x1)) fun x5 => kb (kI S 5 30) fun x6 => kgd (kin (((5 : Int32) * a1) + x1) 15) <| kb (kpA S 5 7 (((5 : Int32) * a1) + x1) (x5 &&& (((1 : Int32) <<< (x6 &&& 31)) ^^^ (-1 : Int32)))) fun S1 => FX6_answers_J81 S1)) else (kb (kI S 5 30) fun x7 => kgd (kin (((5 : Int32) * a1) + x1) 15) <| kb (kpA S 5 7 (((5 : Int32) * a1) + x1) ((1 : Int32) <<< (x7 &&& 31))) fun S2 => kgd (kin (((5 : Int32) * a1) + x1) 15) <| kb (kpA S2 5 8 (((5 : Int32) * a1) + x1) ((1 : Int32) &&& 1)) fun S3 => (FX6_reverts S3 a1 (((5 : Int32) * a1) + x1) x2 (0 : Int32)).bind fun S4 => FX6_answers_J81 S4)
theorem TX6_answers_J81 {G : kG} {n : Nat} {d : Nat} {X : kX} (hG : kg_N G = 55 + 14 * n) {S : kS} {res : kS} (h : FX6_answers_J81 S = some res) : kV (X, RX6, 4, none, G, krm (d + 4), (0, 0), kQ X G none (kgl G n res)) cX6_answers (kgl G n S) [none, none, none, none] [] 81 := by
  unfold FX6_answers_J81 at h
  cases h
  exact kV_vret dX6_answers_81
theorem okX6_answers {l : Launch} {G : kG} {n : Nat} (hG : kg_N G = 55 + 14 * n) (d : Nat) {S : kS} {a1 : Int32} {res : kS} (h : FX6_answers S a1 = some res) : kEv l G (d + 4) mX6_answers [.ref (kg_ad G (kbo 5)), .int a1] (kgl G n S) none (kgl G n res) := by
  refine kEv_of RX6 [some (.ref (kg_ad G (kbo 5))), some (.int a1), none, none] rfl (by decide +kernel) rfl rfl rfl rfl (fun X hX => ?_)
  subst hX
  unfold FX6_answers at h
  refine kV_iconst 1 dX6_answers_0 ic_5 rfl ?_
  refine kV_iloadn 2 dX6_answers_1 rfl rfl ?_
  refine kV_imul 3 dX6_answers_2 rfl ?_
  refine kV_aloadn 4 dX6_answers_3 rfl rfl ?_
  obtain ⟨x1, hx, h⟩ := kb_ex h
  refine rg6_80 7 dX6_answers_4 (kOk_of hG rfl) rfl hx rfl ?_
  clear hx
  refine kV_iadd 8 dX6_answers_7 rfl ?_
  refine kV_istoren 9 [some (.ref (kg_ad G (kbo 5))), some (.int a1), some (.int (((5 : Int32) * a1) + x1)), none] dX6_answers_8 rfl rfl rfl ?_
  refine kV_aloadn 10 dX6_answers_9 rfl rfl ?_
  refine rg6_25 13 dX6_answers_10 (kOk_of hG rfl) rfl rfl ?_
  refine kV_iloadn 14 dX6_answers_13 rfl rfl ?_
  obtain ⟨hi, h⟩ := kgd_ex h
  obtain ⟨x2, hx, h⟩ := kb_ex h
  refine rl6_7 15 dX6_answers_14 (kOk_of hG rfl) rfl hi hx rfl ?_
  clear hi hx
  refine kV_istoren 16 [some (.ref (kg_ad G (kbo 5))), some (.int a1), some (.int (((5 : Int32) * a1) + x1)), some (.int x2)] dX6_answers_15 rfl rfl rfl ?_
  refine kV_aloadn 17 dX6_answers_16 rfl rfl ?_
  refine kV_iloadn 18 dX6_answers_17 rfl rfl ?_
  refine kV_iconst 19 dX6_answers_18 ic_1 rfl ?_
  obtain ⟨x3, hx, h⟩ := kbi_ex h
  refine kC_V 22 [] [.int x3] dX6_answers_19 (okX6_isAll hG (d + 1)  hx) kmvX6_isAll (wi_r25 _ (List.mem_of_getElem? (i := 7) rfl)) (kOk_of hG rfl) rfl rfl rfl rfl rfl rfl ?_
  clear hx
  rcases kif_ex h with ⟨hc, h⟩ | ⟨hc, h⟩
  · refine kV_if_eq_t 55 dX6_answers_22 (by decide) hc ?_
    clear hc
    refine kV_aloadn 56 dX6_answers_55 rfl rfl ?_
    refine kV_iloadn 57 dX6_answers_56 rfl rfl ?_
    refine kV_iconst 58 dX6_answers_57 ic_2 rfl ?_
    obtain ⟨x4, hx, h⟩ := kbi_ex h
    refine kC_V 61 [] [.int x4] dX6_answers_58 (okX6_isAll hG (d + 1)  hx) kmvX6_isAll (wi_r25 _ (List.mem_of_getElem? (i := 7) rfl)) (kOk_of hG rfl) rfl rfl rfl rfl rfl rfl ?_
    clear hx
    rcases kif_ex h with ⟨hc, h⟩ | ⟨hc, h⟩
    · refine kV_if_eq_t 81 dX6_answers_61 (by decide) hc ?_
      clear hc
      refine kV_drop [false, false, false, false] rfl ?_
      exact TX6_answers_J81 hG h
    · refine kV_if_eq_f 81 64 dX6_answers_61 (by decide) hc rfl ?_
      clear hc
      refine kV_aloadn 65 dX6_answers_64 rfl rfl ?_
      refine rg6_25 68 dX6_answers_65 (kOk_of hG rfl) rfl rfl ?_
      refine kV_iloadn 69 dX6_answers_68 rfl rfl ?_
      refine kV_dup2 70 dX6_answers_69 rfl rfl rfl ?_
      obtain ⟨hi, h⟩ := kgd_ex h
      obtain ⟨x5, hx, h⟩ := kb_ex h
      refine rl6_7 71 dX6_answers_70 (kOk_of hG rfl) rfl hi hx rfl ?_
      clear hi hx
      refine kV_iconst 72 dX6_answers_71 ic_1 rfl ?_
      refine kV_aloadn 73 dX6_answers_72 rfl rfl ?_
      obtain ⟨x6, hx, h⟩ := kb_ex h
      refine rg6_193 76 dX6_answers_73 (kOk_of hG rfl) rfl hx rfl ?_
      clear hx
      refine kV_ishl 77 dX6_answers_76 rfl ?_
      refine kV_iconst 78 dX6_answers_77 ic_m1 rfl ?_
      refine kV_ixor 79 dX6_answers_78 rfl ?_
      refine kV_iand 80 dX6_answers_79 rfl ?_
      obtain ⟨hi, h⟩ := kgd_ex h
      obtain ⟨S1, hx, h⟩ := kb_ex h
      refine rs6_7 81 dX6_answers_80 (kOk_of hG rfl) rfl hi hx rfl ?_
      clear hi hx
      refine kV_drop [false, false, false, false] rfl ?_
      exact TX6_answers_J81 hG h
  · refine kV_if_eq_f 55 25 dX6_answers_22 (by decide) hc rfl ?_
    clear hc
    refine kV_aloadn 26 dX6_answers_25 rfl rfl ?_
    refine rg6_25 29 dX6_answers_26 (kOk_of hG rfl) rfl rfl ?_
    refine kV_iloadn 30 dX6_answers_29 rfl rfl ?_
    refine kV_iconst 31 dX6_answers_30 ic_1 rfl ?_
    refine kV_aloadn 32 dX6_answers_31 rfl rfl ?_
    obtain ⟨x7, hx, h⟩ := kb_ex h
    refine rg6_193 35 dX6_answers_32 (kOk_of hG rfl) rfl hx rfl ?_
    clear hx
    refine kV_ishl 36 dX6_answers_35 rfl ?_
    obtain ⟨hi, h⟩ := kgd_ex h
    obtain ⟨S2, hx, h⟩ := kb_ex h
    refine rs6_7 37 dX6_answers_36 (kOk_of hG rfl) rfl hi hx rfl ?_
    clear hi hx
    refine kV_aloadn 38 dX6_answers_37 rfl rfl ?_
    refine rg6_28 41 dX6_answers_38 (kOk_of hG rfl) rfl rfl ?_
    refine kV_iloadn 42 dX6_answers_41 rfl rfl ?_
    refine kV_iconst 43 dX6_answers_42 ic_1 rfl ?_
    obtain ⟨hi, h⟩ := kgd_ex h
    obtain ⟨S3, hx, h⟩ := kb_ex h
    refine rs6_8 44 dX6_answers_43 (kOk_of hG rfl) rfl hi hx rfl ?_
    clear hi hx
    refine kV_aloadn 45 dX6_answers_44 rfl rfl ?_
    refine kV_iloadn 46 dX6_answers_45 rfl rfl ?_
    refine kV_iloadn 47 dX6_answers_46 rfl rfl ?_
    refine kV_iloadn 48 dX6_answers_47 rfl rfl ?_
    refine kV_iconst 49 dX6_answers_48 ic_0 rfl ?_
    obtain ⟨S4, hx, h⟩ := kbi_ex h
    refine kC_V 52 [] [] dX6_answers_49 (okX6_reverts hG d  hx) kmvX6_reverts (wi_r24 _ (List.mem_of_getElem? (i := 11) rfl)) (kOk_of hG rfl) rfl rfl rfl rfl rfl rfl ?_
    clear hx
    refine kV_goto 81 dX6_answers_52 (by decide) ?_
    refine kV_drop [false, false, false, false] rfl ?_
    exact TX6_answers_J81 hG h
abbrev mX6_hear : kM := (yX6_hear, cX6_hear, 2, (some .int))
theorem kmvX6_hear : kMv mX6_hear 0 6 := ⟨⟨(wi_r22 _ (List.mem_of_getElem? (i := 17) rfl)), (wi_r1 _ (List.mem_of_getElem? (i := 5) rfl)), ⟨by decide +kernel, by decide +kernel, by decide +kernel⟩, by decide⟩, (wi_r22 _ (List.mem_of_getElem? (i := 15) rfl)), (wi_r22 _ (List.mem_of_getElem? (i := 16) rfl)), rfl⟩
def FX6_hear_J169 (S : kS) (s0 : Int32) : Option (Int32 × kS) :=
  some (s0, S)
def FX6_hear_J141 (S : kS) : Option (Int32 × kS) :=
  kb (kpI S 5 33 (0 : Int32)) fun S1 => kgd (kin (0 : Int32) 9) <| kb (kA S1 5 37 (0 : Int32)) fun x1 => if x1 = 0 then (kb (kI S1 5 39) fun x2 => FX6_hear_J169 S1 ((100 : Int32) + x2)) else (kb (kI S1 5 39) fun x3 => FX6_hear_J169 S1 x3)
def FX6_hear_J123 (S : kS) : Option (Int32 × kS) :=
  kb (kpI S 5 29 (-1 : Int32)) fun S1 => FX6_hear_J141 S1
def FX6_hear_J59 (S : kS) (v1 : Int32) (s0 : Int32) : Option (Int32 × kS) :=
  kb (kpI S 5 40 s0) fun S1 => kgd (kin (0 : Int32) 9) <| kb (kA S1 5 36 (0 : Int32)) fun x1 => kb (kpI S1 5 41 x1) fun S2 => kgd (kin (0 : Int32) 9) <| kb (kA S2 5 35 (0 : Int32)) fun x2 => kb (kpI S2 5 42 x2) fun S3 => kb (kpI S3 5 43 (-1 : Int32)) fun S4 => kgd (kin (0 : Int32) 9) <| kb (kA S4 5 37 (0 : Int32)) fun x3 => if x3 = 0 then (kb (kI S4 5 31) fun x4 => kb (kpI S4 5 31 (x4 + (1 : Int32))) fun S5 => FX6_hear_J141 S5) else ((FX6_keep S4).bind fun S6 => kb (kpI S6 5 31 (0 : Int32)) fun S7 => (FX6_fills S7 v1).bind fun S8 => kb (kI S8 5 29) fun x5 => if x5 = (-1 : Int32) then (FX6_hear_J123 S8) else ((FX6_answers S8 v1).bind fun S9 => FX6_hear_J123 S9))
def FX6_hear_J14 (S : kS) : Option (Int32 × kS) :=
  some ((-3 : Int32), S)
def FX6_hear (S : kS) : Option (Int32 × kS) :=
  kb (kI S 5 33) fun x1 => if x1 = 0 then (FX6_hear_J14 S) else (kb (kI S 5 25) fun x2 => if x2 = 0 then (FX6_hear_J14 S) else (kb (kI S 5 25) fun x3 => kgd (kin (x3 - (1 : Int32)) 3) <| kb (kA S 5 24 (x3 - (1 : Int32))) fun x4 => (FX6_work S x4).bind fun S1 => kgd (kin (0 : Int32) 9) <| kb (kA S1 5 34 (0 : Int32)) fun x5 => kb (kpI S1 5 39 x5) fun S2 => kgd (kin (0 : Int32) 9) <| kb (kA S2 5 37 (0 : Int32)) fun x6 => if x6 = 0 then (FX6_hear_J59 S2 x4 (0 : Int32)) else (FX6_hear_J59 S2 x4 (1 : Int32))))
theorem TX6_hear_J169 {G : kG} {n : Nat} {d : Nat} {X : kX} (hG : kg_N G = 55 + 14 * n) {S : kS} {s0 : Int32} {res : Int32 × kS} (h : FX6_hear_J169 S s0 = some res) : kV (X, RX6, 2, (some .int), G, krm (d + 5), (0, 0), kQ X G (some (.int res.1)) (kgl G n res.2)) cX6_hear (kgl G n S) [none, none] [.int s0] 169 := by
  unfold FX6_hear_J169 at h
  cases h
  exact kV_iret dX6_hear_169
theorem TX6_hear_J141 {G : kG} {n : Nat} {d : Nat} {X : kX} (hG : kg_N G = 55 + 14 * n) {S : kS} {res : Int32 × kS} (h : FX6_hear_J141 S = some res) : kV (X, RX6, 2, (some .int), G, krm (d + 5), (0, 0), kQ X G (some (.int res.1)) (kgl G n res.2)) cX6_hear (kgl G n S) [some (.ref (kg_ad G (kbo 5))), none] [] 141 := by
  unfold FX6_hear_J141 at h
  refine kV_aloadn 142 dX6_hear_141 rfl rfl ?_
  refine kV_iconst 143 dX6_hear_142 ic_0 rfl ?_
  obtain ⟨S1, hx, h⟩ := kb_ex h
  refine rp6_159 146 dX6_hear_143 (kOk_of hG rfl) rfl hx rfl ?_
  clear hx
  refine kV_aloadn 147 dX6_hear_146 rfl rfl ?_
  refine rg6_96 150 dX6_hear_147 (kOk_of hG rfl) rfl rfl ?_
  refine kV_iconst 151 dX6_hear_150 ic_0 rfl ?_
  obtain ⟨hi, h⟩ := kgd_ex h
  obtain ⟨x1, hx, h⟩ := kb_ex h
  refine rl6_37 152 dX6_hear_151 (kOk_of hG rfl) rfl hi hx rfl ?_
  clear hi hx
  rcases kif_ex h with ⟨hc, h⟩ | ⟨hc, h⟩
  · refine kV_if_eq_t 162 dX6_hear_152 (by decide) hc ?_
    clear hc
    refine kV_bipush 164 dX6_hear_162 bp_100 rfl ?_
    refine kV_aloadn 165 dX6_hear_164 rfl rfl ?_
    obtain ⟨x2, hx, h⟩ := kb_ex h
    refine rg6_200 168 dX6_hear_165 (kOk_of hG rfl) rfl hx rfl ?_
    clear hx
    refine kV_iadd 169 dX6_hear_168 rfl ?_
    refine kV_drop [false, false] rfl ?_
    exact TX6_hear_J169 hG h
  · refine kV_if_eq_f 162 155 dX6_hear_152 (by decide) hc rfl ?_
    clear hc
    refine kV_aloadn 156 dX6_hear_155 rfl rfl ?_
    obtain ⟨x3, hx, h⟩ := kb_ex h
    refine rg6_200 159 dX6_hear_156 (kOk_of hG rfl) rfl hx rfl ?_
    clear hx
    refine kV_goto 169 dX6_hear_159 (by decide) ?_
    refine kV_drop [false, false] rfl ?_
    exact TX6_hear_J169 hG h
theorem TX6_hear_J123 {G : kG} {n : Nat} {d : Nat} {X : kX} (hG : kg_N G = 55 + 14 * n) {S : kS} {res : Int32 × kS} (h : FX6_hear_J123 S = some res) : kV (X, RX6, 2, (some .int), G, krm (d + 5), (0, 0), kQ X G (some (.int res.1)) (kgl G n res.2)) cX6_hear (kgl G n S) [some (.ref (kg_ad G (kbo 5))), none] [] 123 := by
  unfold FX6_hear_J123 at h
  refine kV_aloadn 124 dX6_hear_123 rfl rfl ?_
  refine kV_iconst 125 dX6_hear_124 ic_m1 rfl ?_
  obtain ⟨S1, hx, h⟩ := kb_ex h
  refine rp6_80 128 dX6_hear_125 (kOk_of hG rfl) rfl hx rfl ?_
  clear hx
  refine kV_goto 141 dX6_hear_128 (by decide) ?_
  refine kV_drop [true, false] rfl ?_
  exact TX6_hear_J141 hG h
theorem TX6_hear_J59 {G : kG} {n : Nat} {d : Nat} {X : kX} (hG : kg_N G = 55 + 14 * n) {S : kS} {v1 : Int32} {s0 : Int32} {res : Int32 × kS} (h : FX6_hear_J59 S v1 s0 = some res) : kV (X, RX6, 2, (some .int), G, krm (d + 5), (0, 0), kQ X G (some (.int res.1)) (kgl G n res.2)) cX6_hear (kgl G n S) [some (.ref (kg_ad G (kbo 5))), some (.int v1)] [.int s0, .ref (kg_ad G (kbo 5))] 59 := by
  unfold FX6_hear_J59 at h
  obtain ⟨S1, hx, h⟩ := kb_ex h
  refine rp6_203 62 dX6_hear_59 (kOk_of hG rfl) rfl hx rfl ?_
  clear hx
  refine kV_aloadn 63 dX6_hear_62 rfl rfl ?_
  refine kV_aloadn 64 dX6_hear_63 rfl rfl ?_
  refine rg6_93 67 dX6_hear_64 (kOk_of hG rfl) rfl rfl ?_
  refine kV_iconst 68 dX6_hear_67 ic_0 rfl ?_
  obtain ⟨hi, h⟩ := kgd_ex h
  obtain ⟨x1, hx, h⟩ := kb_ex h
  refine rl6_36 69 dX6_hear_68 (kOk_of hG rfl) rfl hi hx rfl ?_
  clear hi hx
  obtain ⟨S2, hx, h⟩ := kb_ex h
  refine rp6_206 72 dX6_hear_69 (kOk_of hG rfl) rfl hx rfl ?_
  clear hx
  refine kV_aloadn 73 dX6_hear_72 rfl rfl ?_
  refine kV_aloadn 74 dX6_hear_73 rfl rfl ?_
  refine rg6_90 77 dX6_hear_74 (kOk_of hG rfl) rfl rfl ?_
  refine kV_iconst 78 dX6_hear_77 ic_0 rfl ?_
  obtain ⟨hi, h⟩ := kgd_ex h
  obtain ⟨x2, hx, h⟩ := kb_ex h
  refine rl6_35 79 dX6_hear_78 (kOk_of hG rfl) rfl hi hx rfl ?_
  clear hi hx
  obtain ⟨S3, hx, h⟩ := kb_ex h
  refine rp6_209 82 dX6_hear_79 (kOk_of hG rfl) rfl hx rfl ?_
  clear hx
  refine kV_aloadn 83 dX6_hear_82 rfl rfl ?_
  refine kV_iconst 84 dX6_hear_83 ic_m1 rfl ?_
  obtain ⟨S4, hx, h⟩ := kb_ex h
  refine rp6_102 87 dX6_hear_84 (kOk_of hG rfl) rfl hx rfl ?_
  clear hx
  refine kV_aloadn 88 dX6_hear_87 rfl rfl ?_
  refine rg6_96 91 dX6_hear_88 (kOk_of hG rfl) rfl rfl ?_
  refine kV_iconst 92 dX6_hear_91 ic_0 rfl ?_
  obtain ⟨hi, h⟩ := kgd_ex h
  obtain ⟨x3, hx, h⟩ := kb_ex h
  refine rl6_37 93 dX6_hear_92 (kOk_of hG rfl) rfl hi hx rfl ?_
  clear hi hx
  rcases kif_ex h with ⟨hc, h⟩ | ⟨hc, h⟩
  · refine kV_if_eq_t 131 dX6_hear_93 (by decide) hc ?_
    clear hc
    refine kV_aloadn 132 dX6_hear_131 rfl rfl ?_
    refine kV_dup 133 dX6_hear_132 rfl rfl ?_
    obtain ⟨x4, hx, h⟩ := kb_ex h
    refine rg6_215 136 dX6_hear_133 (kOk_of hG rfl) rfl hx rfl ?_
    clear hx
    refine kV_iconst 137 dX6_hear_136 ic_1 rfl ?_
    refine kV_iadd 138 dX6_hear_137 rfl ?_
    obtain ⟨S5, hx, h⟩ := kb_ex h
    refine rp6_215 141 dX6_hear_138 (kOk_of hG rfl) rfl hx rfl ?_
    clear hx
    refine kV_drop [true, false] rfl ?_
    exact TX6_hear_J141 hG h
  · refine kV_if_eq_f 131 96 dX6_hear_93 (by decide) hc rfl ?_
    clear hc
    refine kV_aloadn 97 dX6_hear_96 rfl rfl ?_
    obtain ⟨S6, hx, h⟩ := kbi_ex h
    refine kC_V 100 [] [] dX6_hear_97 (okX6_keep hG (d + 4)  hx) kmvX6_keep (wi_r23 _ (List.mem_of_getElem? (i := 16) rfl)) (kOk_of hG rfl) rfl rfl rfl rfl rfl rfl ?_
    clear hx
    refine kV_aloadn 101 dX6_hear_100 rfl rfl ?_
    refine kV_iconst 102 dX6_hear_101 ic_0 rfl ?_
    obtain ⟨S7, hx, h⟩ := kb_ex h
    refine rp6_215 105 dX6_hear_102 (kOk_of hG rfl) rfl hx rfl ?_
    clear hx
    refine kV_aloadn 106 dX6_hear_105 rfl rfl ?_
    refine kV_iloadn 107 dX6_hear_106 rfl rfl ?_
    obtain ⟨S8, hx, h⟩ := kbi_ex h
    refine kC_V 110 [] [] dX6_hear_107 (okX6_fills hG d  hx) kmvX6_fills (wi_r23 _ (List.mem_of_getElem? (i := 20) rfl)) (kOk_of hG rfl) rfl rfl rfl rfl rfl rfl ?_
    clear hx
    refine kV_aloadn 111 dX6_hear_110 rfl rfl ?_
    obtain ⟨x5, hx, h⟩ := kb_ex h
    refine rg6_80 114 dX6_hear_111 (kOk_of hG rfl) rfl hx rfl ?_
    clear hx
    refine kV_iconst 115 dX6_hear_114 ic_m1 rfl ?_
    rcases kif_ex h with ⟨hc, h⟩ | ⟨hc, h⟩
    · refine kV_icmp_eq_t 123 dX6_hear_115 (by decide) hc ?_
      clear hc
      refine kV_drop [true, false] rfl ?_
      exact TX6_hear_J123 hG h
    · refine kV_icmp_eq_f 123 118 dX6_hear_115 (by decide) hc rfl ?_
      clear hc
      refine kV_aloadn 119 dX6_hear_118 rfl rfl ?_
      refine kV_iloadn 120 dX6_hear_119 rfl rfl ?_
      obtain ⟨S9, hx, h⟩ := kbi_ex h
      refine kC_V 123 [] [] dX6_hear_120 (okX6_answers hG d  hx) kmvX6_answers (wi_r25 _ (List.mem_of_getElem? (i := 2) rfl)) (kOk_of hG rfl) rfl rfl rfl rfl rfl rfl ?_
      clear hx
      refine kV_drop [true, false] rfl ?_
      exact TX6_hear_J123 hG h
theorem TX6_hear_J14 {G : kG} {n : Nat} {d : Nat} {X : kX} (hG : kg_N G = 55 + 14 * n) {S : kS} {res : Int32 × kS} (h : FX6_hear_J14 S = some res) : kV (X, RX6, 2, (some .int), G, krm (d + 5), (0, 0), kQ X G (some (.int res.1)) (kgl G n res.2)) cX6_hear (kgl G n S) [none, none] [] 14 := by
  unfold FX6_hear_J14 at h
  refine kV_bipush 16 dX6_hear_14 bp_m3 rfl ?_
  cases h
  exact kV_iret dX6_hear_16
theorem okX6_hear {l : Launch} {G : kG} {n : Nat} (hG : kg_N G = 55 + 14 * n) (d : Nat) {S : kS} {res : Int32 × kS} (h : FX6_hear S = some res) : kEv l G (d + 5) mX6_hear [.ref (kg_ad G (kbo 5))] (kgl G n S) (some (.int res.1)) (kgl G n res.2) := by
  refine kEv_of RX6 [some (.ref (kg_ad G (kbo 5))), none] rfl (by decide +kernel) rfl rfl rfl rfl (fun X hX => ?_)
  subst hX
  unfold FX6_hear at h
  refine kV_aloadn 1 dX6_hear_0 rfl rfl ?_
  obtain ⟨x1, hx, h⟩ := kb_ex h
  refine rg6_159 4 dX6_hear_1 (kOk_of hG rfl) rfl hx rfl ?_
  clear hx
  rcases kif_ex h with ⟨hc, h⟩ | ⟨hc, h⟩
  · refine kV_if_eq_t 14 dX6_hear_4 (by decide) hc ?_
    clear hc
    refine kV_drop [false, false] rfl ?_
    exact TX6_hear_J14 hG h
  · refine kV_if_eq_f 14 7 dX6_hear_4 (by decide) hc rfl ?_
    clear hc
    refine kV_aloadn 8 dX6_hear_7 rfl rfl ?_
    obtain ⟨x2, hx, h⟩ := kb_ex h
    refine rg6_126 11 dX6_hear_8 (kOk_of hG rfl) rfl hx rfl ?_
    clear hx
    rcases kif_ex h with ⟨hc, h⟩ | ⟨hc, h⟩
    · refine kV_if_ne_f 17 14 dX6_hear_11 (by decide) hc rfl ?_
      clear hc
      refine kV_drop [false, false] rfl ?_
      exact TX6_hear_J14 hG h
    · refine kV_if_ne_t 17 dX6_hear_11 (by decide) hc ?_
      clear hc
      refine kV_aloadn 18 dX6_hear_17 rfl rfl ?_
      refine rg6_71 21 dX6_hear_18 (kOk_of hG rfl) rfl rfl ?_
      refine kV_aloadn 22 dX6_hear_21 rfl rfl ?_
      obtain ⟨x3, hx, h⟩ := kb_ex h
      refine rg6_126 25 dX6_hear_22 (kOk_of hG rfl) rfl hx rfl ?_
      clear hx
      refine kV_iconst 26 dX6_hear_25 ic_1 rfl ?_
      refine kV_isub 27 dX6_hear_26 rfl ?_
      obtain ⟨hi, h⟩ := kgd_ex h
      obtain ⟨x4, hx, h⟩ := kb_ex h
      refine rl6_24 28 dX6_hear_27 (kOk_of hG rfl) rfl hi hx rfl ?_
      clear hi hx
      refine kV_istoren 29 [some (.ref (kg_ad G (kbo 5))), some (.int x4)] dX6_hear_28 rfl rfl rfl ?_
      refine kV_aloadn 30 dX6_hear_29 rfl rfl ?_
      refine kV_iloadn 31 dX6_hear_30 rfl rfl ?_
      obtain ⟨S1, hx, h⟩ := kbi_ex h
      refine kC_V 34 [] [] dX6_hear_31 (okX6_work hG (d + 2)  hx) kmvX6_work (wi_r22 _ (List.mem_of_getElem? (i := 23) rfl)) (kOk_of hG rfl) rfl rfl rfl rfl rfl rfl ?_
      clear hx
      refine kV_aloadn 35 dX6_hear_34 rfl rfl ?_
      refine kV_aloadn 36 dX6_hear_35 rfl rfl ?_
      refine rg6_87 39 dX6_hear_36 (kOk_of hG rfl) rfl rfl ?_
      refine kV_iconst 40 dX6_hear_39 ic_0 rfl ?_
      obtain ⟨hi, h⟩ := kgd_ex h
      obtain ⟨x5, hx, h⟩ := kb_ex h
      refine rl6_34 41 dX6_hear_40 (kOk_of hG rfl) rfl hi hx rfl ?_
      clear hi hx
      obtain ⟨S2, hx, h⟩ := kb_ex h
      refine rp6_200 44 dX6_hear_41 (kOk_of hG rfl) rfl hx rfl ?_
      clear hx
      refine kV_aloadn 45 dX6_hear_44 rfl rfl ?_
      refine kV_aloadn 46 dX6_hear_45 rfl rfl ?_
      refine rg6_96 49 dX6_hear_46 (kOk_of hG rfl) rfl rfl ?_
      refine kV_iconst 50 dX6_hear_49 ic_0 rfl ?_
      obtain ⟨hi, h⟩ := kgd_ex h
      obtain ⟨x6, hx, h⟩ := kb_ex h
      refine rl6_37 51 dX6_hear_50 (kOk_of hG rfl) rfl hi hx rfl ?_
      clear hi hx
      rcases kif_ex h with ⟨hc, h⟩ | ⟨hc, h⟩
      · refine kV_if_eq_t 58 dX6_hear_51 (by decide) hc ?_
        clear hc
        refine kV_iconst 59 dX6_hear_58 ic_0 rfl ?_
        refine kV_drop [true, true] rfl ?_
        exact TX6_hear_J59 hG h
      · refine kV_if_eq_f 58 54 dX6_hear_51 (by decide) hc rfl ?_
        clear hc
        refine kV_iconst 55 dX6_hear_54 ic_1 rfl ?_
        refine kV_goto 59 dX6_hear_55 (by decide) ?_
        refine kV_drop [true, true] rfl ?_
        exact TX6_hear_J59 hG h
abbrev mX6_state : kM := (yX6_state, cX6_state, 5, (some .int))
theorem kmvX6_state : kMv mX6_state 1 6 := ⟨⟨(wi_r29 _ (List.mem_of_getElem? (i := 16) rfl)), (wi_r1 _ (List.mem_of_getElem? (i := 5) rfl)), ⟨by decide +kernel, by decide +kernel, by decide +kernel⟩, by decide⟩, (wi_r29 _ (List.mem_of_getElem? (i := 14) rfl)), (wi_r29 _ (List.mem_of_getElem? (i := 15) rfl)), rfl⟩
def FX6_state_J45 (c4 : Int32 × Int32 × Int32 → Option (Int32)) (S : kS) (v1 : Int32) (v2 : Int32) (v3 : Int32) (s0 : Int32) : Option (Int32) :=
  c4 (v1, ((((5 : Int32) * v2) + s0) + (1 : Int32)), (v3 + (-1 : Int32)))
def FX6_state_J44 (c4 : Int32 × Int32 × Int32 → Option (Int32)) (S : kS) (v1 : Int32) (v2 : Int32) (v3 : Int32) : Option (Int32) :=
  FX6_state_J45 c4 S v1 v2 v3 (-1 : Int32)
def FX6_state_B4 (c4 : Int32 × Int32 × Int32 → Option (Int32)) (S : kS) (v1 : Int32) (v2 : Int32) (v3 : Int32) : Option (Int32) :=
  if v3 < 0 then (some v2) else (kgd (kin v1 3) <| kb (kA S 5 2 v1) fun x1 => if x1 ≤ v3 then (FX6_state_J44 c4 S v1 v2 v3) else (kgd (kin (((5 : Int32) * v1) + v3) 15) <| kb (kA S 5 3 (((5 : Int32) * v1) + v3)) fun x2 => if x2 = (1 : Int32) then (FX6_state_J44 c4 S v1 v2 v3) else ((FX6_valueOf S (((5 : Int32) * v1) + v3)).bind fun x3 => FX6_state_J45 c4 S v1 v2 v3 x3)))
def FX6_state_L4 (S : kS) (v1 : Int32) (v2 : Int32) (v3 : Int32) : Option (Int32) :=
  kfix (fun rec (q : Int32 × Int32 × Int32) => FX6_state_B4 rec S q.1 q.2.1 q.2.2) kfuel (v1, v2, v3)
def FX6_state (S : kS) (a1 : Int32) : Option (Int32) :=
  FX6_state_L4 S a1 (0 : Int32) (4 : Int32)
theorem TX6_state_J45 {G : kG} {n : Nat} {d : Nat} {X : kX} (hG : kg_N G = 55 + 14 * n) {c4 : Int32 × Int32 × Int32 → Option (Int32)} {S : kS} (hc4 : ∀ (q : Int32 × Int32 × Int32) (res : Int32), c4 q = some res → kV (X, RX6, 5, (some .int), G, krm (d + 2), (0, 0), kQ X G (some (.int res)) (kgl G n S)) cX6_state (kgl G n S) [some (.ref (kg_ad G (kbo 5))), some (.int (q.1)), some (.int (q.2.1)), some (.int (q.2.2)), none] [] 4) {v1 : Int32} {v2 : Int32} {v3 : Int32} {s0 : Int32} {res : Int32} (h : FX6_state_J45 c4 S v1 v2 v3 s0 = some res) : kV (X, RX6, 5, (some .int), G, krm (d + 2), (0, 0), kQ X G (some (.int res)) (kgl G n S)) cX6_state (kgl G n S) [some (.ref (kg_ad G (kbo 5))), some (.int v1), some (.int v2), some (.int v3), none] [.int s0] 45 := by
  unfold FX6_state_J45 at h
  refine kV_istore 47 [some (.ref (kg_ad G (kbo 5))), some (.int v1), some (.int v2), some (.int v3), some (.int s0)] dX6_state_45 rfl rfl rfl ?_
  refine kV_iconst 48 dX6_state_47 ic_5 rfl ?_
  refine kV_iloadn 49 dX6_state_48 rfl rfl ?_
  refine kV_imul 50 dX6_state_49 rfl ?_
  refine kV_iload 52 dX6_state_50 rfl rfl ?_
  refine kV_iadd 53 dX6_state_52 rfl ?_
  refine kV_iconst 54 dX6_state_53 ic_1 rfl ?_
  refine kV_iadd 55 dX6_state_54 rfl ?_
  refine kV_istoren 56 [some (.ref (kg_ad G (kbo 5))), some (.int v1), some (.int ((((5 : Int32) * v2) + s0) + (1 : Int32))), some (.int v3), some (.int s0)] dX6_state_55 rfl rfl rfl ?_
  refine kV_iinc 59 [some (.ref (kg_ad G (kbo 5))), some (.int v1), some (.int ((((5 : Int32) * v2) + s0) + (1 : Int32))), some (.int (v3 + (-1 : Int32))), some (.int s0)] dX6_state_56 rfl (kinc_m1 _) rfl rfl rfl ?_
  refine kV_goto 4 dX6_state_59 (by decide) ?_
  refine kV_drop [true, true, true, true, false] rfl ?_
  exact hc4 _ _ h
theorem TX6_state_J44 {G : kG} {n : Nat} {d : Nat} {X : kX} (hG : kg_N G = 55 + 14 * n) {c4 : Int32 × Int32 × Int32 → Option (Int32)} {S : kS} (hc4 : ∀ (q : Int32 × Int32 × Int32) (res : Int32), c4 q = some res → kV (X, RX6, 5, (some .int), G, krm (d + 2), (0, 0), kQ X G (some (.int res)) (kgl G n S)) cX6_state (kgl G n S) [some (.ref (kg_ad G (kbo 5))), some (.int (q.1)), some (.int (q.2.1)), some (.int (q.2.2)), none] [] 4) {v1 : Int32} {v2 : Int32} {v3 : Int32} {res : Int32} (h : FX6_state_J44 c4 S v1 v2 v3 = some res) : kV (X, RX6, 5, (some .int), G, krm (d + 2), (0, 0), kQ X G (some (.int res)) (kgl G n S)) cX6_state (kgl G n S) [some (.ref (kg_ad G (kbo 5))), some (.int v1), some (.int v2), some (.int v3), none] [] 44 := by
  unfold FX6_state_J44 at h
  refine kV_iconst 45 dX6_state_44 ic_m1 rfl ?_
  refine kV_drop [true, true, true, true, false] rfl ?_
  exact TX6_state_J45 hG hc4 h
theorem TX6_state_B4 {G : kG} {n : Nat} {d : Nat} {X : kX} (hG : kg_N G = 55 + 14 * n) {S : kS} {c4 : Int32 × Int32 × Int32 → Option (Int32)} (hc4 : ∀ (q : Int32 × Int32 × Int32) (res : Int32), c4 q = some res → kV (X, RX6, 5, (some .int), G, krm (d + 2), (0, 0), kQ X G (some (.int res)) (kgl G n S)) cX6_state (kgl G n S) [some (.ref (kg_ad G (kbo 5))), some (.int (q.1)), some (.int (q.2.1)), some (.int (q.2.2)), none] [] 4) {v1 : Int32} {v2 : Int32} {v3 : Int32} {res : Int32} (h : FX6_state_B4 c4 S v1 v2 v3 = some res) : kV (X, RX6, 5, (some .int), G, krm (d + 2), (0, 0), kQ X G (some (.int res)) (kgl G n S)) cX6_state (kgl G n S) [some (.ref (kg_ad G (kbo 5))), some (.int v1), some (.int v2), some (.int v3), none] [] 4 := by
  unfold FX6_state_B4 at h
  refine kV_iloadn 5 dX6_state_4 rfl rfl ?_
  rcases kif_ex h with ⟨hc, h⟩ | ⟨hc, h⟩
  · refine kV_if_lt_t 62 dX6_state_5 (by decide) hc ?_
    clear hc
    refine kV_iloadn 63 dX6_state_62 rfl rfl ?_
    cases h
    exact kV_iret dX6_state_63
  · refine kV_if_lt_f 62 8 dX6_state_5 (by decide) hc rfl ?_
    clear hc
    refine kV_iloadn 9 dX6_state_8 rfl rfl ?_
    refine kV_aloadn 10 dX6_state_9 rfl rfl ?_
    refine rg6_7 13 dX6_state_10 (kOk_of hG rfl) rfl rfl ?_
    refine kV_iloadn 14 dX6_state_13 rfl rfl ?_
    obtain ⟨hi, h⟩ := kgd_ex h
    obtain ⟨x1, hx, h⟩ := kb_ex h
    refine rl6_2 15 dX6_state_14 (kOk_of hG rfl) rfl hi hx rfl ?_
    clear hi hx
    rcases kif_ex h with ⟨hc, h⟩ | ⟨hc, h⟩
    · refine kV_icmp_ge_t 44 dX6_state_15 (by decide) hc ?_
      clear hc
      refine kV_drop [true, true, true, true, false] rfl ?_
      exact TX6_state_J44 hG hc4 h
    · refine kV_icmp_ge_f 44 18 dX6_state_15 (by decide) hc rfl ?_
      clear hc
      refine kV_aloadn 19 dX6_state_18 rfl rfl ?_
      refine rg6_13 22 dX6_state_19 (kOk_of hG rfl) rfl rfl ?_
      refine kV_iconst 23 dX6_state_22 ic_5 rfl ?_
      refine kV_iloadn 24 dX6_state_23 rfl rfl ?_
      refine kV_imul 25 dX6_state_24 rfl ?_
      refine kV_iloadn 26 dX6_state_25 rfl rfl ?_
      refine kV_iadd 27 dX6_state_26 rfl ?_
      obtain ⟨hi, h⟩ := kgd_ex h
      obtain ⟨x2, hx, h⟩ := kb_ex h
      refine rl6_3 28 dX6_state_27 (kOk_of hG rfl) rfl hi hx rfl ?_
      clear hi hx
      refine kV_iconst 29 dX6_state_28 ic_1 rfl ?_
      rcases kif_ex h with ⟨hc, h⟩ | ⟨hc, h⟩
      · refine kV_icmp_eq_t 44 dX6_state_29 (by decide) hc ?_
        clear hc
        refine kV_drop [true, true, true, true, false] rfl ?_
        exact TX6_state_J44 hG hc4 h
      · refine kV_icmp_eq_f 44 32 dX6_state_29 (by decide) hc rfl ?_
        clear hc
        refine kV_aloadn 33 dX6_state_32 rfl rfl ?_
        refine kV_iconst 34 dX6_state_33 ic_5 rfl ?_
        refine kV_iloadn 35 dX6_state_34 rfl rfl ?_
        refine kV_imul 36 dX6_state_35 rfl ?_
        refine kV_iloadn 37 dX6_state_36 rfl rfl ?_
        refine kV_iadd 38 dX6_state_37 rfl ?_
        obtain ⟨x3, hx, h⟩ := kbi_ex h
        refine kC_V 41 [] [.int x3] dX6_state_38 (okX6_valueOf hG d  hx) kmvX6_valueOf (wi_r24 _ (List.mem_of_getElem? (i := 19) rfl)) (kOk_of hG rfl) rfl rfl rfl rfl rfl rfl ?_
        clear hx
        refine kV_goto 45 dX6_state_41 (by decide) ?_
        refine kV_drop [true, true, true, true, false] rfl ?_
        exact TX6_state_J45 hG hc4 h
theorem TX6_state_L4 {G : kG} {n : Nat} {d : Nat} {X : kX} (hG : kg_N G = 55 + 14 * n) {S : kS} {v1 : Int32} {v2 : Int32} {v3 : Int32} {res : Int32} (h : FX6_state_L4 S v1 v2 v3 = some res) : kV (X, RX6, 5, (some .int), G, krm (d + 2), (0, 0), kQ X G (some (.int res)) (kgl G n S)) cX6_state (kgl G n S) [some (.ref (kg_ad G (kbo 5))), some (.int v1), some (.int v2), some (.int v3), none] [] 4 := by
  unfold FX6_state_L4 at h
  exact kfix_ok (P := fun (q : Int32 × Int32 × Int32) (res : Int32) => kV (X, RX6, 5, (some .int), G, krm (d + 2), (0, 0), kQ X G (some (.int res)) (kgl G n S)) cX6_state (kgl G n S) [some (.ref (kg_ad G (kbo 5))), some (.int (q.1)), some (.int (q.2.1)), some (.int (q.2.2)), none] [] 4) (fun rec hrec q res hq => TX6_state_B4 hG hrec hq) kfuel _ _ h
theorem okX6_state {l : Launch} {G : kG} {n : Nat} (hG : kg_N G = 55 + 14 * n) (d : Nat) {S : kS} {a1 : Int32} {res : Int32} (h : FX6_state S a1 = some res) : kEv l G (d + 2) mX6_state [.ref (kg_ad G (kbo 5)), .int a1] (kgl G n S) (some (.int res)) (kgl G n S) := by
  refine kEv_of RX6 [some (.ref (kg_ad G (kbo 5))), some (.int a1), none, none, none] rfl (by decide +kernel) rfl rfl rfl rfl (fun X hX => ?_)
  subst hX
  unfold FX6_state at h
  refine kV_iconst 1 dX6_state_0 ic_0 rfl ?_
  refine kV_istoren 2 [some (.ref (kg_ad G (kbo 5))), some (.int a1), some (.int (0 : Int32)), none, none] dX6_state_1 rfl rfl rfl ?_
  refine kV_iconst 3 dX6_state_2 ic_4 rfl ?_
  refine kV_istoren 4 [some (.ref (kg_ad G (kbo 5))), some (.int a1), some (.int (0 : Int32)), some (.int (4 : Int32)), none] dX6_state_3 rfl rfl rfl ?_
  refine kV_drop [true, true, true, true, false] rfl ?_
  exact TX6_state_L4 hG h
abbrev mX6_worstOf : kM := (yX6_worstOf, cX6_worstOf, 7, (some .int))
theorem kmvX6_worstOf : kMv mX6_worstOf 1 6 := ⟨⟨(wi_r29 _ (List.mem_of_getElem? (i := 12) rfl)), (wi_r1 _ (List.mem_of_getElem? (i := 5) rfl)), ⟨by decide +kernel, by decide +kernel, by decide +kernel⟩, by decide⟩, (wi_r29 _ (List.mem_of_getElem? (i := 10) rfl)), (wi_r29 _ (List.mem_of_getElem? (i := 11) rfl)), rfl⟩
abbrev mX6_worstBy : kM := (yX6_worstBy, cX6_worstBy, 8, (some .int))
theorem kmvX6_worstBy : kMv mX6_worstBy 2 6 := ⟨⟨(wi_r29 _ (List.mem_of_getElem? (i := 8) rfl)), (wi_r1 _ (List.mem_of_getElem? (i := 5) rfl)), ⟨by decide +kernel, by decide +kernel, by decide +kernel⟩, by decide⟩, (wi_r29 _ (List.mem_of_getElem? (i := 6) rfl)), (wi_r29 _ (List.mem_of_getElem? (i := 7) rfl)), rfl⟩
def FX6_worstBy_J123 (rc : kS × Int32 → Option (Int32 × kS)) (S : kS) (s0 : Int32) : Option (Int32 × kS) :=
  some (s0, S)
def FX6_worstBy_J116 (rc : kS × Int32 → Option (Int32 × kS)) (S : kS) : Option (Int32 × kS) :=
  FX6_worstBy_J123 rc S (100 : Int32)
def FX6_worstBy_J82 (rc : kS × Int32 → Option (Int32 × kS)) (c20 : kS × Int32 × Int32 × Int32 × Int32 × Int32 → Option (Int32 × kS)) (S : kS) (v1 : Int32) (v3 : Int32) (v4 : Int32) (v5 : Int32) (v6 : Int32) : Option (Int32 × kS) :=
  c20 (S, v1, v3, v4, v5, (v6 + (1 : Int32)))
def FX6_worstBy_J80 (rc : kS × Int32 → Option (Int32 × kS)) (c20 : kS × Int32 × Int32 × Int32 × Int32 × Int32 → Option (Int32 × kS)) (S : kS) (v1 : Int32) (v3 : Int32) (v4 : Int32) (v6 : Int32) (s0 : Int32) : Option (Int32 × kS) :=
  FX6_worstBy_J82 rc c20 S v1 v3 v4 s0 v6
def FX6_worstBy_B20 (rc : kS × Int32 → Option (Int32 × kS)) (c20 : kS × Int32 × Int32 × Int32 × Int32 × Int32 → Option (Int32 × kS)) (S : kS) (v1 : Int32) (v3 : Int32) (v4 : Int32) (v5 : Int32) (v6 : Int32) : Option (Int32 × kS) :=
  kgd (kin v3 15) <| kb (kA S 5 4 v3) fun x1 => if x1 ≤ v6 then (kgd (kin v3 15) <| kb (kpA S 5 7 v3 v4) fun S1 => kgd (kin v3 15) <| kb (kpA S1 5 8 v3 ((0 : Int32) &&& 1)) fun S2 => if v5 = (-1 : Int32) then (FX6_worstBy_J116 rc S2) else (if v5 ≤ (100 : Int32) then (FX6_worstBy_J123 rc S2 v5) else (FX6_worstBy_J116 rc S2))) else (kgd (kin v3 15) <| kb (kpA S 5 7 v3 ((1 : Int32) <<< (v6 &&& 31))) fun S3 => kgd (kin v3 15) <| kb (kpA S3 5 8 v3 ((1 : Int32) &&& 1)) fun S4 => (FX6_broken S4 v1).bind fun x2 => if x2 = (-1 : Int32) then (kb2 (rc (S4, v1)) fun x3 S5 => if ((1 : Int32) + x3) ≤ v5 then (FX6_worstBy_J80 rc c20 S5 v1 v3 v4 v6 v5) else (FX6_worstBy_J80 rc c20 S5 v1 v3 v4 v6 ((1 : Int32) + x3))) else (FX6_worstBy_J82 rc c20 S4 v1 v3 v4 v5 v6))
def FX6_worstBy_L20 (rc : kS × Int32 → Option (Int32 × kS)) (S : kS) (v1 : Int32) (v3 : Int32) (v4 : Int32) (v5 : Int32) (v6 : Int32) : Option (Int32 × kS) :=
  kfix (fun rec (q : kS × Int32 × Int32 × Int32 × Int32 × Int32) => FX6_worstBy_B20 rc rec q.1 q.2.1 q.2.2.1 q.2.2.2.1 q.2.2.2.2.1 q.2.2.2.2.2) kfuel (S, v1, v3, v4, v5, v6)
def FX6_worstBy (rc : kS × Int32 → Option (Int32 × kS)) (S : kS) (a1 : Int32) (a2 : Int32) : Option (Int32 × kS) :=
  kgd (kin (((5 : Int32) * a1) + a2) 15) <| kb (kA S 5 7 (((5 : Int32) * a1) + a2)) fun x1 => FX6_worstBy_L20 rc S a1 (((5 : Int32) * a1) + a2) x1 (-1 : Int32) (0 : Int32)
theorem TX6_worstBy_J123 {G : kG} {n : Nat} {m d : Nat} {X : kX} (hG : kg_N G = 55 + 14 * n) {rc : kS × Int32 → Option (Int32 × kS)} (hrc : ∀ (q : kS × Int32) (res : Int32 × kS), rc q = some res → kEv X.2.1 G ((d + 2 * m) + 2) mX6_worstOf [.ref (kg_ad G (kbo 5)), .int q.2] (kgl G n q.1) (some (.int res.1)) (kgl G n res.2)) {S : kS} {s0 : Int32} {res : Int32 × kS} (h : FX6_worstBy_J123 rc S s0 = some res) : kV (X, RX6, 8, (some .int), G, krm ((d + 2 * m) + 3), (0, 0), kQ X G (some (.int res.1)) (kgl G n res.2)) cX6_worstBy (kgl G n S) [none, none, none, none, none, none, none, none] [.int s0] 123 := by
  unfold FX6_worstBy_J123 at h
  cases h
  exact kV_iret dX6_worstBy_123
theorem TX6_worstBy_J116 {G : kG} {n : Nat} {m d : Nat} {X : kX} (hG : kg_N G = 55 + 14 * n) {rc : kS × Int32 → Option (Int32 × kS)} (hrc : ∀ (q : kS × Int32) (res : Int32 × kS), rc q = some res → kEv X.2.1 G ((d + 2 * m) + 2) mX6_worstOf [.ref (kg_ad G (kbo 5)), .int q.2] (kgl G n q.1) (some (.int res.1)) (kgl G n res.2)) {S : kS} {res : Int32 × kS} (h : FX6_worstBy_J116 rc S = some res) : kV (X, RX6, 8, (some .int), G, krm ((d + 2 * m) + 3), (0, 0), kQ X G (some (.int res.1)) (kgl G n res.2)) cX6_worstBy (kgl G n S) [none, none, none, none, none, none, none, none] [] 116 := by
  unfold FX6_worstBy_J116 at h
  refine kV_bipush 118 dX6_worstBy_116 bp_100 rfl ?_
  refine kV_goto 123 dX6_worstBy_118 (by decide) ?_
  refine kV_drop [false, false, false, false, false, false, false, false] rfl ?_
  exact TX6_worstBy_J123 hG hrc h
theorem TX6_worstBy_J82 {G : kG} {n : Nat} {m d : Nat} {X : kX} (hG : kg_N G = 55 + 14 * n) {rc : kS × Int32 → Option (Int32 × kS)} (hrc : ∀ (q : kS × Int32) (res : Int32 × kS), rc q = some res → kEv X.2.1 G ((d + 2 * m) + 2) mX6_worstOf [.ref (kg_ad G (kbo 5)), .int q.2] (kgl G n q.1) (some (.int res.1)) (kgl G n res.2)) {c20 : kS × Int32 × Int32 × Int32 × Int32 × Int32 → Option (Int32 × kS)} {S : kS} (hc20 : ∀ (q : kS × Int32 × Int32 × Int32 × Int32 × Int32) (res : Int32 × kS), c20 q = some res → kV (X, RX6, 8, (some .int), G, krm ((d + 2 * m) + 3), (0, 0), kQ X G (some (.int res.1)) (kgl G n res.2)) cX6_worstBy (kgl G n q.1) [some (.ref (kg_ad G (kbo 5))), some (.int (q.2.1)), none, some (.int (q.2.2.1)), some (.int (q.2.2.2.1)), some (.int (q.2.2.2.2.1)), some (.int (q.2.2.2.2.2)), none] [] 20) {v1 : Int32} {v3 : Int32} {v4 : Int32} {v5 : Int32} {v6 : Int32} {res : Int32 × kS} (h : FX6_worstBy_J82 rc c20 S v1 v3 v4 v5 v6 = some res) : kV (X, RX6, 8, (some .int), G, krm ((d + 2 * m) + 3), (0, 0), kQ X G (some (.int res.1)) (kgl G n res.2)) cX6_worstBy (kgl G n S) [some (.ref (kg_ad G (kbo 5))), some (.int v1), none, some (.int v3), some (.int v4), some (.int v5), some (.int v6), none] [] 82 := by
  unfold FX6_worstBy_J82 at h
  refine kV_iinc 85 [some (.ref (kg_ad G (kbo 5))), some (.int v1), none, some (.int v3), some (.int v4), some (.int v5), some (.int (v6 + (1 : Int32))), none] dX6_worstBy_82 rfl (kinc_1 _) rfl rfl rfl ?_
  refine kV_goto 20 dX6_worstBy_85 (by decide) ?_
  refine kV_drop [true, true, false, true, true, true, true, false] rfl ?_
  exact hc20 _ _ h
theorem TX6_worstBy_J80 {G : kG} {n : Nat} {m d : Nat} {X : kX} (hG : kg_N G = 55 + 14 * n) {rc : kS × Int32 → Option (Int32 × kS)} (hrc : ∀ (q : kS × Int32) (res : Int32 × kS), rc q = some res → kEv X.2.1 G ((d + 2 * m) + 2) mX6_worstOf [.ref (kg_ad G (kbo 5)), .int q.2] (kgl G n q.1) (some (.int res.1)) (kgl G n res.2)) {c20 : kS × Int32 × Int32 × Int32 × Int32 × Int32 → Option (Int32 × kS)} {S : kS} (hc20 : ∀ (q : kS × Int32 × Int32 × Int32 × Int32 × Int32) (res : Int32 × kS), c20 q = some res → kV (X, RX6, 8, (some .int), G, krm ((d + 2 * m) + 3), (0, 0), kQ X G (some (.int res.1)) (kgl G n res.2)) cX6_worstBy (kgl G n q.1) [some (.ref (kg_ad G (kbo 5))), some (.int (q.2.1)), none, some (.int (q.2.2.1)), some (.int (q.2.2.2.1)), some (.int (q.2.2.2.2.1)), some (.int (q.2.2.2.2.2)), none] [] 20) {v1 : Int32} {v3 : Int32} {v4 : Int32} {v6 : Int32} {s0 : Int32} {res : Int32 × kS} (h : FX6_worstBy_J80 rc c20 S v1 v3 v4 v6 s0 = some res) : kV (X, RX6, 8, (some .int), G, krm ((d + 2 * m) + 3), (0, 0), kQ X G (some (.int res.1)) (kgl G n res.2)) cX6_worstBy (kgl G n S) [some (.ref (kg_ad G (kbo 5))), some (.int v1), none, some (.int v3), some (.int v4), none, some (.int v6), none] [.int s0] 80 := by
  unfold FX6_worstBy_J80 at h
  refine kV_istore 82 [some (.ref (kg_ad G (kbo 5))), some (.int v1), none, some (.int v3), some (.int v4), some (.int s0), some (.int v6), none] dX6_worstBy_80 rfl rfl rfl ?_
  refine kV_drop [true, true, false, true, true, true, true, false] rfl ?_
  exact TX6_worstBy_J82 hG hrc hc20 h
theorem TX6_worstBy_B20 {G : kG} {n : Nat} {m d : Nat} {X : kX} (hG : kg_N G = 55 + 14 * n) {rc : kS × Int32 → Option (Int32 × kS)} (hrc : ∀ (q : kS × Int32) (res : Int32 × kS), rc q = some res → kEv X.2.1 G ((d + 2 * m) + 2) mX6_worstOf [.ref (kg_ad G (kbo 5)), .int q.2] (kgl G n q.1) (some (.int res.1)) (kgl G n res.2)) {c20 : kS × Int32 × Int32 × Int32 × Int32 × Int32 → Option (Int32 × kS)} (hc20 : ∀ (q : kS × Int32 × Int32 × Int32 × Int32 × Int32) (res : Int32 × kS), c20 q = some res → kV (X, RX6, 8, (some .int), G, krm ((d + 2 * m) + 3), (0, 0), kQ X G (some (.int res.1)) (kgl G n res.2)) cX6_worstBy (kgl G n q.1) [some (.ref (kg_ad G (kbo 5))), some (.int (q.2.1)), none, some (.int (q.2.2.1)), some (.int (q.2.2.2.1)), some (.int (q.2.2.2.2.1)), some (.int (q.2.2.2.2.2)), none] [] 20) {S : kS} {v1 : Int32} {v3 : Int32} {v4 : Int32} {v5 : Int32} {v6 : Int32} {res : Int32 × kS} (h : FX6_worstBy_B20 rc c20 S v1 v3 v4 v5 v6 = some res) : kV (X, RX6, 8, (some .int), G, krm ((d + 2 * m) + 3), (0, 0), kQ X G (some (.int res.1)) (kgl G n res.2)) cX6_worstBy (kgl G n S) [some (.ref (kg_ad G (kbo 5))), some (.int v1), none, some (.int v3), some (.int v4), some (.int v5), some (.int v6), none] [] 20 := by
  unfold FX6_worstBy_B20 at h
  refine kV_iload 22 dX6_worstBy_20 rfl rfl ?_
  refine kV_aloadn 23 dX6_worstBy_22 rfl rfl ?_
  refine rg6_16 26 dX6_worstBy_23 (kOk_of hG rfl) rfl rfl ?_
  refine kV_iloadn 27 dX6_worstBy_26 rfl rfl ?_
  obtain ⟨hi, h⟩ := kgd_ex h
  obtain ⟨x1, hx, h⟩ := kb_ex h
  refine rl6_4 28 dX6_worstBy_27 (kOk_of hG rfl) rfl hi hx rfl ?_
  clear hi hx
  rcases kif_ex h with ⟨hc, h⟩ | ⟨hc, h⟩
  · refine kV_icmp_ge_t 88 dX6_worstBy_28 (by decide) hc ?_
    clear hc
    refine kV_aloadn 89 dX6_worstBy_88 rfl rfl ?_
    refine rg6_25 92 dX6_worstBy_89 (kOk_of hG rfl) rfl rfl ?_
    refine kV_iloadn 93 dX6_worstBy_92 rfl rfl ?_
    refine kV_iload 95 dX6_worstBy_93 rfl rfl ?_
    obtain ⟨hi, h⟩ := kgd_ex h
    obtain ⟨S1, hx, h⟩ := kb_ex h
    refine rs6_7 96 dX6_worstBy_95 (kOk_of hG rfl) rfl hi hx rfl ?_
    clear hi hx
    refine kV_aloadn 97 dX6_worstBy_96 rfl rfl ?_
    refine rg6_28 100 dX6_worstBy_97 (kOk_of hG rfl) rfl rfl ?_
    refine kV_iloadn 101 dX6_worstBy_100 rfl rfl ?_
    refine kV_iconst 102 dX6_worstBy_101 ic_0 rfl ?_
    obtain ⟨hi, h⟩ := kgd_ex h
    obtain ⟨S2, hx, h⟩ := kb_ex h
    refine rs6_8 103 dX6_worstBy_102 (kOk_of hG rfl) rfl hi hx rfl ?_
    clear hi hx
    refine kV_iload 105 dX6_worstBy_103 rfl rfl ?_
    refine kV_iconst 106 dX6_worstBy_105 ic_m1 rfl ?_
    rcases kif_ex h with ⟨hc, h⟩ | ⟨hc, h⟩
    · refine kV_icmp_eq_t 116 dX6_worstBy_106 (by decide) hc ?_
      clear hc
      refine kV_drop [false, false, false, false, false, false, false, false] rfl ?_
      exact TX6_worstBy_J116 hG hrc h
    · refine kV_icmp_eq_f 116 109 dX6_worstBy_106 (by decide) hc rfl ?_
      clear hc
      refine kV_iload 111 dX6_worstBy_109 rfl rfl ?_
      refine kV_bipush 113 dX6_worstBy_111 bp_100 rfl ?_
      rcases kif_ex h with ⟨hc, h⟩ | ⟨hc, h⟩
      · refine kV_icmp_le_t 121 dX6_worstBy_113 (by decide) hc ?_
        clear hc
        refine kV_iload 123 dX6_worstBy_121 rfl rfl ?_
        refine kV_drop [false, false, false, false, false, false, false, false] rfl ?_
        exact TX6_worstBy_J123 hG hrc h
      · refine kV_icmp_le_f 121 116 dX6_worstBy_113 (by decide) hc rfl ?_
        clear hc
        refine kV_drop [false, false, false, false, false, false, false, false] rfl ?_
        exact TX6_worstBy_J116 hG hrc h
  · refine kV_icmp_ge_f 88 31 dX6_worstBy_28 (by decide) hc rfl ?_
    clear hc
    refine kV_aloadn 32 dX6_worstBy_31 rfl rfl ?_
    refine rg6_25 35 dX6_worstBy_32 (kOk_of hG rfl) rfl rfl ?_
    refine kV_iloadn 36 dX6_worstBy_35 rfl rfl ?_
    refine kV_iconst 37 dX6_worstBy_36 ic_1 rfl ?_
    refine kV_iload 39 dX6_worstBy_37 rfl rfl ?_
    refine kV_ishl 40 dX6_worstBy_39 rfl ?_
    obtain ⟨hi, h⟩ := kgd_ex h
    obtain ⟨S3, hx, h⟩ := kb_ex h
    refine rs6_7 41 dX6_worstBy_40 (kOk_of hG rfl) rfl hi hx rfl ?_
    clear hi hx
    refine kV_aloadn 42 dX6_worstBy_41 rfl rfl ?_
    refine rg6_28 45 dX6_worstBy_42 (kOk_of hG rfl) rfl rfl ?_
    refine kV_iloadn 46 dX6_worstBy_45 rfl rfl ?_
    refine kV_iconst 47 dX6_worstBy_46 ic_1 rfl ?_
    obtain ⟨hi, h⟩ := kgd_ex h
    obtain ⟨S4, hx, h⟩ := kb_ex h
    refine rs6_8 48 dX6_worstBy_47 (kOk_of hG rfl) rfl hi hx rfl ?_
    clear hi hx
    refine kV_aloadn 49 dX6_worstBy_48 rfl rfl ?_
    refine kV_iloadn 50 dX6_worstBy_49 rfl rfl ?_
    obtain ⟨x2, hx, h⟩ := kbi_ex h
    refine kC_V 53 [] [.int x2] dX6_worstBy_50 (okX6_broken hG (d + 2 * m)  hx) kmvX6_broken (wi_r24 _ (List.mem_of_getElem? (i := 15) rfl)) (kOk_of hG rfl) rfl rfl rfl rfl rfl rfl ?_
    clear hx
    refine kV_iconst 54 dX6_worstBy_53 ic_m1 rfl ?_
    rcases kif_ex h with ⟨hc, h⟩ | ⟨hc, h⟩
    · refine kV_icmp_ne_f 82 57 dX6_worstBy_54 (by decide) hc rfl ?_
      clear hc
      refine kV_iconst 58 dX6_worstBy_57 ic_1 rfl ?_
      refine kV_aloadn 59 dX6_worstBy_58 rfl rfl ?_
      refine kV_iloadn 60 dX6_worstBy_59 rfl rfl ?_
      obtain ⟨x3, S5, hx, h⟩ := kb2_ex h
      refine kC_V 63 [.int (1 : Int32)] [.int x3, .int (1 : Int32)] dX6_worstBy_60 (hrc _ _ hx) kmvX6_worstOf (wi_r29 _ (List.mem_of_getElem? (i := 9) rfl)) (kOk_of hG rfl) rfl rfl rfl rfl rfl rfl ?_
      clear hx
      refine kV_iadd 64 dX6_worstBy_63 rfl ?_
      refine kV_istore 66 [some (.ref (kg_ad G (kbo 5))), some (.int v1), none, some (.int v3), some (.int v4), some (.int v5), some (.int v6), some (.int ((1 : Int32) + x3))] dX6_worstBy_64 rfl rfl rfl ?_
      refine kV_iload 68 dX6_worstBy_66 rfl rfl ?_
      refine kV_iload 70 dX6_worstBy_68 rfl rfl ?_
      rcases kif_ex h with ⟨hc, h⟩ | ⟨hc, h⟩
      · refine kV_icmp_le_t 78 dX6_worstBy_70 (by decide) hc ?_
        clear hc
        refine kV_iload 80 dX6_worstBy_78 rfl rfl ?_
        refine kV_drop [true, true, false, true, true, false, true, false] rfl ?_
        exact TX6_worstBy_J80 hG hrc hc20 h
      · refine kV_icmp_le_f 78 73 dX6_worstBy_70 (by decide) hc rfl ?_
        clear hc
        refine kV_iload 75 dX6_worstBy_73 rfl rfl ?_
        refine kV_goto 80 dX6_worstBy_75 (by decide) ?_
        refine kV_drop [true, true, false, true, true, false, true, false] rfl ?_
        exact TX6_worstBy_J80 hG hrc hc20 h
    · refine kV_icmp_ne_t 82 dX6_worstBy_54 (by decide) hc ?_
      clear hc
      refine kV_drop [true, true, false, true, true, true, true, false] rfl ?_
      exact TX6_worstBy_J82 hG hrc hc20 h
theorem TX6_worstBy_L20 {G : kG} {n : Nat} {m d : Nat} {X : kX} (hG : kg_N G = 55 + 14 * n) {rc : kS × Int32 → Option (Int32 × kS)} (hrc : ∀ (q : kS × Int32) (res : Int32 × kS), rc q = some res → kEv X.2.1 G ((d + 2 * m) + 2) mX6_worstOf [.ref (kg_ad G (kbo 5)), .int q.2] (kgl G n q.1) (some (.int res.1)) (kgl G n res.2)) {S : kS} {v1 : Int32} {v3 : Int32} {v4 : Int32} {v5 : Int32} {v6 : Int32} {res : Int32 × kS} (h : FX6_worstBy_L20 rc S v1 v3 v4 v5 v6 = some res) : kV (X, RX6, 8, (some .int), G, krm ((d + 2 * m) + 3), (0, 0), kQ X G (some (.int res.1)) (kgl G n res.2)) cX6_worstBy (kgl G n S) [some (.ref (kg_ad G (kbo 5))), some (.int v1), none, some (.int v3), some (.int v4), some (.int v5), some (.int v6), none] [] 20 := by
  unfold FX6_worstBy_L20 at h
  exact kfix_ok (P := fun (q : kS × Int32 × Int32 × Int32 × Int32 × Int32) (res : Int32 × kS) => kV (X, RX6, 8, (some .int), G, krm ((d + 2 * m) + 3), (0, 0), kQ X G (some (.int res.1)) (kgl G n res.2)) cX6_worstBy (kgl G n q.1) [some (.ref (kg_ad G (kbo 5))), some (.int (q.2.1)), none, some (.int (q.2.2.1)), some (.int (q.2.2.2.1)), some (.int (q.2.2.2.2.1)), some (.int (q.2.2.2.2.2)), none] [] 20) (fun rec hrec q res hq => TX6_worstBy_B20 hG hrc hrec hq) kfuel _ _ h
theorem okX6_worstBy {l : Launch} {G : kG} {n : Nat} (hG : kg_N G = 55 + 14 * n) (m d : Nat) {rc : kS × Int32 → Option (Int32 × kS)} (hrc : ∀ (q : kS × Int32) (res : Int32 × kS), rc q = some res → kEv l G ((d + 2 * m) + 2) mX6_worstOf [.ref (kg_ad G (kbo 5)), .int q.2] (kgl G n q.1) (some (.int res.1)) (kgl G n res.2)) {S : kS} {a1 : Int32} {a2 : Int32} {res : Int32 × kS} (h : FX6_worstBy rc S a1 a2 = some res) : kEv l G ((d + 2 * m) + 3) mX6_worstBy [.ref (kg_ad G (kbo 5)), .int a1, .int a2] (kgl G n S) (some (.int res.1)) (kgl G n res.2) := by
  refine kEv_of RX6 [some (.ref (kg_ad G (kbo 5))), some (.int a1), some (.int a2), none, none, none, none, none] rfl (by decide +kernel) rfl rfl rfl rfl (fun X hX => ?_)
  subst hX
  unfold FX6_worstBy at h
  refine kV_iconst 1 dX6_worstBy_0 ic_5 rfl ?_
  refine kV_iloadn 2 dX6_worstBy_1 rfl rfl ?_
  refine kV_imul 3 dX6_worstBy_2 rfl ?_
  refine kV_iloadn 4 dX6_worstBy_3 rfl rfl ?_
  refine kV_iadd 5 dX6_worstBy_4 rfl ?_
  refine kV_istoren 6 [some (.ref (kg_ad G (kbo 5))), some (.int a1), some (.int a2), some (.int (((5 : Int32) * a1) + a2)), none, none, none, none] dX6_worstBy_5 rfl rfl rfl ?_
  refine kV_aloadn 7 dX6_worstBy_6 rfl rfl ?_
  refine rg6_25 10 dX6_worstBy_7 (kOk_of hG rfl) rfl rfl ?_
  refine kV_iloadn 11 dX6_worstBy_10 rfl rfl ?_
  obtain ⟨hi, h⟩ := kgd_ex h
  obtain ⟨x1, hx, h⟩ := kb_ex h
  refine rl6_7 12 dX6_worstBy_11 (kOk_of hG rfl) rfl hi hx rfl ?_
  clear hi hx
  refine kV_istore 14 [some (.ref (kg_ad G (kbo 5))), some (.int a1), some (.int a2), some (.int (((5 : Int32) * a1) + a2)), some (.int x1), none, none, none] dX6_worstBy_12 rfl rfl rfl ?_
  refine kV_iconst 15 dX6_worstBy_14 ic_m1 rfl ?_
  refine kV_istore 17 [some (.ref (kg_ad G (kbo 5))), some (.int a1), some (.int a2), some (.int (((5 : Int32) * a1) + a2)), some (.int x1), some (.int (-1 : Int32)), none, none] dX6_worstBy_15 rfl rfl rfl ?_
  refine kV_iconst 18 dX6_worstBy_17 ic_0 rfl ?_
  refine kV_istore 20 [some (.ref (kg_ad G (kbo 5))), some (.int a1), some (.int a2), some (.int (((5 : Int32) * a1) + a2)), some (.int x1), some (.int (-1 : Int32)), some (.int (0 : Int32)), none] dX6_worstBy_18 rfl rfl rfl ?_
  refine kV_drop [true, true, false, true, true, true, true, false] rfl ?_
  exact TX6_worstBy_L20 hG hrc h
def FX6_worstOf_J116 (rc : kS × Int32 → Option (Int32 × kS)) (S : kS) (v2 : Int32) (s0 : Int32) (s1 : Int32) : Option (Int32 × kS) :=
  kgd (kin s1 3125) <| kb (kpA S 5 44 s1 s0) fun S1 => kgd (kin v2 3125) <| kb (kA S1 5 44 v2) fun x1 => some (x1, S1)
def FX6_worstOf_J95 (rc : kS × Int32 → Option (Int32 × kS)) (c32 : kS × Int32 × Int32 × Int32 × Int32 × Int32 → Option (Int32 × kS)) (S : kS) (v1 : Int32) (v2 : Int32) (v3 : Int32) (v4 : Int32) (v5 : Int32) : Option (Int32 × kS) :=
  c32 (S, v1, v2, v3, v4, (v5 + (1 : Int32)))
def FX6_worstOf_J94 (rc : kS × Int32 → Option (Int32 × kS)) (c32 : kS × Int32 × Int32 × Int32 × Int32 × Int32 → Option (Int32 × kS)) (S : kS) (v1 : Int32) (v2 : Int32) (v4 : Int32) (v5 : Int32) (s0 : Int32) : Option (Int32 × kS) :=
  FX6_worstOf_J95 rc c32 S v1 v2 s0 v4 v5
def FX6_worstOf_B32 (rc : kS × Int32 → Option (Int32 × kS)) (c32 : kS × Int32 × Int32 × Int32 × Int32 × Int32 → Option (Int32 × kS)) (S : kS) (v1 : Int32) (v2 : Int32) (v3 : Int32) (v4 : Int32) (v5 : Int32) : Option (Int32 × kS) :=
  kgd (kin v1 3) <| kb (kA S 5 2 v1) fun x1 => if x1 ≤ v5 then (if v4 = 0 then (FX6_worstOf_J116 rc S v2 (0 : Int32) v2) else (FX6_worstOf_J116 rc S v2 v3 v2)) else ((FX6_isWanted S v1 v5).bind fun x2 => if x2 = 0 then (FX6_worstOf_J95 rc c32 S v1 v2 v3 v4 v5) else (kgd (kin (((5 : Int32) * v1) + v5) 15) <| kb (kA S 5 8 (((5 : Int32) * v1) + v5)) fun x3 => if x3 = 0 then (kb2 (FX6_worstBy rc S v1 v5) fun x4 S1 => if v3 ≤ x4 then (FX6_worstOf_J94 rc c32 S1 v1 v2 (1 : Int32) v5 v3) else (FX6_worstOf_J94 rc c32 S1 v1 v2 (1 : Int32) v5 x4)) else (FX6_worstOf_J95 rc c32 S v1 v2 v3 v4 v5)))
def FX6_worstOf_L32 (rc : kS × Int32 → Option (Int32 × kS)) (S : kS) (v1 : Int32) (v2 : Int32) (v3 : Int32) (v4 : Int32) (v5 : Int32) : Option (Int32 × kS) :=
  kfix (fun rec (q : kS × Int32 × Int32 × Int32 × Int32 × Int32) => FX6_worstOf_B32 rc rec q.1 q.2.1 q.2.2.1 q.2.2.2.1 q.2.2.2.2.1 q.2.2.2.2.2) kfuel (S, v1, v2, v3, v4, v5)
def FX6_worstOf (rc : kS × Int32 → Option (Int32 × kS)) (S : kS) (a1 : Int32) : Option (Int32 × kS) :=
  (FX6_state S a1).bind fun x1 => kgd (kin x1 3125) <| kb (kA S 5 44 x1) fun x2 => if x2 = (-1 : Int32) then (FX6_worstOf_L32 rc S a1 x1 (100 : Int32) (0 : Int32) (0 : Int32)) else (kgd (kin x1 3125) <| kb (kA S 5 44 x1) fun x3 => some (x3, S))
theorem TX6_worstOf_J116 {G : kG} {n : Nat} {m d : Nat} {X : kX} (hG : kg_N G = 55 + 14 * n) {rc : kS × Int32 → Option (Int32 × kS)} (hrc : ∀ (q : kS × Int32) (res : Int32 × kS), rc q = some res → kEv X.2.1 G ((d + 2 * m) + 2) mX6_worstOf [.ref (kg_ad G (kbo 5)), .int q.2] (kgl G n q.1) (some (.int res.1)) (kgl G n res.2)) {S : kS} {v2 : Int32} {s0 : Int32} {s1 : Int32} {res : Int32 × kS} (h : FX6_worstOf_J116 rc S v2 s0 s1 = some res) : kV (X, RX6, 7, (some .int), G, krm ((d + 2 * m) + 4), (0, 0), kQ X G (some (.int res.1)) (kgl G n res.2)) cX6_worstOf (kgl G n S) [some (.ref (kg_ad G (kbo 5))), none, some (.int v2), none, none, none, none] [.int s0, .int s1, .ref (kg_ad G (kbo 5 + 30))] 116 := by
  unfold FX6_worstOf_J116 at h
  obtain ⟨hi, h⟩ := kgd_ex h
  obtain ⟨S1, hx, h⟩ := kb_ex h
  refine rs6_44 117 dX6_worstOf_116 (kOk_of hG rfl) rfl hi hx rfl ?_
  clear hi hx
  refine kV_aloadn 118 dX6_worstOf_117 rfl rfl ?_
  refine rg6_105 121 dX6_worstOf_118 (kOk_of hG rfl) rfl rfl ?_
  refine kV_iloadn 122 dX6_worstOf_121 rfl rfl ?_
  obtain ⟨hi, h⟩ := kgd_ex h
  obtain ⟨x1, hx, h⟩ := kb_ex h
  refine rl6_44 123 dX6_worstOf_122 (kOk_of hG rfl) rfl hi hx rfl ?_
  clear hi hx
  cases h
  exact kV_iret dX6_worstOf_123
theorem TX6_worstOf_J95 {G : kG} {n : Nat} {m d : Nat} {X : kX} (hG : kg_N G = 55 + 14 * n) {rc : kS × Int32 → Option (Int32 × kS)} (hrc : ∀ (q : kS × Int32) (res : Int32 × kS), rc q = some res → kEv X.2.1 G ((d + 2 * m) + 2) mX6_worstOf [.ref (kg_ad G (kbo 5)), .int q.2] (kgl G n q.1) (some (.int res.1)) (kgl G n res.2)) {c32 : kS × Int32 × Int32 × Int32 × Int32 × Int32 → Option (Int32 × kS)} {S : kS} (hc32 : ∀ (q : kS × Int32 × Int32 × Int32 × Int32 × Int32) (res : Int32 × kS), c32 q = some res → kV (X, RX6, 7, (some .int), G, krm ((d + 2 * m) + 4), (0, 0), kQ X G (some (.int res.1)) (kgl G n res.2)) cX6_worstOf (kgl G n q.1) [some (.ref (kg_ad G (kbo 5))), some (.int (q.2.1)), some (.int (q.2.2.1)), some (.int (q.2.2.2.1)), some (.int (q.2.2.2.2.1)), some (.int (q.2.2.2.2.2)), none] [] 32) {v1 : Int32} {v2 : Int32} {v3 : Int32} {v4 : Int32} {v5 : Int32} {res : Int32 × kS} (h : FX6_worstOf_J95 rc c32 S v1 v2 v3 v4 v5 = some res) : kV (X, RX6, 7, (some .int), G, krm ((d + 2 * m) + 4), (0, 0), kQ X G (some (.int res.1)) (kgl G n res.2)) cX6_worstOf (kgl G n S) [some (.ref (kg_ad G (kbo 5))), some (.int v1), some (.int v2), some (.int v3), some (.int v4), some (.int v5), none] [] 95 := by
  unfold FX6_worstOf_J95 at h
  refine kV_iinc 98 [some (.ref (kg_ad G (kbo 5))), some (.int v1), some (.int v2), some (.int v3), some (.int v4), some (.int (v5 + (1 : Int32))), none] dX6_worstOf_95 rfl (kinc_1 _) rfl rfl rfl ?_
  refine kV_goto 32 dX6_worstOf_98 (by decide) ?_
  refine kV_drop [true, true, true, true, true, true, false] rfl ?_
  exact hc32 _ _ h
theorem TX6_worstOf_J94 {G : kG} {n : Nat} {m d : Nat} {X : kX} (hG : kg_N G = 55 + 14 * n) {rc : kS × Int32 → Option (Int32 × kS)} (hrc : ∀ (q : kS × Int32) (res : Int32 × kS), rc q = some res → kEv X.2.1 G ((d + 2 * m) + 2) mX6_worstOf [.ref (kg_ad G (kbo 5)), .int q.2] (kgl G n q.1) (some (.int res.1)) (kgl G n res.2)) {c32 : kS × Int32 × Int32 × Int32 × Int32 × Int32 → Option (Int32 × kS)} {S : kS} (hc32 : ∀ (q : kS × Int32 × Int32 × Int32 × Int32 × Int32) (res : Int32 × kS), c32 q = some res → kV (X, RX6, 7, (some .int), G, krm ((d + 2 * m) + 4), (0, 0), kQ X G (some (.int res.1)) (kgl G n res.2)) cX6_worstOf (kgl G n q.1) [some (.ref (kg_ad G (kbo 5))), some (.int (q.2.1)), some (.int (q.2.2.1)), some (.int (q.2.2.2.1)), some (.int (q.2.2.2.2.1)), some (.int (q.2.2.2.2.2)), none] [] 32) {v1 : Int32} {v2 : Int32} {v4 : Int32} {v5 : Int32} {s0 : Int32} {res : Int32 × kS} (h : FX6_worstOf_J94 rc c32 S v1 v2 v4 v5 s0 = some res) : kV (X, RX6, 7, (some .int), G, krm ((d + 2 * m) + 4), (0, 0), kQ X G (some (.int res.1)) (kgl G n res.2)) cX6_worstOf (kgl G n S) [some (.ref (kg_ad G (kbo 5))), some (.int v1), some (.int v2), none, some (.int v4), some (.int v5), none] [.int s0] 94 := by
  unfold FX6_worstOf_J94 at h
  refine kV_istoren 95 [some (.ref (kg_ad G (kbo 5))), some (.int v1), some (.int v2), some (.int s0), some (.int v4), some (.int v5), none] dX6_worstOf_94 rfl rfl rfl ?_
  refine kV_drop [true, true, true, true, true, true, false] rfl ?_
  exact TX6_worstOf_J95 hG hrc hc32 h
theorem TX6_worstOf_B32 {G : kG} {n : Nat} {m d : Nat} {X : kX} (hG : kg_N G = 55 + 14 * n) {rc : kS × Int32 → Option (Int32 × kS)} (hrc : ∀ (q : kS × Int32) (res : Int32 × kS), rc q = some res → kEv X.2.1 G ((d + 2 * m) + 2) mX6_worstOf [.ref (kg_ad G (kbo 5)), .int q.2] (kgl G n q.1) (some (.int res.1)) (kgl G n res.2)) {c32 : kS × Int32 × Int32 × Int32 × Int32 × Int32 → Option (Int32 × kS)} (hc32 : ∀ (q : kS × Int32 × Int32 × Int32 × Int32 × Int32) (res : Int32 × kS), c32 q = some res → kV (X, RX6, 7, (some .int), G, krm ((d + 2 * m) + 4), (0, 0), kQ X G (some (.int res.1)) (kgl G n res.2)) cX6_worstOf (kgl G n q.1) [some (.ref (kg_ad G (kbo 5))), some (.int (q.2.1)), some (.int (q.2.2.1)), some (.int (q.2.2.2.1)), some (.int (q.2.2.2.2.1)), some (.int (q.2.2.2.2.2)), none] [] 32) {S : kS} {v1 : Int32} {v2 : Int32} {v3 : Int32} {v4 : Int32} {v5 : Int32} {res : Int32 × kS} (h : FX6_worstOf_B32 rc c32 S v1 v2 v3 v4 v5 = some res) : kV (X, RX6, 7, (some .int), G, krm ((d + 2 * m) + 4), (0, 0), kQ X G (some (.int res.1)) (kgl G n res.2)) cX6_worstOf (kgl G n S) [some (.ref (kg_ad G (kbo 5))), some (.int v1), some (.int v2), some (.int v3), some (.int v4), some (.int v5), none] [] 32 := by
  unfold FX6_worstOf_B32 at h
  refine kV_iload 34 dX6_worstOf_32 rfl rfl ?_
  refine kV_aloadn 35 dX6_worstOf_34 rfl rfl ?_
  refine rg6_7 38 dX6_worstOf_35 (kOk_of hG rfl) rfl rfl ?_
  refine kV_iloadn 39 dX6_worstOf_38 rfl rfl ?_
  obtain ⟨hi, h⟩ := kgd_ex h
  obtain ⟨x1, hx, h⟩ := kb_ex h
  refine rl6_2 40 dX6_worstOf_39 (kOk_of hG rfl) rfl hi hx rfl ?_
  clear hi hx
  rcases kif_ex h with ⟨hc, h⟩ | ⟨hc, h⟩
  · refine kV_icmp_ge_t 101 dX6_worstOf_40 (by decide) hc ?_
    clear hc
    refine kV_aloadn 102 dX6_worstOf_101 rfl rfl ?_
    refine rg6_105 105 dX6_worstOf_102 (kOk_of hG rfl) rfl rfl ?_
    refine kV_iloadn 106 dX6_worstOf_105 rfl rfl ?_
    refine kV_iload 108 dX6_worstOf_106 rfl rfl ?_
    rcases kif_ex h with ⟨hc, h⟩ | ⟨hc, h⟩
    · refine kV_if_eq_t 115 dX6_worstOf_108 (by decide) hc ?_
      clear hc
      refine kV_iconst 116 dX6_worstOf_115 ic_0 rfl ?_
      refine kV_drop [true, false, true, false, false, false, false] rfl ?_
      exact TX6_worstOf_J116 hG hrc h
    · refine kV_if_eq_f 115 111 dX6_worstOf_108 (by decide) hc rfl ?_
      clear hc
      refine kV_iloadn 112 dX6_worstOf_111 rfl rfl ?_
      refine kV_goto 116 dX6_worstOf_112 (by decide) ?_
      refine kV_drop [true, false, true, false, false, false, false] rfl ?_
      exact TX6_worstOf_J116 hG hrc h
  · refine kV_icmp_ge_f 101 43 dX6_worstOf_40 (by decide) hc rfl ?_
    clear hc
    refine kV_aloadn 44 dX6_worstOf_43 rfl rfl ?_
    refine kV_iloadn 45 dX6_worstOf_44 rfl rfl ?_
    refine kV_iload 47 dX6_worstOf_45 rfl rfl ?_
    obtain ⟨x2, hx, h⟩ := kbi_ex h
    refine kC_V 50 [] [.int x2] dX6_worstOf_47 (okX6_isWanted hG ((d + 2 * m) + 1)  hx) kmvX6_isWanted (wi_r28 _ (List.mem_of_getElem? (i := 21) rfl)) (kOk_of hG rfl) rfl rfl rfl rfl rfl rfl ?_
    clear hx
    rcases kif_ex h with ⟨hc, h⟩ | ⟨hc, h⟩
    · refine kV_if_eq_t 95 dX6_worstOf_50 (by decide) hc ?_
      clear hc
      refine kV_drop [true, true, true, true, true, true, false] rfl ?_
      exact TX6_worstOf_J95 hG hrc hc32 h
    · refine kV_if_eq_f 95 53 dX6_worstOf_50 (by decide) hc rfl ?_
      clear hc
      refine kV_aloadn 54 dX6_worstOf_53 rfl rfl ?_
      refine rg6_28 57 dX6_worstOf_54 (kOk_of hG rfl) rfl rfl ?_
      refine kV_iconst 58 dX6_worstOf_57 ic_5 rfl ?_
      refine kV_iloadn 59 dX6_worstOf_58 rfl rfl ?_
      refine kV_imul 60 dX6_worstOf_59 rfl ?_
      refine kV_iload 62 dX6_worstOf_60 rfl rfl ?_
      refine kV_iadd 63 dX6_worstOf_62 rfl ?_
      obtain ⟨hi, h⟩ := kgd_ex h
      obtain ⟨x3, hx, h⟩ := kb_ex h
      refine rl6_8 64 dX6_worstOf_63 (kOk_of hG rfl) rfl hi hx rfl ?_
      clear hi hx
      rcases kif_ex h with ⟨hc, h⟩ | ⟨hc, h⟩
      · refine kV_if_eq_t 70 dX6_worstOf_64 (by decide) hc ?_
        clear hc
        refine kV_iconst 71 dX6_worstOf_70 ic_1 rfl ?_
        refine kV_istore 73 [some (.ref (kg_ad G (kbo 5))), some (.int v1), some (.int v2), some (.int v3), some (.int (1 : Int32)), some (.int v5), none] dX6_worstOf_71 rfl rfl rfl ?_
        refine kV_aloadn 74 dX6_worstOf_73 rfl rfl ?_
        refine kV_iloadn 75 dX6_worstOf_74 rfl rfl ?_
        refine kV_iload 77 dX6_worstOf_75 rfl rfl ?_
        obtain ⟨x4, S1, hx, h⟩ := kb2_ex h
        refine kC_V 80 [] [.int x4] dX6_worstOf_77 (okX6_worstBy hG m d  hrc hx) kmvX6_worstBy (wi_r29 _ (List.mem_of_getElem? (i := 5) rfl)) (kOk_of hG rfl) rfl rfl rfl rfl rfl rfl ?_
        clear hx
        refine kV_istore 82 [some (.ref (kg_ad G (kbo 5))), some (.int v1), some (.int v2), some (.int v3), some (.int (1 : Int32)), some (.int v5), some (.int x4)] dX6_worstOf_80 rfl rfl rfl ?_
        refine kV_iload 84 dX6_worstOf_82 rfl rfl ?_
        refine kV_iloadn 85 dX6_worstOf_84 rfl rfl ?_
        rcases kif_ex h with ⟨hc, h⟩ | ⟨hc, h⟩
        · refine kV_icmp_ge_t 93 dX6_worstOf_85 (by decide) hc ?_
          clear hc
          refine kV_iloadn 94 dX6_worstOf_93 rfl rfl ?_
          refine kV_drop [true, true, true, false, true, true, false] rfl ?_
          exact TX6_worstOf_J94 hG hrc hc32 h
        · refine kV_icmp_ge_f 93 88 dX6_worstOf_85 (by decide) hc rfl ?_
          clear hc
          refine kV_iload 90 dX6_worstOf_88 rfl rfl ?_
          refine kV_goto 94 dX6_worstOf_90 (by decide) ?_
          refine kV_drop [true, true, true, false, true, true, false] rfl ?_
          exact TX6_worstOf_J94 hG hrc hc32 h
      · refine kV_if_eq_f 70 67 dX6_worstOf_64 (by decide) hc rfl ?_
        clear hc
        refine kV_goto 95 dX6_worstOf_67 (by decide) ?_
        refine kV_drop [true, true, true, true, true, true, false] rfl ?_
        exact TX6_worstOf_J95 hG hrc hc32 h
theorem TX6_worstOf_L32 {G : kG} {n : Nat} {m d : Nat} {X : kX} (hG : kg_N G = 55 + 14 * n) {rc : kS × Int32 → Option (Int32 × kS)} (hrc : ∀ (q : kS × Int32) (res : Int32 × kS), rc q = some res → kEv X.2.1 G ((d + 2 * m) + 2) mX6_worstOf [.ref (kg_ad G (kbo 5)), .int q.2] (kgl G n q.1) (some (.int res.1)) (kgl G n res.2)) {S : kS} {v1 : Int32} {v2 : Int32} {v3 : Int32} {v4 : Int32} {v5 : Int32} {res : Int32 × kS} (h : FX6_worstOf_L32 rc S v1 v2 v3 v4 v5 = some res) : kV (X, RX6, 7, (some .int), G, krm ((d + 2 * m) + 4), (0, 0), kQ X G (some (.int res.1)) (kgl G n res.2)) cX6_worstOf (kgl G n S) [some (.ref (kg_ad G (kbo 5))), some (.int v1), some (.int v2), some (.int v3), some (.int v4), some (.int v5), none] [] 32 := by
  unfold FX6_worstOf_L32 at h
  exact kfix_ok (P := fun (q : kS × Int32 × Int32 × Int32 × Int32 × Int32) (res : Int32 × kS) => kV (X, RX6, 7, (some .int), G, krm ((d + 2 * m) + 4), (0, 0), kQ X G (some (.int res.1)) (kgl G n res.2)) cX6_worstOf (kgl G n q.1) [some (.ref (kg_ad G (kbo 5))), some (.int (q.2.1)), some (.int (q.2.2.1)), some (.int (q.2.2.2.1)), some (.int (q.2.2.2.2.1)), some (.int (q.2.2.2.2.2)), none] [] 32) (fun rec hrec q res hq => TX6_worstOf_B32 hG hrc hrec hq) kfuel _ _ h
theorem okX6_worstOf {l : Launch} {G : kG} {n : Nat} (hG : kg_N G = 55 + 14 * n) (m d : Nat) {rc : kS × Int32 → Option (Int32 × kS)} (hrc : ∀ (q : kS × Int32) (res : Int32 × kS), rc q = some res → kEv l G ((d + 2 * m) + 2) mX6_worstOf [.ref (kg_ad G (kbo 5)), .int q.2] (kgl G n q.1) (some (.int res.1)) (kgl G n res.2)) {S : kS} {a1 : Int32} {res : Int32 × kS} (h : FX6_worstOf rc S a1 = some res) : kEv l G ((d + 2 * m) + 4) mX6_worstOf [.ref (kg_ad G (kbo 5)), .int a1] (kgl G n S) (some (.int res.1)) (kgl G n res.2) := by
  refine kEv_of RX6 [some (.ref (kg_ad G (kbo 5))), some (.int a1), none, none, none, none, none] rfl (by decide +kernel) rfl rfl rfl rfl (fun X hX => ?_)
  subst hX
  unfold FX6_worstOf at h
  refine kV_aloadn 1 dX6_worstOf_0 rfl rfl ?_
  refine kV_iloadn 2 dX6_worstOf_1 rfl rfl ?_
  obtain ⟨x1, hx, h⟩ := kbi_ex h
  refine kC_V 5 [] [.int x1] dX6_worstOf_2 (okX6_state hG ((d + 2 * m) + 1)  hx) kmvX6_state (wi_r29 _ (List.mem_of_getElem? (i := 13) rfl)) (kOk_of hG rfl) rfl rfl rfl rfl rfl rfl ?_
  clear hx
  refine kV_istoren 6 [some (.ref (kg_ad G (kbo 5))), some (.int a1), some (.int x1), none, none, none, none] dX6_worstOf_5 rfl rfl rfl ?_
  refine kV_aloadn 7 dX6_worstOf_6 rfl rfl ?_
  refine rg6_105 10 dX6_worstOf_7 (kOk_of hG rfl) rfl rfl ?_
  refine kV_iloadn 11 dX6_worstOf_10 rfl rfl ?_
  obtain ⟨hi, h⟩ := kgd_ex h
  obtain ⟨x2, hx, h⟩ := kb_ex h
  refine rl6_44 12 dX6_worstOf_11 (kOk_of hG rfl) rfl hi hx rfl ?_
  clear hi hx
  refine kV_iconst 13 dX6_worstOf_12 ic_m1 rfl ?_
  rcases kif_ex h with ⟨hc, h⟩ | ⟨hc, h⟩
  · refine kV_icmp_eq_t 23 dX6_worstOf_13 (by decide) hc ?_
    clear hc
    refine kV_bipush 25 dX6_worstOf_23 bp_100 rfl ?_
    refine kV_istoren 26 [some (.ref (kg_ad G (kbo 5))), some (.int a1), some (.int x1), some (.int (100 : Int32)), none, none, none] dX6_worstOf_25 rfl rfl rfl ?_
    refine kV_iconst 27 dX6_worstOf_26 ic_0 rfl ?_
    refine kV_istore 29 [some (.ref (kg_ad G (kbo 5))), some (.int a1), some (.int x1), some (.int (100 : Int32)), some (.int (0 : Int32)), none, none] dX6_worstOf_27 rfl rfl rfl ?_
    refine kV_iconst 30 dX6_worstOf_29 ic_0 rfl ?_
    refine kV_istore 32 [some (.ref (kg_ad G (kbo 5))), some (.int a1), some (.int x1), some (.int (100 : Int32)), some (.int (0 : Int32)), some (.int (0 : Int32)), none] dX6_worstOf_30 rfl rfl rfl ?_
    refine kV_drop [true, true, true, true, true, true, false] rfl ?_
    exact TX6_worstOf_L32 hG hrc h
  · refine kV_icmp_eq_f 23 16 dX6_worstOf_13 (by decide) hc rfl ?_
    clear hc
    refine kV_aloadn 17 dX6_worstOf_16 rfl rfl ?_
    refine rg6_105 20 dX6_worstOf_17 (kOk_of hG rfl) rfl rfl ?_
    refine kV_iloadn 21 dX6_worstOf_20 rfl rfl ?_
    obtain ⟨hi, h⟩ := kgd_ex h
    obtain ⟨x3, hx, h⟩ := kb_ex h
    refine rl6_44 22 dX6_worstOf_21 (kOk_of hG rfl) rfl hi hx rfl ?_
    clear hi hx
    cases h
    exact kV_iret dX6_worstOf_22
def FX6_worstOfR (m : Nat) (q : kS × Int32) : Option (Int32 × kS) := kfix (fun rc q => FX6_worstOf rc q.1 q.2) m q
theorem okX6_worstOfR {l : Launch} {G : kG} {n : Nat} (hG : kg_N G = 55 + 14 * n) (d m : Nat) : ∀ (q : kS × Int32) (res : Int32 × kS), FX6_worstOfR m q = some res → kEv l G (d + 2 * m + 2) mX6_worstOf [.ref (kg_ad G (kbo 5)), .int q.2] (kgl G n q.1) (some (.int res.1)) (kgl G n res.2) := by
  refine kfix_okD (P := fun m (q : kS × Int32) (res : Int32 × kS) => kEv l G (d + 2 * m + 2) mX6_worstOf [.ref (kg_ad G (kbo 5)), .int q.2] (kgl G n q.1) (some (.int res.1)) (kgl G n res.2)) (fun m rec hrec q res hq => ?_) m
  have e : d + 2 * (m + 1) + 2 = d + 2 * m + 4 := by omega
  rw [e]
  exact okX6_worstOf hG m d (fun q res h2 => hrec q res h2) hq
theorem okX6_worstOf6 {l : Launch} {G : kG} {n : Nat} (hG : kg_N G = 55 + 14 * n) (d : Nat) {S : kS} {a1 x : Int32} {S' : kS} (h : FX6_worstOfR 6 (S, a1) = some (x, S')) : kEv l G (d + 14) mX6_worstOf [.ref (kg_ad G (kbo 5)), .int a1] (kgl G n S) (some (.int x)) (kgl G n S') := by
  have e : d + 14 = d + 2 * 6 + 2 := by omega
  rw [e]
  exact okX6_worstOfR hG d 6 _ _ h
theorem okX6_worstBy6 {l : Launch} {G : kG} {n : Nat} (hG : kg_N G = 55 + 14 * n) (d : Nat) {S : kS} {a1 a2 x : Int32} {S' : kS} (h : FX6_worstBy (FX6_worstOfR 6) S a1 a2 = some (x, S')) : kEv l G (d + 15) mX6_worstBy [.ref (kg_ad G (kbo 5)), .int a1, .int a2] (kgl G n S) (some (.int x)) (kgl G n S') := by
  have e : d + 15 = d + 2 * 6 + 3 := by omega
  rw [e]
  exact okX6_worstBy hG 6 d (fun q res h2 => okX6_worstOfR hG d 6 q res h2) h
abbrev mX6_forget : kM := (yX6_forget, cX6_forget, 2, none)
theorem kmvX6_forget : kMv mX6_forget 0 6 := ⟨⟨(wi_r29 _ (List.mem_of_getElem? (i := 4) rfl)), (wi_r1 _ (List.mem_of_getElem? (i := 5) rfl)), ⟨by decide +kernel, by decide +kernel, by decide +kernel⟩, by decide⟩, (wi_r29 _ (List.mem_of_getElem? (i := 2) rfl)), (wi_r29 _ (List.mem_of_getElem? (i := 3) rfl)), rfl⟩
def FX6_forget_B2 (c2 : kS × Int32 → Option (kS)) (S : kS) (v1 : Int32) : Option (kS) :=
  if (3125 : Int32) ≤ v1 then (some S) else (kgd (kin v1 3125) <| kb (kpA S 5 44 v1 (-1 : Int32)) fun S1 => c2 (S1, (v1 + (1 : Int32))))
def FX6_forget_L2 (S : kS) (v1 : Int32) : Option (kS) :=
  kfix (fun rec (q : kS × Int32) => FX6_forget_B2 rec q.1 q.2) kfuel (S, v1)
def FX6_forget (S : kS) : Option (kS) :=
  FX6_forget_L2 S (0 : Int32)
theorem TX6_forget_B2 {G : kG} {n : Nat} {d : Nat} {X : kX} (hG : kg_N G = 55 + 14 * n) {c2 : kS × Int32 → Option (kS)} (hc2 : ∀ (q : kS × Int32) (res : kS), c2 q = some res → kV (X, RX6, 2, none, G, krm (d + 0), (0, 0), kQ X G none (kgl G n res)) cX6_forget (kgl G n q.1) [some (.ref (kg_ad G (kbo 5))), some (.int (q.2))] [] 2) {S : kS} {v1 : Int32} {res : kS} (h : FX6_forget_B2 c2 S v1 = some res) : kV (X, RX6, 2, none, G, krm (d + 0), (0, 0), kQ X G none (kgl G n res)) cX6_forget (kgl G n S) [some (.ref (kg_ad G (kbo 5))), some (.int v1)] [] 2 := by
  unfold FX6_forget_B2 at h
  refine kV_iloadn 3 dX6_forget_2 rfl rfl ?_
  refine kV_sipush 6 dX6_forget_3 sp_3125 rfl ?_
  rcases kif_ex h with ⟨hc, h⟩ | ⟨hc, h⟩
  · refine kV_icmp_ge_t 22 dX6_forget_6 (by decide) hc ?_
    clear hc
    cases h
    exact kV_vret dX6_forget_22
  · refine kV_icmp_ge_f 22 9 dX6_forget_6 (by decide) hc rfl ?_
    clear hc
    refine kV_aloadn 10 dX6_forget_9 rfl rfl ?_
    refine rg6_105 13 dX6_forget_10 (kOk_of hG rfl) rfl rfl ?_
    refine kV_iloadn 14 dX6_forget_13 rfl rfl ?_
    refine kV_iconst 15 dX6_forget_14 ic_m1 rfl ?_
    obtain ⟨hi, h⟩ := kgd_ex h
    obtain ⟨S1, hx, h⟩ := kb_ex h
    refine rs6_44 16 dX6_forget_15 (kOk_of hG rfl) rfl hi hx rfl ?_
    clear hi hx
    refine kV_iinc 19 [some (.ref (kg_ad G (kbo 5))), some (.int (v1 + (1 : Int32)))] dX6_forget_16 rfl (kinc_1 _) rfl rfl rfl ?_
    refine kV_goto 2 dX6_forget_19 (by decide) ?_
    refine kV_drop [true, true] rfl ?_
    exact hc2 _ _ h
theorem TX6_forget_L2 {G : kG} {n : Nat} {d : Nat} {X : kX} (hG : kg_N G = 55 + 14 * n) {S : kS} {v1 : Int32} {res : kS} (h : FX6_forget_L2 S v1 = some res) : kV (X, RX6, 2, none, G, krm (d + 0), (0, 0), kQ X G none (kgl G n res)) cX6_forget (kgl G n S) [some (.ref (kg_ad G (kbo 5))), some (.int v1)] [] 2 := by
  unfold FX6_forget_L2 at h
  exact kfix_ok (P := fun (q : kS × Int32) (res : kS) => kV (X, RX6, 2, none, G, krm (d + 0), (0, 0), kQ X G none (kgl G n res)) cX6_forget (kgl G n q.1) [some (.ref (kg_ad G (kbo 5))), some (.int (q.2))] [] 2) (fun rec hrec q res hq => TX6_forget_B2 hG hrec hq) kfuel _ _ h
theorem okX6_forget {l : Launch} {G : kG} {n : Nat} (hG : kg_N G = 55 + 14 * n) (d : Nat) {S : kS} {res : kS} (h : FX6_forget S = some res) : kEv l G (d + 0) mX6_forget [.ref (kg_ad G (kbo 5))] (kgl G n S) none (kgl G n res) := by
  refine kEv_of RX6 [some (.ref (kg_ad G (kbo 5))), none] rfl (by decide +kernel) rfl rfl rfl rfl (fun X hX => ?_)
  subst hX
  unfold FX6_forget at h
  refine kV_iconst 1 dX6_forget_0 ic_0 rfl ?_
  refine kV_istoren 2 [some (.ref (kg_ad G (kbo 5))), some (.int (0 : Int32))] dX6_forget_1 rfl rfl rfl ?_
  refine kV_drop [true, true] rfl ?_
  exact TX6_forget_L2 hG h
abbrev mX6_worst : kM := (yX6_worst, cX6_worst, 1, (some .int))
theorem kmvX6_worst : kMv mX6_worst 0 6 := ⟨⟨(wi_r30 _ (List.mem_of_getElem? (i := 4) rfl)), (wi_r1 _ (List.mem_of_getElem? (i := 5) rfl)), ⟨by decide +kernel, by decide +kernel, by decide +kernel⟩, by decide⟩, (wi_r30 _ (List.mem_of_getElem? (i := 2) rfl)), (wi_r30 _ (List.mem_of_getElem? (i := 3) rfl)), rfl⟩
def FX6_worst (S : kS) : Option (Int32 × kS) :=
  kb (kI S 5 25) fun x1 => if x1 = 0 then (some ((-3 : Int32), S)) else ((FX6_forget S).bind fun S1 => kb (kI S1 5 25) fun x2 => kgd (kin (x2 - (1 : Int32)) 3) <| kb (kA S1 5 24 (x2 - (1 : Int32))) fun x3 => kb2 (FX6_worstOfR 6 (S1, x3)) fun x4 S2 => some (x4, S2))
theorem okX6_worst {l : Launch} {G : kG} {n : Nat} (hG : kg_N G = 55 + 14 * n) (d : Nat) {S : kS} {res : Int32 × kS} (h : FX6_worst S = some res) : kEv l G (d + 15) mX6_worst [.ref (kg_ad G (kbo 5))] (kgl G n S) (some (.int res.1)) (kgl G n res.2) := by
  refine kEv_of RX6 [some (.ref (kg_ad G (kbo 5)))] rfl (by decide +kernel) rfl rfl rfl rfl (fun X hX => ?_)
  subst hX
  unfold FX6_worst at h
  refine kV_aloadn 1 dX6_worst_0 rfl rfl ?_
  obtain ⟨x1, hx, h⟩ := kb_ex h
  refine rg6_126 4 dX6_worst_1 (kOk_of hG rfl) rfl hx rfl ?_
  clear hx
  rcases kif_ex h with ⟨hc, h⟩ | ⟨hc, h⟩
  · refine kV_if_ne_f 10 7 dX6_worst_4 (by decide) hc rfl ?_
    clear hc
    refine kV_bipush 9 dX6_worst_7 bp_m3 rfl ?_
    cases h
    exact kV_iret dX6_worst_9
  · refine kV_if_ne_t 10 dX6_worst_4 (by decide) hc ?_
    clear hc
    refine kV_aloadn 11 dX6_worst_10 rfl rfl ?_
    obtain ⟨S1, hx, h⟩ := kbi_ex h
    refine kC_V 14 [] [] dX6_worst_11 (okX6_forget hG (d + 14)  hx) kmvX6_forget (wi_r29 _ (List.mem_of_getElem? (i := 1) rfl)) (kOk_of hG rfl) rfl rfl rfl rfl rfl rfl ?_
    clear hx
    refine kV_aloadn 15 dX6_worst_14 rfl rfl ?_
    refine kV_aloadn 16 dX6_worst_15 rfl rfl ?_
    refine rg6_71 19 dX6_worst_16 (kOk_of hG rfl) rfl rfl ?_
    refine kV_aloadn 20 dX6_worst_19 rfl rfl ?_
    obtain ⟨x2, hx, h⟩ := kb_ex h
    refine rg6_126 23 dX6_worst_20 (kOk_of hG rfl) rfl hx rfl ?_
    clear hx
    refine kV_iconst 24 dX6_worst_23 ic_1 rfl ?_
    refine kV_isub 25 dX6_worst_24 rfl ?_
    obtain ⟨hi, h⟩ := kgd_ex h
    obtain ⟨x3, hx, h⟩ := kb_ex h
    refine rl6_24 26 dX6_worst_25 (kOk_of hG rfl) rfl hi hx rfl ?_
    clear hi hx
    obtain ⟨x4, S2, hx, h⟩ := kb2_ex h
    refine kC_V 29 [] [.int x4] dX6_worst_26 (okX6_worstOf6 hG d  hx) kmvX6_worstOf (wi_r29 _ (List.mem_of_getElem? (i := 9) rfl)) (kOk_of hG rfl) rfl rfl rfl rfl rfl rfl ?_
    clear hx
    cases h
    exact kV_iret dX6_worst_29
abbrev mX6_act : kM := (yX6_act, cX6_act, 7, (some .int))
theorem kmvX6_act : kMv mX6_act 0 6 := ⟨⟨(wi_r28 _ (List.mem_of_getElem? (i := 20) rfl)), (wi_r1 _ (List.mem_of_getElem? (i := 5) rfl)), ⟨by decide +kernel, by decide +kernel, by decide +kernel⟩, by decide⟩, (wi_r28 _ (List.mem_of_getElem? (i := 18) rfl)), (wi_r28 _ (List.mem_of_getElem? (i := 19) rfl)), rfl⟩
def FX6_act_J223 (c159 : kS × Int32 × Int32 × Int32 × Int32 → Option (Int32 × kS)) (S : kS) (v1 : Int32) (v3 : Int32) (v4 : Int32) (v5 : Int32) : Option (Int32 × kS) :=
  c159 (S, v1, v3, v4, (v5 + (1 : Int32)))
def FX6_act_B159 (c159 : kS × Int32 × Int32 × Int32 × Int32 → Option (Int32 × kS)) (S : kS) (v1 : Int32) (v3 : Int32) (v4 : Int32) (v5 : Int32) : Option (Int32 × kS) :=
  kgd (kin v1 3) <| kb (kA S 5 2 v1) fun x1 => if x1 ≤ v5 then (some (((200 : Int32) + ((10 : Int32) * v3)), S)) else ((FX6_isWanted S v1 v5).bind fun x2 => if x2 = 0 then (FX6_act_J223 c159 S v1 v3 v4 v5) else (kgd (kin (((5 : Int32) * v1) + v5) 15) <| kb (kA S 5 8 (((5 : Int32) * v1) + v5)) fun x3 => if x3 = 0 then (kb2 (FX6_worstBy (FX6_worstOfR 6) S v1 v5) fun x4 S1 => if x4 < v4 then (FX6_act_J223 c159 S1 v1 v5 x4 v5) else (FX6_act_J223 c159 S1 v1 v3 v4 v5)) else (FX6_act_J223 c159 S v1 v3 v4 v5)))
def FX6_act_L159 (S : kS) (v1 : Int32) (v3 : Int32) (v4 : Int32) (v5 : Int32) : Option (Int32 × kS) :=
  kfix (fun rec (q : kS × Int32 × Int32 × Int32 × Int32) => FX6_act_B159 rec q.1 q.2.1 q.2.2.1 q.2.2.2.1 q.2.2.2.2) kfuel (S, v1, v3, v4, v5)
def FX6_act_J133 (c31 : kS × Int32 × Int32 × Int32 → Option (Int32 × kS)) (S : kS) (v1 : Int32) (v2 : Int32) (v3 : Int32) : Option (Int32 × kS) :=
  c31 (S, v1, v2, (v3 + (1 : Int32)))
def FX6_act_B31 (c31 : kS × Int32 × Int32 × Int32 → Option (Int32 × kS)) (S : kS) (v1 : Int32) (v2 : Int32) (v3 : Int32) : Option (Int32 × kS) :=
  kgd (kin v1 3) <| kb (kA S 5 2 v1) fun x1 => if x1 ≤ v3 then (if v2 = 0 then ((FX6_forget S).bind fun S1 => FX6_act_L159 S1 v1 (-1 : Int32) (10000 : Int32) (0 : Int32)) else (some ((0 : Int32), S))) else ((FX6_isWanted S v1 v3).bind fun x2 => if x2 = 0 then (FX6_act_J133 c31 S v1 v2 v3) else (kgd (kin (((5 : Int32) * v1) + v3) 15) <| kb (kA S 5 8 (((5 : Int32) * v1) + v3)) fun x3 => if x3 = 0 then (kgd (kin (((5 : Int32) * v1) + v3) 15) <| kb (kA S 5 7 (((5 : Int32) * v1) + v3)) fun x4 => if x4 = 0 then (FX6_act_J133 c31 S v1 (0 : Int32) v3) else (kgd (kin (((5 : Int32) * v1) + v3) 15) <| kb (kA S 5 3 (((5 : Int32) * v1) + v3)) fun x5 => if x5 = (2 : Int32) then (FX6_act_J133 c31 S v1 (0 : Int32) v3) else (kb (kpI S 5 29 v3) fun S2 => kgd (kin (((5 : Int32) * v1) + v3) 15) <| kb (kA S2 5 7 (((5 : Int32) * v1) + v3)) fun x6 => (FX6_lowest S2 x6).bind fun x7 => kb (kpI S2 5 30 x7) fun S3 => kb (kI S3 5 30) fun x8 => some ((((100 : Int32) + ((10 : Int32) * v3)) + x8), S3)))) else (FX6_act_J133 c31 S v1 v2 v3)))
def FX6_act_L31 (S : kS) (v1 : Int32) (v2 : Int32) (v3 : Int32) : Option (Int32 × kS) :=
  kfix (fun rec (q : kS × Int32 × Int32 × Int32) => FX6_act_B31 rec q.1 q.2.1 q.2.2.1 q.2.2.2) kfuel (S, v1, v2, v3)
def FX6_act (S : kS) : Option (Int32 × kS) :=
  kb (kI S 5 25) fun x1 => if x1 = 0 then (some ((-3 : Int32), S)) else (kb (kI S 5 25) fun x2 => kgd (kin (x2 - (1 : Int32)) 3) <| kb (kA S 5 24 (x2 - (1 : Int32))) fun x3 => kb (kpI S 5 29 (-1 : Int32)) fun S1 => FX6_act_L31 S1 x3 (1 : Int32) (0 : Int32))
theorem TX6_act_J223 {G : kG} {n : Nat} {d : Nat} {X : kX} (hG : kg_N G = 55 + 14 * n) {c159 : kS × Int32 × Int32 × Int32 × Int32 → Option (Int32 × kS)} {S : kS} (hc159 : ∀ (q : kS × Int32 × Int32 × Int32 × Int32) (res : Int32 × kS), c159 q = some res → kV (X, RX6, 7, (some .int), G, krm (d + 16), (0, 0), kQ X G (some (.int res.1)) (kgl G n res.2)) cX6_act (kgl G n q.1) [some (.ref (kg_ad G (kbo 5))), some (.int (q.2.1)), none, some (.int (q.2.2.1)), some (.int (q.2.2.2.1)), some (.int (q.2.2.2.2)), none] [] 159) {v1 : Int32} {v3 : Int32} {v4 : Int32} {v5 : Int32} {res : Int32 × kS} (h : FX6_act_J223 c159 S v1 v3 v4 v5 = some res) : kV (X, RX6, 7, (some .int), G, krm (d + 16), (0, 0), kQ X G (some (.int res.1)) (kgl G n res.2)) cX6_act (kgl G n S) [some (.ref (kg_ad G (kbo 5))), some (.int v1), none, some (.int v3), some (.int v4), some (.int v5), none] [] 223 := by
  unfold FX6_act_J223 at h
  refine kV_iinc 226 [some (.ref (kg_ad G (kbo 5))), some (.int v1), none, some (.int v3), some (.int v4), some (.int (v5 + (1 : Int32))), none] dX6_act_223 rfl (kinc_1 _) rfl rfl rfl ?_
  refine kV_goto 159 dX6_act_226 (by decide) ?_
  refine kV_drop [true, true, false, true, true, true, false] rfl ?_
  exact hc159 _ _ h
theorem TX6_act_B159 {G : kG} {n : Nat} {d : Nat} {X : kX} (hG : kg_N G = 55 + 14 * n) {c159 : kS × Int32 × Int32 × Int32 × Int32 → Option (Int32 × kS)} (hc159 : ∀ (q : kS × Int32 × Int32 × Int32 × Int32) (res : Int32 × kS), c159 q = some res → kV (X, RX6, 7, (some .int), G, krm (d + 16), (0, 0), kQ X G (some (.int res.1)) (kgl G n res.2)) cX6_act (kgl G n q.1) [some (.ref (kg_ad G (kbo 5))), some (.int (q.2.1)), none, some (.int (q.2.2.1)), some (.int (q.2.2.2.1)), some (.int (q.2.2.2.2)), none] [] 159) {S : kS} {v1 : Int32} {v3 : Int32} {v4 : Int32} {v5 : Int32} {res : Int32 × kS} (h : FX6_act_B159 c159 S v1 v3 v4 v5 = some res) : kV (X, RX6, 7, (some .int), G, krm (d + 16), (0, 0), kQ X G (some (.int res.1)) (kgl G n res.2)) cX6_act (kgl G n S) [some (.ref (kg_ad G (kbo 5))), some (.int v1), none, some (.int v3), some (.int v4), some (.int v5), none] [] 159 := by
  unfold FX6_act_B159 at h
  refine kV_iload 161 dX6_act_159 rfl rfl ?_
  refine kV_aloadn 162 dX6_act_161 rfl rfl ?_
  refine rg6_7 165 dX6_act_162 (kOk_of hG rfl) rfl rfl ?_
  refine kV_iloadn 166 dX6_act_165 rfl rfl ?_
  obtain ⟨hi, h⟩ := kgd_ex h
  obtain ⟨x1, hx, h⟩ := kb_ex h
  refine rl6_2 167 dX6_act_166 (kOk_of hG rfl) rfl hi hx rfl ?_
  clear hi hx
  rcases kif_ex h with ⟨hc, h⟩ | ⟨hc, h⟩
  · refine kV_icmp_ge_t 229 dX6_act_167 (by decide) hc ?_
    clear hc
    refine kV_sipush 232 dX6_act_229 sp_200 rfl ?_
    refine kV_bipush 234 dX6_act_232 bp_10 rfl ?_
    refine kV_iloadn 235 dX6_act_234 rfl rfl ?_
    refine kV_imul 236 dX6_act_235 rfl ?_
    refine kV_iadd 237 dX6_act_236 rfl ?_
    cases h
    exact kV_iret dX6_act_237
  · refine kV_icmp_ge_f 229 170 dX6_act_167 (by decide) hc rfl ?_
    clear hc
    refine kV_aloadn 171 dX6_act_170 rfl rfl ?_
    refine kV_iloadn 172 dX6_act_171 rfl rfl ?_
    refine kV_iload 174 dX6_act_172 rfl rfl ?_
    obtain ⟨x2, hx, h⟩ := kbi_ex h
    refine kC_V 177 [] [.int x2] dX6_act_174 (okX6_isWanted hG (d + 13)  hx) kmvX6_isWanted (wi_r28 _ (List.mem_of_getElem? (i := 21) rfl)) (kOk_of hG rfl) rfl rfl rfl rfl rfl rfl ?_
    clear hx
    rcases kif_ex h with ⟨hc, h⟩ | ⟨hc, h⟩
    · refine kV_if_eq_t 223 dX6_act_177 (by decide) hc ?_
      clear hc
      refine kV_drop [true, true, false, true, true, true, false] rfl ?_
      exact TX6_act_J223 hG hc159 h
    · refine kV_if_eq_f 223 180 dX6_act_177 (by decide) hc rfl ?_
      clear hc
      refine kV_aloadn 181 dX6_act_180 rfl rfl ?_
      refine rg6_28 184 dX6_act_181 (kOk_of hG rfl) rfl rfl ?_
      refine kV_iconst 185 dX6_act_184 ic_5 rfl ?_
      refine kV_iloadn 186 dX6_act_185 rfl rfl ?_
      refine kV_imul 187 dX6_act_186 rfl ?_
      refine kV_iload 189 dX6_act_187 rfl rfl ?_
      refine kV_iadd 190 dX6_act_189 rfl ?_
      obtain ⟨hi, h⟩ := kgd_ex h
      obtain ⟨x3, hx, h⟩ := kb_ex h
      refine rl6_8 191 dX6_act_190 (kOk_of hG rfl) rfl hi hx rfl ?_
      clear hi hx
      rcases kif_ex h with ⟨hc, h⟩ | ⟨hc, h⟩
      · refine kV_if_eq_t 197 dX6_act_191 (by decide) hc ?_
        clear hc
        refine kV_aloadn 198 dX6_act_197 rfl rfl ?_
        refine kV_iloadn 199 dX6_act_198 rfl rfl ?_
        refine kV_iload 201 dX6_act_199 rfl rfl ?_
        obtain ⟨x4, S1, hx, h⟩ := kb2_ex h
        refine kC_V 204 [] [.int x4] dX6_act_201 (okX6_worstBy6 hG d  hx) kmvX6_worstBy (wi_r29 _ (List.mem_of_getElem? (i := 5) rfl)) (kOk_of hG rfl) rfl rfl rfl rfl rfl rfl ?_
        clear hx
        refine kV_istore 206 [some (.ref (kg_ad G (kbo 5))), some (.int v1), none, some (.int v3), some (.int v4), some (.int v5), some (.int x4)] dX6_act_204 rfl rfl rfl ?_
        refine kV_iload 208 dX6_act_206 rfl rfl ?_
        refine kV_iload 210 dX6_act_208 rfl rfl ?_
        rcases kif_ex h with ⟨hc, h⟩ | ⟨hc, h⟩
        · refine kV_icmp_lt_t 216 dX6_act_210 (by decide) hc ?_
          clear hc
          refine kV_iload 218 dX6_act_216 rfl rfl ?_
          refine kV_istoren 219 [some (.ref (kg_ad G (kbo 5))), some (.int v1), none, some (.int v5), some (.int v4), some (.int v5), some (.int x4)] dX6_act_218 rfl rfl rfl ?_
          refine kV_iload 221 dX6_act_219 rfl rfl ?_
          refine kV_istore 223 [some (.ref (kg_ad G (kbo 5))), some (.int v1), none, some (.int v5), some (.int x4), some (.int v5), some (.int x4)] dX6_act_221 rfl rfl rfl ?_
          refine kV_drop [true, true, false, true, true, true, false] rfl ?_
          exact TX6_act_J223 hG hc159 h
        · refine kV_icmp_lt_f 216 213 dX6_act_210 (by decide) hc rfl ?_
          clear hc
          refine kV_goto 223 dX6_act_213 (by decide) ?_
          refine kV_drop [true, true, false, true, true, true, false] rfl ?_
          exact TX6_act_J223 hG hc159 h
      · refine kV_if_eq_f 197 194 dX6_act_191 (by decide) hc rfl ?_
        clear hc
        refine kV_goto 223 dX6_act_194 (by decide) ?_
        refine kV_drop [true, true, false, true, true, true, false] rfl ?_
        exact TX6_act_J223 hG hc159 h
theorem TX6_act_L159 {G : kG} {n : Nat} {d : Nat} {X : kX} (hG : kg_N G = 55 + 14 * n) {S : kS} {v1 : Int32} {v3 : Int32} {v4 : Int32} {v5 : Int32} {res : Int32 × kS} (h : FX6_act_L159 S v1 v3 v4 v5 = some res) : kV (X, RX6, 7, (some .int), G, krm (d + 16), (0, 0), kQ X G (some (.int res.1)) (kgl G n res.2)) cX6_act (kgl G n S) [some (.ref (kg_ad G (kbo 5))), some (.int v1), none, some (.int v3), some (.int v4), some (.int v5), none] [] 159 := by
  unfold FX6_act_L159 at h
  exact kfix_ok (P := fun (q : kS × Int32 × Int32 × Int32 × Int32) (res : Int32 × kS) => kV (X, RX6, 7, (some .int), G, krm (d + 16), (0, 0), kQ X G (some (.int res.1)) (kgl G n res.2)) cX6_act (kgl G n q.1) [some (.ref (kg_ad G (kbo 5))), some (.int (q.2.1)), none, some (.int (q.2.2.1)), some (.int (q.2.2.2.1)), some (.int (q.2.2.2.2)), none] [] 159) (fun rec hrec q res hq => TX6_act_B159 hG hrec hq) kfuel _ _ h
theorem TX6_act_J133 {G : kG} {n : Nat} {d : Nat} {X : kX} (hG : kg_N G = 55 + 14 * n) {c31 : kS × Int32 × Int32 × Int32 → Option (Int32 × kS)} {S : kS} (hc31 : ∀ (q : kS × Int32 × Int32 × Int32) (res : Int32 × kS), c31 q = some res → kV (X, RX6, 7, (some .int), G, krm (d + 16), (0, 0), kQ X G (some (.int res.1)) (kgl G n res.2)) cX6_act (kgl G n q.1) [some (.ref (kg_ad G (kbo 5))), some (.int (q.2.1)), some (.int (q.2.2.1)), some (.int (q.2.2.2)), none, none, none] [] 31) {v1 : Int32} {v2 : Int32} {v3 : Int32} {res : Int32 × kS} (h : FX6_act_J133 c31 S v1 v2 v3 = some res) : kV (X, RX6, 7, (some .int), G, krm (d + 16), (0, 0), kQ X G (some (.int res.1)) (kgl G n res.2)) cX6_act (kgl G n S) [some (.ref (kg_ad G (kbo 5))), some (.int v1), some (.int v2), some (.int v3), none, none, none] [] 133 := by
  unfold FX6_act_J133 at h
  refine kV_iinc 136 [some (.ref (kg_ad G (kbo 5))), some (.int v1), some (.int v2), some (.int (v3 + (1 : Int32))), none, none, none] dX6_act_133 rfl (kinc_1 _) rfl rfl rfl ?_
  refine kV_goto 31 dX6_act_136 (by decide) ?_
  refine kV_drop [true, true, true, true, false, false, false] rfl ?_
  exact hc31 _ _ h
theorem TX6_act_B31 {G : kG} {n : Nat} {d : Nat} {X : kX} (hG : kg_N G = 55 + 14 * n) {c31 : kS × Int32 × Int32 × Int32 → Option (Int32 × kS)} (hc31 : ∀ (q : kS × Int32 × Int32 × Int32) (res : Int32 × kS), c31 q = some res → kV (X, RX6, 7, (some .int), G, krm (d + 16), (0, 0), kQ X G (some (.int res.1)) (kgl G n res.2)) cX6_act (kgl G n q.1) [some (.ref (kg_ad G (kbo 5))), some (.int (q.2.1)), some (.int (q.2.2.1)), some (.int (q.2.2.2)), none, none, none] [] 31) {S : kS} {v1 : Int32} {v2 : Int32} {v3 : Int32} {res : Int32 × kS} (h : FX6_act_B31 c31 S v1 v2 v3 = some res) : kV (X, RX6, 7, (some .int), G, krm (d + 16), (0, 0), kQ X G (some (.int res.1)) (kgl G n res.2)) cX6_act (kgl G n S) [some (.ref (kg_ad G (kbo 5))), some (.int v1), some (.int v2), some (.int v3), none, none, none] [] 31 := by
  unfold FX6_act_B31 at h
  refine kV_iloadn 32 dX6_act_31 rfl rfl ?_
  refine kV_aloadn 33 dX6_act_32 rfl rfl ?_
  refine rg6_7 36 dX6_act_33 (kOk_of hG rfl) rfl rfl ?_
  refine kV_iloadn 37 dX6_act_36 rfl rfl ?_
  obtain ⟨hi, h⟩ := kgd_ex h
  obtain ⟨x1, hx, h⟩ := kb_ex h
  refine rl6_2 38 dX6_act_37 (kOk_of hG rfl) rfl hi hx rfl ?_
  clear hi hx
  rcases kif_ex h with ⟨hc, h⟩ | ⟨hc, h⟩
  · refine kV_icmp_ge_t 139 dX6_act_38 (by decide) hc ?_
    clear hc
    refine kV_iloadn 140 dX6_act_139 rfl rfl ?_
    rcases kif_ex h with ⟨hc, h⟩ | ⟨hc, h⟩
    · refine kV_if_eq_t 145 dX6_act_140 (by decide) hc ?_
      clear hc
      refine kV_aloadn 146 dX6_act_145 rfl rfl ?_
      obtain ⟨S1, hx, h⟩ := kbi_ex h
      refine kC_V 149 [] [] dX6_act_146 (okX6_forget hG (d + 15)  hx) kmvX6_forget (wi_r29 _ (List.mem_of_getElem? (i := 1) rfl)) (kOk_of hG rfl) rfl rfl rfl rfl rfl rfl ?_
      clear hx
      refine kV_iconst 150 dX6_act_149 ic_m1 rfl ?_
      refine kV_istoren 151 [some (.ref (kg_ad G (kbo 5))), some (.int v1), some (.int v2), some (.int (-1 : Int32)), none, none, none] dX6_act_150 rfl rfl rfl ?_
      refine kV_sipush 154 dX6_act_151 sp_10000 rfl ?_
      refine kV_istore 156 [some (.ref (kg_ad G (kbo 5))), some (.int v1), some (.int v2), some (.int (-1 : Int32)), some (.int (10000 : Int32)), none, none] dX6_act_154 rfl rfl rfl ?_
      refine kV_iconst 157 dX6_act_156 ic_0 rfl ?_
      refine kV_istore 159 [some (.ref (kg_ad G (kbo 5))), some (.int v1), some (.int v2), some (.int (-1 : Int32)), some (.int (10000 : Int32)), some (.int (0 : Int32)), none] dX6_act_157 rfl rfl rfl ?_
      refine kV_drop [true, true, false, true, true, true, false] rfl ?_
      exact TX6_act_L159 hG h
    · refine kV_if_eq_f 145 143 dX6_act_140 (by decide) hc rfl ?_
      clear hc
      refine kV_iconst 144 dX6_act_143 ic_0 rfl ?_
      cases h
      exact kV_iret dX6_act_144
  · refine kV_icmp_ge_f 139 41 dX6_act_38 (by decide) hc rfl ?_
    clear hc
    refine kV_aloadn 42 dX6_act_41 rfl rfl ?_
    refine kV_iloadn 43 dX6_act_42 rfl rfl ?_
    refine kV_iloadn 44 dX6_act_43 rfl rfl ?_
    obtain ⟨x2, hx, h⟩ := kbi_ex h
    refine kC_V 47 [] [.int x2] dX6_act_44 (okX6_isWanted hG (d + 13)  hx) kmvX6_isWanted (wi_r28 _ (List.mem_of_getElem? (i := 21) rfl)) (kOk_of hG rfl) rfl rfl rfl rfl rfl rfl ?_
    clear hx
    rcases kif_ex h with ⟨hc, h⟩ | ⟨hc, h⟩
    · refine kV_if_eq_t 133 dX6_act_47 (by decide) hc ?_
      clear hc
      refine kV_drop [true, true, true, true, false, false, false] rfl ?_
      exact TX6_act_J133 hG hc31 h
    · refine kV_if_eq_f 133 50 dX6_act_47 (by decide) hc rfl ?_
      clear hc
      refine kV_aloadn 51 dX6_act_50 rfl rfl ?_
      refine rg6_28 54 dX6_act_51 (kOk_of hG rfl) rfl rfl ?_
      refine kV_iconst 55 dX6_act_54 ic_5 rfl ?_
      refine kV_iloadn 56 dX6_act_55 rfl rfl ?_
      refine kV_imul 57 dX6_act_56 rfl ?_
      refine kV_iloadn 58 dX6_act_57 rfl rfl ?_
      refine kV_iadd 59 dX6_act_58 rfl ?_
      obtain ⟨hi, h⟩ := kgd_ex h
      obtain ⟨x3, hx, h⟩ := kb_ex h
      refine rl6_8 60 dX6_act_59 (kOk_of hG rfl) rfl hi hx rfl ?_
      clear hi hx
      rcases kif_ex h with ⟨hc, h⟩ | ⟨hc, h⟩
      · refine kV_if_eq_t 66 dX6_act_60 (by decide) hc ?_
        clear hc
        refine kV_iconst 67 dX6_act_66 ic_0 rfl ?_
        refine kV_istoren 68 [some (.ref (kg_ad G (kbo 5))), some (.int v1), some (.int (0 : Int32)), some (.int v3), none, none, none] dX6_act_67 rfl rfl rfl ?_
        refine kV_aloadn 69 dX6_act_68 rfl rfl ?_
        refine rg6_25 72 dX6_act_69 (kOk_of hG rfl) rfl rfl ?_
        refine kV_iconst 73 dX6_act_72 ic_5 rfl ?_
        refine kV_iloadn 74 dX6_act_73 rfl rfl ?_
        refine kV_imul 75 dX6_act_74 rfl ?_
        refine kV_iloadn 76 dX6_act_75 rfl rfl ?_
        refine kV_iadd 77 dX6_act_76 rfl ?_
        obtain ⟨hi, h⟩ := kgd_ex h
        obtain ⟨x4, hx, h⟩ := kb_ex h
        refine rl6_7 78 dX6_act_77 (kOk_of hG rfl) rfl hi hx rfl ?_
        clear hi hx
        rcases kif_ex h with ⟨hc, h⟩ | ⟨hc, h⟩
        · refine kV_if_eq_t 133 dX6_act_78 (by decide) hc ?_
          clear hc
          refine kV_drop [true, true, true, true, false, false, false] rfl ?_
          exact TX6_act_J133 hG hc31 h
        · refine kV_if_eq_f 133 81 dX6_act_78 (by decide) hc rfl ?_
          clear hc
          refine kV_aloadn 82 dX6_act_81 rfl rfl ?_
          refine rg6_13 85 dX6_act_82 (kOk_of hG rfl) rfl rfl ?_
          refine kV_iconst 86 dX6_act_85 ic_5 rfl ?_
          refine kV_iloadn 87 dX6_act_86 rfl rfl ?_
          refine kV_imul 88 dX6_act_87 rfl ?_
          refine kV_iloadn 89 dX6_act_88 rfl rfl ?_
          refine kV_iadd 90 dX6_act_89 rfl ?_
          obtain ⟨hi, h⟩ := kgd_ex h
          obtain ⟨x5, hx, h⟩ := kb_ex h
          refine rl6_3 91 dX6_act_90 (kOk_of hG rfl) rfl hi hx rfl ?_
          clear hi hx
          refine kV_iconst 92 dX6_act_91 ic_2 rfl ?_
          rcases kif_ex h with ⟨hc, h⟩ | ⟨hc, h⟩
          · refine kV_icmp_ne_f 98 95 dX6_act_92 (by decide) hc rfl ?_
            clear hc
            refine kV_goto 133 dX6_act_95 (by decide) ?_
            refine kV_drop [true, true, true, true, false, false, false] rfl ?_
            exact TX6_act_J133 hG hc31 h
          · refine kV_icmp_ne_t 98 dX6_act_92 (by decide) hc ?_
            clear hc
            refine kV_aloadn 99 dX6_act_98 rfl rfl ?_
            refine kV_iloadn 100 dX6_act_99 rfl rfl ?_
            obtain ⟨S2, hx, h⟩ := kb_ex h
            refine rp6_80 103 dX6_act_100 (kOk_of hG rfl) rfl hx rfl ?_
            clear hx
            refine kV_aloadn 104 dX6_act_103 rfl rfl ?_
            refine kV_aloadn 105 dX6_act_104 rfl rfl ?_
            refine rg6_25 108 dX6_act_105 (kOk_of hG rfl) rfl rfl ?_
            refine kV_iconst 109 dX6_act_108 ic_5 rfl ?_
            refine kV_iloadn 110 dX6_act_109 rfl rfl ?_
            refine kV_imul 111 dX6_act_110 rfl ?_
            refine kV_iloadn 112 dX6_act_111 rfl rfl ?_
            refine kV_iadd 113 dX6_act_112 rfl ?_
            obtain ⟨hi, h⟩ := kgd_ex h
            obtain ⟨x6, hx, h⟩ := kb_ex h
            refine rl6_7 114 dX6_act_113 (kOk_of hG rfl) rfl hi hx rfl ?_
            clear hi hx
            obtain ⟨x7, hx, h⟩ := kbi_ex h
            refine kC_S 117 [.ref (kg_ad G (kbo 5))] [.int x7, .ref (kg_ad G (kbo 5))] dX6_act_114 (okX6_lowest hG (d + 15)  hx) kmtX6_lowest (wi_r24 _ (List.mem_of_getElem? (i := 23) rfl)) rfl rfl rfl rfl rfl ?_
            clear hx
            obtain ⟨S3, hx, h⟩ := kb_ex h
            refine rp6_193 120 dX6_act_117 (kOk_of hG rfl) rfl hx rfl ?_
            clear hx
            refine kV_bipush 122 dX6_act_120 bp_100 rfl ?_
            refine kV_bipush 124 dX6_act_122 bp_10 rfl ?_
            refine kV_iloadn 125 dX6_act_124 rfl rfl ?_
            refine kV_imul 126 dX6_act_125 rfl ?_
            refine kV_iadd 127 dX6_act_126 rfl ?_
            refine kV_aloadn 128 dX6_act_127 rfl rfl ?_
            obtain ⟨x8, hx, h⟩ := kb_ex h
            refine rg6_193 131 dX6_act_128 (kOk_of hG rfl) rfl hx rfl ?_
            clear hx
            refine kV_iadd 132 dX6_act_131 rfl ?_
            cases h
            exact kV_iret dX6_act_132
      · refine kV_if_eq_f 66 63 dX6_act_60 (by decide) hc rfl ?_
        clear hc
        refine kV_goto 133 dX6_act_63 (by decide) ?_
        refine kV_drop [true, true, true, true, false, false, false] rfl ?_
        exact TX6_act_J133 hG hc31 h
theorem TX6_act_L31 {G : kG} {n : Nat} {d : Nat} {X : kX} (hG : kg_N G = 55 + 14 * n) {S : kS} {v1 : Int32} {v2 : Int32} {v3 : Int32} {res : Int32 × kS} (h : FX6_act_L31 S v1 v2 v3 = some res) : kV (X, RX6, 7, (some .int), G, krm (d + 16), (0, 0), kQ X G (some (.int res.1)) (kgl G n res.2)) cX6_act (kgl G n S) [some (.ref (kg_ad G (kbo 5))), some (.int v1), some (.int v2), some (.int v3), none, none, none] [] 31 := by
  unfold FX6_act_L31 at h
  exact kfix_ok (P := fun (q : kS × Int32 × Int32 × Int32) (res : Int32 × kS) => kV (X, RX6, 7, (some .int), G, krm (d + 16), (0, 0), kQ X G (some (.int res.1)) (kgl G n res.2)) cX6_act (kgl G n q.1) [some (.ref (kg_ad G (kbo 5))), some (.int (q.2.1)), some (.int (q.2.2.1)), some (.int (q.2.2.2)), none, none, none] [] 31) (fun rec hrec q res hq => TX6_act_B31 hG hrec hq) kfuel _ _ h
theorem okX6_act {l : Launch} {G : kG} {n : Nat} (hG : kg_N G = 55 + 14 * n) (d : Nat) {S : kS} {res : Int32 × kS} (h : FX6_act S = some res) : kEv l G (d + 16) mX6_act [.ref (kg_ad G (kbo 5))] (kgl G n S) (some (.int res.1)) (kgl G n res.2) := by
  refine kEv_of RX6 [some (.ref (kg_ad G (kbo 5))), none, none, none, none, none, none] rfl (by decide +kernel) rfl rfl rfl rfl (fun X hX => ?_)
  subst hX
  unfold FX6_act at h
  refine kV_aloadn 1 dX6_act_0 rfl rfl ?_
  obtain ⟨x1, hx, h⟩ := kb_ex h
  refine rg6_126 4 dX6_act_1 (kOk_of hG rfl) rfl hx rfl ?_
  clear hx
  rcases kif_ex h with ⟨hc, h⟩ | ⟨hc, h⟩
  · refine kV_if_ne_f 10 7 dX6_act_4 (by decide) hc rfl ?_
    clear hc
    refine kV_bipush 9 dX6_act_7 bp_m3 rfl ?_
    cases h
    exact kV_iret dX6_act_9
  · refine kV_if_ne_t 10 dX6_act_4 (by decide) hc ?_
    clear hc
    refine kV_aloadn 11 dX6_act_10 rfl rfl ?_
    refine rg6_71 14 dX6_act_11 (kOk_of hG rfl) rfl rfl ?_
    refine kV_aloadn 15 dX6_act_14 rfl rfl ?_
    obtain ⟨x2, hx, h⟩ := kb_ex h
    refine rg6_126 18 dX6_act_15 (kOk_of hG rfl) rfl hx rfl ?_
    clear hx
    refine kV_iconst 19 dX6_act_18 ic_1 rfl ?_
    refine kV_isub 20 dX6_act_19 rfl ?_
    obtain ⟨hi, h⟩ := kgd_ex h
    obtain ⟨x3, hx, h⟩ := kb_ex h
    refine rl6_24 21 dX6_act_20 (kOk_of hG rfl) rfl hi hx rfl ?_
    clear hi hx
    refine kV_istoren 22 [some (.ref (kg_ad G (kbo 5))), some (.int x3), none, none, none, none, none] dX6_act_21 rfl rfl rfl ?_
    refine kV_aloadn 23 dX6_act_22 rfl rfl ?_
    refine kV_iconst 24 dX6_act_23 ic_m1 rfl ?_
    obtain ⟨S1, hx, h⟩ := kb_ex h
    refine rp6_80 27 dX6_act_24 (kOk_of hG rfl) rfl hx rfl ?_
    clear hx
    refine kV_iconst 28 dX6_act_27 ic_1 rfl ?_
    refine kV_istoren 29 [some (.ref (kg_ad G (kbo 5))), some (.int x3), some (.int (1 : Int32)), none, none, none, none] dX6_act_28 rfl rfl rfl ?_
    refine kV_iconst 30 dX6_act_29 ic_0 rfl ?_
    refine kV_istoren 31 [some (.ref (kg_ad G (kbo 5))), some (.int x3), some (.int (1 : Int32)), some (.int (0 : Int32)), none, none, none] dX6_act_30 rfl rfl rfl ?_
    refine kV_drop [true, true, true, true, false, false, false] rfl ?_
    exact TX6_act_L31 hG h
abbrev mX6_about : kM := (yX6_about, cX6_about, 6, (some .int))
theorem kmvX6_about : kMv mX6_about 3 6 := ⟨⟨(wi_r30 _ (List.mem_of_getElem? (i := 22) rfl)), (wi_r1 _ (List.mem_of_getElem? (i := 5) rfl)), ⟨by decide +kernel, by decide +kernel, by decide +kernel⟩, by decide⟩, (wi_r30 _ (List.mem_of_getElem? (i := 20) rfl)), (wi_r30 _ (List.mem_of_getElem? (i := 21) rfl)), rfl⟩
def FX6_about_J122 (S : kS) (s0 : Int32) : Option (Int32) :=
  some s0
def FX6_about_J107 (S : kS) (s0 : Int32) : Option (Int32) :=
  some s0
def FX6_about_J95 (S : kS) (s0 : Int32) : Option (Int32) :=
  some s0
def FX6_about (S : kS) (a1 : Int32) (a2 : Int32) (a3 : Int32) : Option (Int32) :=
  (FX6_isPlace S a1 a2).bind fun x1 => if x1 = 0 then (some (-1 : Int32)) else ((FX6_valueOf S (((5 : Int32) * a1) + a2)).bind fun x2 => if a3 = (0 : Int32) then (kgd (kin (((5 : Int32) * a1) + a2) 15) <| kb (kA S 5 3 (((5 : Int32) * a1) + a2)) fun x3 => if x3 = (1 : Int32) then (if x2 = (-1 : Int32) then (FX6_about_J95 S (0 : Int32)) else (FX6_about_J95 S ((1 : Int32) <<< (x2 &&& 31)))) else (kgd (kin (((5 : Int32) * a1) + a2) 15) <| kb (kA S 5 7 (((5 : Int32) * a1) + a2)) fun x4 => FX6_about_J95 S x4)) else (if a3 = (1 : Int32) then (if x2 = (-1 : Int32) then (FX6_about_J107 S (0 : Int32)) else (FX6_about_J107 S (1 : Int32))) else (if a3 = (2 : Int32) then ((FX6_isWanted S a1 a2).bind fun x5 => if x5 = 0 then (FX6_about_J122 S (0 : Int32)) else (FX6_about_J122 S (1 : Int32))) else (if a3 = (3 : Int32) then (kgd (kin (((5 : Int32) * a1) + a2) 15) <| kb (kA S 5 3 (((5 : Int32) * a1) + a2)) fun x6 => some x6) else (if a3 = (4 : Int32) then (kgd (kin (((5 : Int32) * a1) + a2) 15) <| kb (kA S 5 4 (((5 : Int32) * a1) + a2)) fun x7 => some x7) else (some (-1 : Int32)))))))
theorem TX6_about_J122 {G : kG} {n : Nat} {d : Nat} {X : kX} (hG : kg_N G = 55 + 14 * n) {S : kS} {s0 : Int32} {res : Int32} (h : FX6_about_J122 S s0 = some res) : kV (X, RX6, 6, (some .int), G, krm (d + 3), (0, 0), kQ X G (some (.int res)) (kgl G n S)) cX6_about (kgl G n S) [none, none, none, none, none, none] [.int s0] 122 := by
  unfold FX6_about_J122 at h
  cases h
  exact kV_iret dX6_about_122
theorem TX6_about_J107 {G : kG} {n : Nat} {d : Nat} {X : kX} (hG : kg_N G = 55 + 14 * n) {S : kS} {s0 : Int32} {res : Int32} (h : FX6_about_J107 S s0 = some res) : kV (X, RX6, 6, (some .int), G, krm (d + 3), (0, 0), kQ X G (some (.int res)) (kgl G n S)) cX6_about (kgl G n S) [none, none, none, none, none, none] [.int s0] 107 := by
  unfold FX6_about_J107 at h
  cases h
  exact kV_iret dX6_about_107
theorem TX6_about_J95 {G : kG} {n : Nat} {d : Nat} {X : kX} (hG : kg_N G = 55 + 14 * n) {S : kS} {s0 : Int32} {res : Int32} (h : FX6_about_J95 S s0 = some res) : kV (X, RX6, 6, (some .int), G, krm (d + 3), (0, 0), kQ X G (some (.int res)) (kgl G n S)) cX6_about (kgl G n S) [none, none, none, none, none, none] [.int s0] 95 := by
  unfold FX6_about_J95 at h
  cases h
  exact kV_iret dX6_about_95
theorem okX6_about {l : Launch} {G : kG} {n : Nat} (hG : kg_N G = 55 + 14 * n) (d : Nat) {S : kS} {a1 : Int32} {a2 : Int32} {a3 : Int32} {res : Int32} (h : FX6_about S a1 a2 a3 = some res) : kEv l G (d + 3) mX6_about [.ref (kg_ad G (kbo 5)), .int a1, .int a2, .int a3] (kgl G n S) (some (.int res)) (kgl G n S) := by
  refine kEv_of RX6 [some (.ref (kg_ad G (kbo 5))), some (.int a1), some (.int a2), some (.int a3), none, none] rfl (by decide +kernel) rfl rfl rfl rfl (fun X hX => ?_)
  subst hX
  unfold FX6_about at h
  refine kV_aloadn 1 dX6_about_0 rfl rfl ?_
  refine kV_iloadn 2 dX6_about_1 rfl rfl ?_
  refine kV_iloadn 3 dX6_about_2 rfl rfl ?_
  obtain ⟨x1, hx, h⟩ := kbi_ex h
  refine kC_V 6 [] [.int x1] dX6_about_3 (okX6_isPlace hG d  hx) kmvX6_isPlace (wi_r9 _ (List.mem_of_getElem? (i := 11) rfl)) (kOk_of hG rfl) rfl rfl rfl rfl rfl rfl ?_
  clear hx
  rcases kif_ex h with ⟨hc, h⟩ | ⟨hc, h⟩
  · refine kV_if_ne_f 11 9 dX6_about_6 (by decide) hc rfl ?_
    clear hc
    refine kV_iconst 10 dX6_about_9 ic_m1 rfl ?_
    cases h
    exact kV_iret dX6_about_10
  · refine kV_if_ne_t 11 dX6_about_6 (by decide) hc ?_
    clear hc
    refine kV_iconst 12 dX6_about_11 ic_5 rfl ?_
    refine kV_iloadn 13 dX6_about_12 rfl rfl ?_
    refine kV_imul 14 dX6_about_13 rfl ?_
    refine kV_iloadn 15 dX6_about_14 rfl rfl ?_
    refine kV_iadd 16 dX6_about_15 rfl ?_
    refine kV_istore 18 [some (.ref (kg_ad G (kbo 5))), some (.int a1), some (.int a2), some (.int a3), some (.int (((5 : Int32) * a1) + a2)), none] dX6_about_16 rfl rfl rfl ?_
    refine kV_aloadn 19 dX6_about_18 rfl rfl ?_
    refine kV_iload 21 dX6_about_19 rfl rfl ?_
    obtain ⟨x2, hx, h⟩ := kbi_ex h
    refine kC_V 24 [] [.int x2] dX6_about_21 (okX6_valueOf hG (d + 1)  hx) kmvX6_valueOf (wi_r24 _ (List.mem_of_getElem? (i := 19) rfl)) (kOk_of hG rfl) rfl rfl rfl rfl rfl rfl ?_
    clear hx
    refine kV_istore 26 [some (.ref (kg_ad G (kbo 5))), some (.int a1), some (.int a2), some (.int a3), some (.int (((5 : Int32) * a1) + a2)), some (.int x2)] dX6_about_24 rfl rfl rfl ?_
    refine kV_iloadn 27 dX6_about_26 rfl rfl ?_
    rcases kif_ex h with ⟨hc, h⟩ | ⟨hc0, h⟩
    · refine kV_tableIn (off := 33) 60 dX6_about_27 (by rw [hc]; decide) (by rw [hc]; decide) (by rw [hc]; decide) (by decide) ?_
      clear hc
      refine kV_aloadn 61 dX6_about_60 rfl rfl ?_
      refine rg6_13 64 dX6_about_61 (kOk_of hG rfl) rfl rfl ?_
      refine kV_iload 66 dX6_about_64 rfl rfl ?_
      obtain ⟨hi, h⟩ := kgd_ex h
      obtain ⟨x3, hx, h⟩ := kb_ex h
      refine rl6_3 67 dX6_about_66 (kOk_of hG rfl) rfl hi hx rfl ?_
      clear hi hx
      refine kV_iconst 68 dX6_about_67 ic_1 rfl ?_
      rcases kif_ex h with ⟨hc, h⟩ | ⟨hc, h⟩
      · refine kV_icmp_eq_t 81 dX6_about_68 (by decide) hc ?_
        clear hc
        refine kV_iload 83 dX6_about_81 rfl rfl ?_
        refine kV_iconst 84 dX6_about_83 ic_m1 rfl ?_
        rcases kif_ex h with ⟨hc, h⟩ | ⟨hc, h⟩
        · refine kV_icmp_ne_f 91 87 dX6_about_84 (by decide) hc rfl ?_
          clear hc
          refine kV_iconst 88 dX6_about_87 ic_0 rfl ?_
          refine kV_goto 95 dX6_about_88 (by decide) ?_
          refine kV_drop [false, false, false, false, false, false] rfl ?_
          exact TX6_about_J95 hG h
        · refine kV_icmp_ne_t 91 dX6_about_84 (by decide) hc ?_
          clear hc
          refine kV_iconst 92 dX6_about_91 ic_1 rfl ?_
          refine kV_iload 94 dX6_about_92 rfl rfl ?_
          refine kV_ishl 95 dX6_about_94 rfl ?_
          refine kV_drop [false, false, false, false, false, false] rfl ?_
          exact TX6_about_J95 hG h
      · refine kV_icmp_eq_f 81 71 dX6_about_68 (by decide) hc rfl ?_
        clear hc
        refine kV_aloadn 72 dX6_about_71 rfl rfl ?_
        refine rg6_25 75 dX6_about_72 (kOk_of hG rfl) rfl rfl ?_
        refine kV_iload 77 dX6_about_75 rfl rfl ?_
        obtain ⟨hi, h⟩ := kgd_ex h
        obtain ⟨x4, hx, h⟩ := kb_ex h
        refine rl6_7 78 dX6_about_77 (kOk_of hG rfl) rfl hi hx rfl ?_
        clear hi hx
        refine kV_goto 95 dX6_about_78 (by decide) ?_
        refine kV_drop [false, false, false, false, false, false] rfl ?_
        exact TX6_about_J95 hG h
    · rcases kif_ex h with ⟨hc, h⟩ | ⟨hc1, h⟩
      · refine kV_tableIn (off := 69) 96 dX6_about_27 (by rw [hc]; decide) (by rw [hc]; decide) (by rw [hc]; decide) (by decide) ?_
        clear hc
        refine kV_iload 98 dX6_about_96 rfl rfl ?_
        refine kV_iconst 99 dX6_about_98 ic_m1 rfl ?_
        rcases kif_ex h with ⟨hc, h⟩ | ⟨hc, h⟩
        · refine kV_icmp_ne_f 106 102 dX6_about_99 (by decide) hc rfl ?_
          clear hc
          refine kV_iconst 103 dX6_about_102 ic_0 rfl ?_
          refine kV_goto 107 dX6_about_103 (by decide) ?_
          refine kV_drop [false, false, false, false, false, false] rfl ?_
          exact TX6_about_J107 hG h
        · refine kV_icmp_ne_t 106 dX6_about_99 (by decide) hc ?_
          clear hc
          refine kV_iconst 107 dX6_about_106 ic_1 rfl ?_
          refine kV_drop [false, false, false, false, false, false] rfl ?_
          exact TX6_about_J107 hG h
      · rcases kif_ex h with ⟨hc, h⟩ | ⟨hc2, h⟩
        · refine kV_tableIn (off := 81) 108 dX6_about_27 (by rw [hc]; decide) (by rw [hc]; decide) (by rw [hc]; decide) (by decide) ?_
          clear hc
          refine kV_aloadn 109 dX6_about_108 rfl rfl ?_
          refine kV_iloadn 110 dX6_about_109 rfl rfl ?_
          refine kV_iloadn 111 dX6_about_110 rfl rfl ?_
          obtain ⟨x5, hx, h⟩ := kbi_ex h
          refine kC_V 114 [] [.int x5] dX6_about_111 (okX6_isWanted hG d  hx) kmvX6_isWanted (wi_r28 _ (List.mem_of_getElem? (i := 21) rfl)) (kOk_of hG rfl) rfl rfl rfl rfl rfl rfl ?_
          clear hx
          rcases kif_ex h with ⟨hc, h⟩ | ⟨hc, h⟩
          · refine kV_if_eq_t 121 dX6_about_114 (by decide) hc ?_
            clear hc
            refine kV_iconst 122 dX6_about_121 ic_0 rfl ?_
            refine kV_drop [false, false, false, false, false, false] rfl ?_
            exact TX6_about_J122 hG h
          · refine kV_if_eq_f 121 117 dX6_about_114 (by decide) hc rfl ?_
            clear hc
            refine kV_iconst 118 dX6_about_117 ic_1 rfl ?_
            refine kV_goto 122 dX6_about_118 (by decide) ?_
            refine kV_drop [false, false, false, false, false, false] rfl ?_
            exact TX6_about_J122 hG h
        · rcases kif_ex h with ⟨hc, h⟩ | ⟨hc3, h⟩
          · refine kV_tableIn (off := 96) 123 dX6_about_27 (by rw [hc]; decide) (by rw [hc]; decide) (by rw [hc]; decide) (by decide) ?_
            clear hc
            refine kV_aloadn 124 dX6_about_123 rfl rfl ?_
            refine rg6_13 127 dX6_about_124 (kOk_of hG rfl) rfl rfl ?_
            refine kV_iload 129 dX6_about_127 rfl rfl ?_
            obtain ⟨hi, h⟩ := kgd_ex h
            obtain ⟨x6, hx, h⟩ := kb_ex h
            refine rl6_3 130 dX6_about_129 (kOk_of hG rfl) rfl hi hx rfl ?_
            clear hi hx
            cases h
            exact kV_iret dX6_about_130
          · rcases kif_ex h with ⟨hc, h⟩ | ⟨hc4, h⟩
            · refine kV_tableIn (off := 104) 131 dX6_about_27 (by rw [hc]; decide) (by rw [hc]; decide) (by rw [hc]; decide) (by decide) ?_
              clear hc
              refine kV_aloadn 132 dX6_about_131 rfl rfl ?_
              refine rg6_16 135 dX6_about_132 (kOk_of hG rfl) rfl rfl ?_
              refine kV_iload 137 dX6_about_135 rfl rfl ?_
              obtain ⟨hi, h⟩ := kgd_ex h
              obtain ⟨x7, hx, h⟩ := kb_ex h
              refine rl6_4 138 dX6_about_137 (kOk_of hG rfl) rfl hi hx rfl ?_
              clear hi hx
              cases h
              exact kV_iret dX6_about_138
            · refine kV_tableOut 139 dX6_about_27 (ktab_out 4 _ (fun j hj => match j, hj with | 0, _ => hc0 | 1, _ => hc1 | 2, _ => hc2 | 3, _ => hc3 | 4, _ => hc4 | j + 5, hj => absurd hj (by omega))) (by decide) ?_
              refine kV_iconst 140 dX6_about_139 ic_m1 rfl ?_
              cases h
              exact kV_iret dX6_about_140
abbrev mX6_said : kM := (yX6_said, cX6_said, 5, (some .int))
theorem kmvX6_said : kMv mX6_said 3 6 := ⟨⟨(wi_r31 _ (List.mem_of_getElem? (i := 10) rfl)), (wi_r1 _ (List.mem_of_getElem? (i := 5) rfl)), ⟨by decide +kernel, by decide +kernel, by decide +kernel⟩, by decide⟩, (wi_r31 _ (List.mem_of_getElem? (i := 8) rfl)), (wi_r31 _ (List.mem_of_getElem? (i := 9) rfl)), rfl⟩
def FX6_said_B15 (c15 : Int32 × Int32 × Int32 × Int32 → Option (Int32)) (S : kS) (v1 : Int32) (v2 : Int32) (v3 : Int32) (v4 : Int32) : Option (Int32) :=
  if (64 : Int32) ≤ v4 then (some (-1 : Int32)) else (kgd (kin (((64 : Int32) * v1) + v4) 192) <| kb (kA S 5 15 (((64 : Int32) * v1) + v4)) fun x1 => if x1 = (((4 : Int32) * v2) + v3) then (some v4) else (c15 (v1, v2, v3, (v4 + (1 : Int32)))))
def FX6_said_L15 (S : kS) (v1 : Int32) (v2 : Int32) (v3 : Int32) (v4 : Int32) : Option (Int32) :=
  kfix (fun rec (q : Int32 × Int32 × Int32 × Int32) => FX6_said_B15 rec S q.1 q.2.1 q.2.2.1 q.2.2.2) kfuel (v1, v2, v3, v4)
def FX6_said (S : kS) (a1 : Int32) (a2 : Int32) (a3 : Int32) : Option (Int32) :=
  (FX6_isValue S a1 a2 a3).bind fun x1 => if x1 = 0 then (some (-1 : Int32)) else (FX6_said_L15 S a1 a2 a3 (0 : Int32))
theorem TX6_said_B15 {G : kG} {n : Nat} {d : Nat} {X : kX} (hG : kg_N G = 55 + 14 * n) {S : kS} {c15 : Int32 × Int32 × Int32 × Int32 → Option (Int32)} (hc15 : ∀ (q : Int32 × Int32 × Int32 × Int32) (res : Int32), c15 q = some res → kV (X, RX6, 5, (some .int), G, krm (d + 4), (0, 0), kQ X G (some (.int res)) (kgl G n S)) cX6_said (kgl G n S) [some (.ref (kg_ad G (kbo 5))), some (.int (q.1)), some (.int (q.2.1)), some (.int (q.2.2.1)), some (.int (q.2.2.2))] [] 15) {v1 : Int32} {v2 : Int32} {v3 : Int32} {v4 : Int32} {res : Int32} (h : FX6_said_B15 c15 S v1 v2 v3 v4 = some res) : kV (X, RX6, 5, (some .int), G, krm (d + 4), (0, 0), kQ X G (some (.int res)) (kgl G n S)) cX6_said (kgl G n S) [some (.ref (kg_ad G (kbo 5))), some (.int v1), some (.int v2), some (.int v3), some (.int v4)] [] 15 := by
  unfold FX6_said_B15 at h
  refine kV_iload 17 dX6_said_15 rfl rfl ?_
  refine kV_bipush 19 dX6_said_17 bp_64 rfl ?_
  rcases kif_ex h with ⟨hc, h⟩ | ⟨hc, h⟩
  · refine kV_icmp_ge_t 51 dX6_said_19 (by decide) hc ?_
    clear hc
    refine kV_iconst 52 dX6_said_51 ic_m1 rfl ?_
    cases h
    exact kV_iret dX6_said_52
  · refine kV_icmp_ge_f 51 22 dX6_said_19 (by decide) hc rfl ?_
    clear hc
    refine kV_aloadn 23 dX6_said_22 rfl rfl ?_
    refine rg6_50 26 dX6_said_23 (kOk_of hG rfl) rfl rfl ?_
    refine kV_bipush 28 dX6_said_26 bp_64 rfl ?_
    refine kV_iloadn 29 dX6_said_28 rfl rfl ?_
    refine kV_imul 30 dX6_said_29 rfl ?_
    refine kV_iload 32 dX6_said_30 rfl rfl ?_
    refine kV_iadd 33 dX6_said_32 rfl ?_
    obtain ⟨hi, h⟩ := kgd_ex h
    obtain ⟨x1, hx, h⟩ := kb_ex h
    refine rl6_15 34 dX6_said_33 (kOk_of hG rfl) rfl hi hx rfl ?_
    clear hi hx
    refine kV_iconst 35 dX6_said_34 ic_4 rfl ?_
    refine kV_iloadn 36 dX6_said_35 rfl rfl ?_
    refine kV_imul 37 dX6_said_36 rfl ?_
    refine kV_iloadn 38 dX6_said_37 rfl rfl ?_
    refine kV_iadd 39 dX6_said_38 rfl ?_
    rcases kif_ex h with ⟨hc, h⟩ | ⟨hc, h⟩
    · refine kV_icmp_ne_f 45 42 dX6_said_39 (by decide) hc rfl ?_
      clear hc
      refine kV_iload 44 dX6_said_42 rfl rfl ?_
      cases h
      exact kV_iret dX6_said_44
    · refine kV_icmp_ne_t 45 dX6_said_39 (by decide) hc ?_
      clear hc
      refine kV_iinc 48 [some (.ref (kg_ad G (kbo 5))), some (.int v1), some (.int v2), some (.int v3), some (.int (v4 + (1 : Int32)))] dX6_said_45 rfl (kinc_1 _) rfl rfl rfl ?_
      refine kV_goto 15 dX6_said_48 (by decide) ?_
      refine kV_drop [true, true, true, true, true] rfl ?_
      exact hc15 _ _ h
theorem TX6_said_L15 {G : kG} {n : Nat} {d : Nat} {X : kX} (hG : kg_N G = 55 + 14 * n) {S : kS} {v1 : Int32} {v2 : Int32} {v3 : Int32} {v4 : Int32} {res : Int32} (h : FX6_said_L15 S v1 v2 v3 v4 = some res) : kV (X, RX6, 5, (some .int), G, krm (d + 4), (0, 0), kQ X G (some (.int res)) (kgl G n S)) cX6_said (kgl G n S) [some (.ref (kg_ad G (kbo 5))), some (.int v1), some (.int v2), some (.int v3), some (.int v4)] [] 15 := by
  unfold FX6_said_L15 at h
  exact kfix_ok (P := fun (q : Int32 × Int32 × Int32 × Int32) (res : Int32) => kV (X, RX6, 5, (some .int), G, krm (d + 4), (0, 0), kQ X G (some (.int res)) (kgl G n S)) cX6_said (kgl G n S) [some (.ref (kg_ad G (kbo 5))), some (.int (q.1)), some (.int (q.2.1)), some (.int (q.2.2.1)), some (.int (q.2.2.2))] [] 15) (fun rec hrec q res hq => TX6_said_B15 hG hrec hq) kfuel _ _ h
theorem okX6_said {l : Launch} {G : kG} {n : Nat} (hG : kg_N G = 55 + 14 * n) (d : Nat) {S : kS} {a1 : Int32} {a2 : Int32} {a3 : Int32} {res : Int32} (h : FX6_said S a1 a2 a3 = some res) : kEv l G (d + 4) mX6_said [.ref (kg_ad G (kbo 5)), .int a1, .int a2, .int a3] (kgl G n S) (some (.int res)) (kgl G n S) := by
  refine kEv_of RX6 [some (.ref (kg_ad G (kbo 5))), some (.int a1), some (.int a2), some (.int a3), none] rfl (by decide +kernel) rfl rfl rfl rfl (fun X hX => ?_)
  subst hX
  unfold FX6_said at h
  refine kV_aloadn 1 dX6_said_0 rfl rfl ?_
  refine kV_iloadn 2 dX6_said_1 rfl rfl ?_
  refine kV_iloadn 3 dX6_said_2 rfl rfl ?_
  refine kV_iloadn 4 dX6_said_3 rfl rfl ?_
  obtain ⟨x1, hx, h⟩ := kbi_ex h
  refine kC_V 7 [] [.int x1] dX6_said_4 (okX6_isValue hG d  hx) kmvX6_isValue (wi_r10 _ (List.mem_of_getElem? (i := 7) rfl)) (kOk_of hG rfl) rfl rfl rfl rfl rfl rfl ?_
  clear hx
  rcases kif_ex h with ⟨hc, h⟩ | ⟨hc, h⟩
  · refine kV_if_ne_f 12 10 dX6_said_7 (by decide) hc rfl ?_
    clear hc
    refine kV_iconst 11 dX6_said_10 ic_m1 rfl ?_
    cases h
    exact kV_iret dX6_said_11
  · refine kV_if_ne_t 12 dX6_said_7 (by decide) hc ?_
    clear hc
    refine kV_iconst 13 dX6_said_12 ic_0 rfl ?_
    refine kV_istore 15 [some (.ref (kg_ad G (kbo 5))), some (.int a1), some (.int a2), some (.int a3), some (.int (0 : Int32))] dX6_said_13 rfl rfl rfl ?_
    refine kV_drop [true, true, true, true, true] rfl ?_
    exact TX6_said_L15 hG h
abbrev mX6_heard : kM := (yX6_heard, cX6_heard, 2, (some .int))
theorem kmvX6_heard : kMv mX6_heard 1 6 := ⟨⟨(wi_r32 _ (List.mem_of_getElem? (i := 2) rfl)), (wi_r1 _ (List.mem_of_getElem? (i := 5) rfl)), ⟨by decide +kernel, by decide +kernel, by decide +kernel⟩, by decide⟩, (wi_r32 _ (List.mem_of_getElem? (i := 0) rfl)), (wi_r32 _ (List.mem_of_getElem? (i := 1) rfl)), rfl⟩
def FX6_heard (S : kS) (a1 : Int32) : Option (Int32) :=
  if a1 = (0 : Int32) then (kb (kI S 5 39) fun x1 => some x1) else (if a1 = (1 : Int32) then (kb (kI S 5 40) fun x2 => some x2) else (if a1 = (2 : Int32) then (kb (kI S 5 41) fun x3 => some x3) else (if a1 = (3 : Int32) then (kb (kI S 5 42) fun x4 => some x4) else (if a1 = (4 : Int32) then (kb (kI S 5 43) fun x5 => some x5) else (some (-1 : Int32))))))
theorem okX6_heard {l : Launch} {G : kG} {n : Nat} (hG : kg_N G = 55 + 14 * n) (d : Nat) {S : kS} {a1 : Int32} {res : Int32} (h : FX6_heard S a1 = some res) : kEv l G (d + 0) mX6_heard [.ref (kg_ad G (kbo 5)), .int a1] (kgl G n S) (some (.int res)) (kgl G n S) := by
  refine kEv_of RX6 [some (.ref (kg_ad G (kbo 5))), some (.int a1)] rfl (by decide +kernel) rfl rfl rfl rfl (fun X hX => ?_)
  subst hX
  unfold FX6_heard at h
  refine kV_iloadn 1 dX6_heard_0 rfl rfl ?_
  rcases kif_ex h with ⟨hc, h⟩ | ⟨hc0, h⟩
  · refine kV_tableIn (off := 35) 36 dX6_heard_1 (by rw [hc]; decide) (by rw [hc]; decide) (by rw [hc]; decide) (by decide) ?_
    clear hc
    refine kV_aloadn 37 dX6_heard_36 rfl rfl ?_
    obtain ⟨x1, hx, h⟩ := kb_ex h
    refine rg6_200 40 dX6_heard_37 (kOk_of hG rfl) rfl hx rfl ?_
    clear hx
    cases h
    exact kV_iret dX6_heard_40
  · rcases kif_ex h with ⟨hc, h⟩ | ⟨hc1, h⟩
    · refine kV_tableIn (off := 40) 41 dX6_heard_1 (by rw [hc]; decide) (by rw [hc]; decide) (by rw [hc]; decide) (by decide) ?_
      clear hc
      refine kV_aloadn 42 dX6_heard_41 rfl rfl ?_
      obtain ⟨x2, hx, h⟩ := kb_ex h
      refine rg6_203 45 dX6_heard_42 (kOk_of hG rfl) rfl hx rfl ?_
      clear hx
      cases h
      exact kV_iret dX6_heard_45
    · rcases kif_ex h with ⟨hc, h⟩ | ⟨hc2, h⟩
      · refine kV_tableIn (off := 45) 46 dX6_heard_1 (by rw [hc]; decide) (by rw [hc]; decide) (by rw [hc]; decide) (by decide) ?_
        clear hc
        refine kV_aloadn 47 dX6_heard_46 rfl rfl ?_
        obtain ⟨x3, hx, h⟩ := kb_ex h
        refine rg6_206 50 dX6_heard_47 (kOk_of hG rfl) rfl hx rfl ?_
        clear hx
        cases h
        exact kV_iret dX6_heard_50
      · rcases kif_ex h with ⟨hc, h⟩ | ⟨hc3, h⟩
        · refine kV_tableIn (off := 50) 51 dX6_heard_1 (by rw [hc]; decide) (by rw [hc]; decide) (by rw [hc]; decide) (by decide) ?_
          clear hc
          refine kV_aloadn 52 dX6_heard_51 rfl rfl ?_
          obtain ⟨x4, hx, h⟩ := kb_ex h
          refine rg6_209 55 dX6_heard_52 (kOk_of hG rfl) rfl hx rfl ?_
          clear hx
          cases h
          exact kV_iret dX6_heard_55
        · rcases kif_ex h with ⟨hc, h⟩ | ⟨hc4, h⟩
          · refine kV_tableIn (off := 55) 56 dX6_heard_1 (by rw [hc]; decide) (by rw [hc]; decide) (by rw [hc]; decide) (by decide) ?_
            clear hc
            refine kV_aloadn 57 dX6_heard_56 rfl rfl ?_
            obtain ⟨x5, hx, h⟩ := kb_ex h
            refine rg6_102 60 dX6_heard_57 (kOk_of hG rfl) rfl hx rfl ?_
            clear hx
            cases h
            exact kV_iret dX6_heard_60
          · refine kV_tableOut 61 dX6_heard_1 (ktab_out 4 _ (fun j hj => match j, hj with | 0, _ => hc0 | 1, _ => hc1 | 2, _ => hc2 | 3, _ => hc3 | 4, _ => hc4 | j + 5, hj => absurd hj (by omega))) (by decide) ?_
            refine kV_iconst 62 dX6_heard_61 ic_m1 rfl ?_
            cases h
            exact kV_iret dX6_heard_62
abbrev mX6_count : kM := (yX6_count, cX6_count, 2, (some .int))
theorem kmvX6_count : kMv mX6_count 1 6 := ⟨⟨(wi_r32 _ (List.mem_of_getElem? (i := 15) rfl)), (wi_r1 _ (List.mem_of_getElem? (i := 5) rfl)), ⟨by decide +kernel, by decide +kernel, by decide +kernel⟩, by decide⟩, (wi_r32 _ (List.mem_of_getElem? (i := 13) rfl)), (wi_r32 _ (List.mem_of_getElem? (i := 14) rfl)), rfl⟩
def FX6_count_J89 (S : kS) (s0 : Int32) : Option (Int32) :=
  some s0
def FX6_count_J75 (S : kS) (s0 : Int32) : Option (Int32) :=
  some s0
def FX6_count (S : kS) (a1 : Int32) : Option (Int32) :=
  if a1 = (0 : Int32) then (kb (kI S 5 25) fun x1 => some x1) else (if a1 = (1 : Int32) then (kb (kI S 5 25) fun x2 => if x2 = 0 then (FX6_count_J75 S (-1 : Int32)) else (kb (kI S 5 25) fun x3 => kgd (kin (x3 - (1 : Int32)) 3) <| kb (kA S 5 24 (x3 - (1 : Int32))) fun x4 => FX6_count_J75 S x4)) else (if a1 = (2 : Int32) then (kb (kI S 5 31) fun x5 => if x5 < (3 : Int32) then (FX6_count_J89 S (0 : Int32)) else (FX6_count_J89 S (1 : Int32))) else (if a1 = (3 : Int32) then (kb (kI S 5 26) fun x6 => some x6) else (if a1 = (4 : Int32) then (kb (kI S 5 33) fun x7 => some x7) else (if a1 = (5 : Int32) then (kb (kI S 5 23) fun x8 => some x8) else (if a1 = (6 : Int32) then (kb (kI S 5 1) fun x9 => some x9) else (if a1 = (7 : Int32) then (kb (kI S 5 16) fun x10 => some x10) else (some (-1 : Int32)))))))))
theorem TX6_count_J89 {G : kG} {n : Nat} {d : Nat} {X : kX} (hG : kg_N G = 55 + 14 * n) {S : kS} {s0 : Int32} {res : Int32} (h : FX6_count_J89 S s0 = some res) : kV (X, RX6, 2, (some .int), G, krm (d + 0), (0, 0), kQ X G (some (.int res)) (kgl G n S)) cX6_count (kgl G n S) [none, none] [.int s0] 89 := by
  unfold FX6_count_J89 at h
  cases h
  exact kV_iret dX6_count_89
theorem TX6_count_J75 {G : kG} {n : Nat} {d : Nat} {X : kX} (hG : kg_N G = 55 + 14 * n) {S : kS} {s0 : Int32} {res : Int32} (h : FX6_count_J75 S s0 = some res) : kV (X, RX6, 2, (some .int), G, krm (d + 0), (0, 0), kQ X G (some (.int res)) (kgl G n S)) cX6_count (kgl G n S) [none, none] [.int s0] 75 := by
  unfold FX6_count_J75 at h
  cases h
  exact kV_iret dX6_count_75
theorem okX6_count {l : Launch} {G : kG} {n : Nat} (hG : kg_N G = 55 + 14 * n) (d : Nat) {S : kS} {a1 : Int32} {res : Int32} (h : FX6_count S a1 = some res) : kEv l G (d + 0) mX6_count [.ref (kg_ad G (kbo 5)), .int a1] (kgl G n S) (some (.int res)) (kgl G n S) := by
  refine kEv_of RX6 [some (.ref (kg_ad G (kbo 5))), some (.int a1)] rfl (by decide +kernel) rfl rfl rfl rfl (fun X hX => ?_)
  subst hX
  unfold FX6_count at h
  refine kV_iloadn 1 dX6_count_0 rfl rfl ?_
  rcases kif_ex h with ⟨hc, h⟩ | ⟨hc0, h⟩
  · refine kV_tableIn (off := 47) 48 dX6_count_1 (by rw [hc]; decide) (by rw [hc]; decide) (by rw [hc]; decide) (by decide) ?_
    clear hc
    refine kV_aloadn 49 dX6_count_48 rfl rfl ?_
    obtain ⟨x1, hx, h⟩ := kb_ex h
    refine rg6_126 52 dX6_count_49 (kOk_of hG rfl) rfl hx rfl ?_
    clear hx
    cases h
    exact kV_iret dX6_count_52
  · rcases kif_ex h with ⟨hc, h⟩ | ⟨hc1, h⟩
    · refine kV_tableIn (off := 52) 53 dX6_count_1 (by rw [hc]; decide) (by rw [hc]; decide) (by rw [hc]; decide) (by decide) ?_
      clear hc
      refine kV_aloadn 54 dX6_count_53 rfl rfl ?_
      obtain ⟨x2, hx, h⟩ := kb_ex h
      refine rg6_126 57 dX6_count_54 (kOk_of hG rfl) rfl hx rfl ?_
      clear hx
      rcases kif_ex h with ⟨hc, h⟩ | ⟨hc, h⟩
      · refine kV_if_ne_f 64 60 dX6_count_57 (by decide) hc rfl ?_
        clear hc
        refine kV_iconst 61 dX6_count_60 ic_m1 rfl ?_
        refine kV_goto 75 dX6_count_61 (by decide) ?_
        refine kV_drop [false, false] rfl ?_
        exact TX6_count_J75 hG h
      · refine kV_if_ne_t 64 dX6_count_57 (by decide) hc ?_
        clear hc
        refine kV_aloadn 65 dX6_count_64 rfl rfl ?_
        refine rg6_71 68 dX6_count_65 (kOk_of hG rfl) rfl rfl ?_
        refine kV_aloadn 69 dX6_count_68 rfl rfl ?_
        obtain ⟨x3, hx, h⟩ := kb_ex h
        refine rg6_126 72 dX6_count_69 (kOk_of hG rfl) rfl hx rfl ?_
        clear hx
        refine kV_iconst 73 dX6_count_72 ic_1 rfl ?_
        refine kV_isub 74 dX6_count_73 rfl ?_
        obtain ⟨hi, h⟩ := kgd_ex h
        obtain ⟨x4, hx, h⟩ := kb_ex h
        refine rl6_24 75 dX6_count_74 (kOk_of hG rfl) rfl hi hx rfl ?_
        clear hi hx
        refine kV_drop [false, false] rfl ?_
        exact TX6_count_J75 hG h
    · rcases kif_ex h with ⟨hc, h⟩ | ⟨hc2, h⟩
      · refine kV_tableIn (off := 75) 76 dX6_count_1 (by rw [hc]; decide) (by rw [hc]; decide) (by rw [hc]; decide) (by decide) ?_
        clear hc
        refine kV_aloadn 77 dX6_count_76 rfl rfl ?_
        obtain ⟨x5, hx, h⟩ := kb_ex h
        refine rg6_215 80 dX6_count_77 (kOk_of hG rfl) rfl hx rfl ?_
        clear hx
        refine kV_iconst 81 dX6_count_80 ic_3 rfl ?_
        rcases kif_ex h with ⟨hc, h⟩ | ⟨hc, h⟩
        · refine kV_icmp_lt_t 88 dX6_count_81 (by decide) hc ?_
          clear hc
          refine kV_iconst 89 dX6_count_88 ic_0 rfl ?_
          refine kV_drop [false, false] rfl ?_
          exact TX6_count_J89 hG h
        · refine kV_icmp_lt_f 88 84 dX6_count_81 (by decide) hc rfl ?_
          clear hc
          refine kV_iconst 85 dX6_count_84 ic_1 rfl ?_
          refine kV_goto 89 dX6_count_85 (by decide) ?_
          refine kV_drop [false, false] rfl ?_
          exact TX6_count_J89 hG h
      · rcases kif_ex h with ⟨hc, h⟩ | ⟨hc3, h⟩
        · refine kV_tableIn (off := 89) 90 dX6_count_1 (by rw [hc]; decide) (by rw [hc]; decide) (by rw [hc]; decide) (by decide) ?_
          clear hc
          refine kV_aloadn 91 dX6_count_90 rfl rfl ?_
          obtain ⟨x6, hx, h⟩ := kb_ex h
          refine rg6_156 94 dX6_count_91 (kOk_of hG rfl) rfl hx rfl ?_
          clear hx
          cases h
          exact kV_iret dX6_count_94
        · rcases kif_ex h with ⟨hc, h⟩ | ⟨hc4, h⟩
          · refine kV_tableIn (off := 94) 95 dX6_count_1 (by rw [hc]; decide) (by rw [hc]; decide) (by rw [hc]; decide) (by decide) ?_
            clear hc
            refine kV_aloadn 96 dX6_count_95 rfl rfl ?_
            obtain ⟨x7, hx, h⟩ := kb_ex h
            refine rg6_159 99 dX6_count_96 (kOk_of hG rfl) rfl hx rfl ?_
            clear hx
            cases h
            exact kV_iret dX6_count_99
          · rcases kif_ex h with ⟨hc, h⟩ | ⟨hc5, h⟩
            · refine kV_tableIn (off := 99) 100 dX6_count_1 (by rw [hc]; decide) (by rw [hc]; decide) (by rw [hc]; decide) (by decide) ?_
              clear hc
              refine kV_aloadn 101 dX6_count_100 rfl rfl ?_
              obtain ⟨x8, hx, h⟩ := kb_ex h
              refine rg6_143 104 dX6_count_101 (kOk_of hG rfl) rfl hx rfl ?_
              clear hx
              cases h
              exact kV_iret dX6_count_104
            · rcases kif_ex h with ⟨hc, h⟩ | ⟨hc6, h⟩
              · refine kV_tableIn (off := 104) 105 dX6_count_1 (by rw [hc]; decide) (by rw [hc]; decide) (by rw [hc]; decide) (by decide) ?_
                clear hc
                refine kV_aloadn 106 dX6_count_105 rfl rfl ?_
                obtain ⟨x9, hx, h⟩ := kb_ex h
                refine rg6_111 109 dX6_count_106 (kOk_of hG rfl) rfl hx rfl ?_
                clear hx
                cases h
                exact kV_iret dX6_count_109
              · rcases kif_ex h with ⟨hc, h⟩ | ⟨hc7, h⟩
                · refine kV_tableIn (off := 109) 110 dX6_count_1 (by rw [hc]; decide) (by rw [hc]; decide) (by rw [hc]; decide) (by decide) ?_
                  clear hc
                  refine kV_aloadn 111 dX6_count_110 rfl rfl ?_
                  obtain ⟨x10, hx, h⟩ := kb_ex h
                  refine rg6_146 114 dX6_count_111 (kOk_of hG rfl) rfl hx rfl ?_
                  clear hx
                  cases h
                  exact kV_iret dX6_count_114
                · refine kV_tableOut 115 dX6_count_1 (ktab_out 7 _ (fun j hj => match j, hj with | 0, _ => hc0 | 1, _ => hc1 | 2, _ => hc2 | 3, _ => hc3 | 4, _ => hc4 | 5, _ => hc5 | 6, _ => hc6 | 7, _ => hc7 | j + 8, hj => absurd hj (by omega))) (by decide) ?_
                  refine kV_iconst 116 dX6_count_115 ic_m1 rfl ?_
                  cases h
                  exact kV_iret dX6_count_116
