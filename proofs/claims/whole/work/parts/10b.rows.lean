abbrev mX3_leastCost : kM := (yX3_leastCost, cX3_leastCost, 1, (some .int))
theorem kmvX3_leastCost : kMv mX3_leastCost 0 3 := ⟨⟨(wi_r19 _ (List.mem_of_getElem? (i := 11) rfl)), (wi_r2 _ (List.mem_of_getElem? (i := 2) rfl)), ⟨by decide +kernel, by decide +kernel, by decide +kernel⟩, by decide⟩, (wi_r19 _ (List.mem_of_getElem? (i := 9) rfl)), (wi_r19 _ (List.mem_of_getElem? (i := 10) rfl)), rfl⟩
def FX3_leastCost (S : kS) : Option (Int32) :=
  kgd (kin (0 : Int32) 9) <| kb (kA S 2 2 (0 : Int32)) fun x1 => some x1
theorem okX3_leastCost {l : Launch} {G : kG} {n : Nat} (hG : kg_N G = 55 + 14 * n) (d : Nat) {S : kS} {res : Int32} (h : FX3_leastCost S = some res) : kEv l G (d + 0) mX3_leastCost [.ref (kg_ad G (kbo 2))] (kgl G n S) (some (.int res)) (kgl G n S) := by
  refine kEv_of RX3 [some (.ref (kg_ad G (kbo 2)))] rfl (by decide +kernel) rfl rfl rfl rfl (fun X hX => ?_)
  subst hX
  unfold FX3_leastCost at h
  refine kV_aloadn 1 dX3_leastCost_0 rfl rfl ?_
  refine rg3_19 4 dX3_leastCost_1 (kOk_of hG rfl) rfl rfl ?_
  refine kV_iconst 5 dX3_leastCost_4 ic_0 rfl ?_
  obtain ⟨hi, h⟩ := kgd_ex h
  obtain ⟨x1, hx, h⟩ := kb_ex h
  refine rl3_2 6 dX3_leastCost_5 (kOk_of hG rfl) rfl hi hx rfl ?_
  clear hi hx
  cases h
  exact kV_iret dX3_leastCost_6
abbrev mX3_isHeard : kM := (yX3_isHeard, cX3_isHeard, 1, (some .boolean))
theorem kmvX3_isHeard : kMv mX3_isHeard 0 3 := ⟨⟨(wi_r19 _ (List.mem_of_getElem? (i := 7) rfl)), (wi_r2 _ (List.mem_of_getElem? (i := 2) rfl)), ⟨by decide +kernel, by decide +kernel, by decide +kernel⟩, by decide⟩, (wi_r19 _ (List.mem_of_getElem? (i := 5) rfl)), (wi_r19 _ (List.mem_of_getElem? (i := 6) rfl)), rfl⟩
def FX3_isHeard (S : kS) : Option (Int32) :=
  kgd (kin (0 : Int32) 9) <| kb (kA S 2 5 (0 : Int32)) fun x1 => kgd (kz x1) <| some x1
theorem okX3_isHeard {l : Launch} {G : kG} {n : Nat} (hG : kg_N G = 55 + 14 * n) (d : Nat) {S : kS} {res : Int32} (h : FX3_isHeard S = some res) : kEv l G (d + 0) mX3_isHeard [.ref (kg_ad G (kbo 2))] (kgl G n S) (some (.int res)) (kgl G n S) := by
  refine kEv_of RX3 [some (.ref (kg_ad G (kbo 2)))] rfl (by decide +kernel) rfl rfl rfl rfl (fun X hX => ?_)
  subst hX
  unfold FX3_isHeard at h
  refine kV_aloadn 1 dX3_isHeard_0 rfl rfl ?_
  refine rg3_28 4 dX3_isHeard_1 (kOk_of hG rfl) rfl rfl ?_
  refine kV_iconst 5 dX3_isHeard_4 ic_0 rfl ?_
  obtain ⟨hi, h⟩ := kgd_ex h
  obtain ⟨x1, hx, h⟩ := kb_ex h
  refine rl3_5 6 dX3_isHeard_5 (kOk_of hG rfl) rfl hi hx rfl ?_
  clear hi hx
  obtain ⟨hz, h⟩ := kgd_ex h
  cases h
  exact kV_zret dX3_isHeard_6 (of_decide_eq_true hz)
abbrev mX3_mostPassed : kM := (yX3_mostPassed, cX3_mostPassed, 1, (some .int))
theorem kmvX3_mostPassed : kMv mX3_mostPassed 0 3 := ⟨⟨(wi_r31 _ (List.mem_of_getElem? (i := 18) rfl)), (wi_r2 _ (List.mem_of_getElem? (i := 2) rfl)), ⟨by decide +kernel, by decide +kernel, by decide +kernel⟩, by decide⟩, (wi_r31 _ (List.mem_of_getElem? (i := 16) rfl)), (wi_r31 _ (List.mem_of_getElem? (i := 17) rfl)), rfl⟩
def FX3_mostPassed (S : kS) : Option (Int32) :=
  kgd (kin (0 : Int32) 9) <| kb (kA S 2 4 (0 : Int32)) fun x1 => some x1
theorem okX3_mostPassed {l : Launch} {G : kG} {n : Nat} (hG : kg_N G = 55 + 14 * n) (d : Nat) {S : kS} {res : Int32} (h : FX3_mostPassed S = some res) : kEv l G (d + 0) mX3_mostPassed [.ref (kg_ad G (kbo 2))] (kgl G n S) (some (.int res)) (kgl G n S) := by
  refine kEv_of RX3 [some (.ref (kg_ad G (kbo 2)))] rfl (by decide +kernel) rfl rfl rfl rfl (fun X hX => ?_)
  subst hX
  unfold FX3_mostPassed at h
  refine kV_aloadn 1 dX3_mostPassed_0 rfl rfl ?_
  refine rg3_25 4 dX3_mostPassed_1 (kOk_of hG rfl) rfl rfl ?_
  refine kV_iconst 5 dX3_mostPassed_4 ic_0 rfl ?_
  obtain ⟨hi, h⟩ := kgd_ex h
  obtain ⟨x1, hx, h⟩ := kb_ex h
  refine rl3_4 6 dX3_mostPassed_5 (kOk_of hG rfl) rfl hi hx rfl ?_
  clear hi hx
  cases h
  exact kV_iret dX3_mostPassed_6
abbrev mX3_leastReadings : kM := (yX3_leastReadings, cX3_leastReadings, 1, (some .int))
theorem kmvX3_leastReadings : kMv mX3_leastReadings 0 3 := ⟨⟨(wi_r31 _ (List.mem_of_getElem? (i := 22) rfl)), (wi_r2 _ (List.mem_of_getElem? (i := 2) rfl)), ⟨by decide +kernel, by decide +kernel, by decide +kernel⟩, by decide⟩, (wi_r31 _ (List.mem_of_getElem? (i := 20) rfl)), (wi_r31 _ (List.mem_of_getElem? (i := 21) rfl)), rfl⟩
def FX3_leastReadings (S : kS) : Option (Int32) :=
  kgd (kin (0 : Int32) 9) <| kb (kA S 2 3 (0 : Int32)) fun x1 => some x1
theorem okX3_leastReadings {l : Launch} {G : kG} {n : Nat} (hG : kg_N G = 55 + 14 * n) (d : Nat) {S : kS} {res : Int32} (h : FX3_leastReadings S = some res) : kEv l G (d + 0) mX3_leastReadings [.ref (kg_ad G (kbo 2))] (kgl G n S) (some (.int res)) (kgl G n S) := by
  refine kEv_of RX3 [some (.ref (kg_ad G (kbo 2)))] rfl (by decide +kernel) rfl rfl rfl rfl (fun X hX => ?_)
  subst hX
  unfold FX3_leastReadings at h
  refine kV_aloadn 1 dX3_leastReadings_0 rfl rfl ?_
  refine rg3_22 4 dX3_leastReadings_1 (kOk_of hG rfl) rfl rfl ?_
  refine kV_iconst 5 dX3_leastReadings_4 ic_0 rfl ?_
  obtain ⟨hi, h⟩ := kgd_ex h
  obtain ⟨x1, hx, h⟩ := kb_ex h
  refine rl3_3 6 dX3_leastReadings_5 (kOk_of hG rfl) rfl hi hx rfl ?_
  clear hi hx
  cases h
  exact kV_iret dX3_leastReadings_6
abbrev mX3_answer : kM := (yX3_answer, cX3_answer, 1, (some .int))
theorem kmvX3_answer : kMv mX3_answer 0 3 := ⟨⟨(wi_r20 _ (List.mem_of_getElem? (i := 11) rfl)), (wi_r2 _ (List.mem_of_getElem? (i := 2) rfl)), ⟨by decide +kernel, by decide +kernel, by decide +kernel⟩, by decide⟩, (wi_r20 _ (List.mem_of_getElem? (i := 9) rfl)), (wi_r20 _ (List.mem_of_getElem? (i := 10) rfl)), rfl⟩
def FX3_answer (S : kS) : Option (Int32) :=
  kb (kI S 2 7) fun x1 => some x1
theorem okX3_answer {l : Launch} {G : kG} {n : Nat} (hG : kg_N G = 55 + 14 * n) (d : Nat) {S : kS} {res : Int32} (h : FX3_answer S = some res) : kEv l G (d + 0) mX3_answer [.ref (kg_ad G (kbo 2))] (kgl G n S) (some (.int res)) (kgl G n S) := by
  refine kEv_of RX3 [some (.ref (kg_ad G (kbo 2)))] rfl (by decide +kernel) rfl rfl rfl rfl (fun X hX => ?_)
  subst hX
  unfold FX3_answer at h
  refine kV_aloadn 1 dX3_answer_0 rfl rfl ?_
  obtain ⟨x1, hx, h⟩ := kb_ex h
  refine rg3_35 4 dX3_answer_1 (kOk_of hG rfl) rfl hx rfl ?_
  clear hx
  cases h
  exact kV_iret dX3_answer_4
abbrev mX3_valuesFor : kM := (yX3_valuesFor, cX3_valuesFor, 2, (some .int))
theorem kmvX3_valuesFor : kMv mX3_valuesFor 1 3 := ⟨⟨(wi_r21 _ (List.mem_of_getElem? (i := 3) rfl)), (wi_r2 _ (List.mem_of_getElem? (i := 2) rfl)), ⟨by decide +kernel, by decide +kernel, by decide +kernel⟩, by decide⟩, (wi_r21 _ (List.mem_of_getElem? (i := 1) rfl)), (wi_r21 _ (List.mem_of_getElem? (i := 2) rfl)), rfl⟩
def FX3_valuesFor_J22 (S : kS) (s0 : Int32) : Option (Int32) :=
  some s0
def FX3_valuesFor_J21 (S : kS) : Option (Int32) :=
  FX3_valuesFor_J22 S (0 : Int32)
def FX3_valuesFor (S : kS) (a1 : Int32) : Option (Int32) :=
  if a1 < 0 then (FX3_valuesFor_J21 S) else (if (5 : Int32) ≤ a1 then (FX3_valuesFor_J21 S) else (kgd (kin a1 45) <| kb (kA S 2 6 a1) fun x1 => FX3_valuesFor_J22 S (x1 &&& (15 : Int32))))
theorem TX3_valuesFor_J22 {G : kG} {n : Nat} {d : Nat} {X : kX} (hG : kg_N G = 55 + 14 * n) {S : kS} {s0 : Int32} {res : Int32} (h : FX3_valuesFor_J22 S s0 = some res) : kV (X, RX3, 2, (some .int), G, krm (d + 0), (0, 0), kQ X G (some (.int res)) (kgl G n S)) cX3_valuesFor (kgl G n S) [none, none] [.int s0] 22 := by
  unfold FX3_valuesFor_J22 at h
  cases h
  exact kV_iret dX3_valuesFor_22
theorem TX3_valuesFor_J21 {G : kG} {n : Nat} {d : Nat} {X : kX} (hG : kg_N G = 55 + 14 * n) {S : kS} {res : Int32} (h : FX3_valuesFor_J21 S = some res) : kV (X, RX3, 2, (some .int), G, krm (d + 0), (0, 0), kQ X G (some (.int res)) (kgl G n S)) cX3_valuesFor (kgl G n S) [none, none] [] 21 := by
  unfold FX3_valuesFor_J21 at h
  refine kV_iconst 22 dX3_valuesFor_21 ic_0 rfl ?_
  refine kV_drop [false, false] rfl ?_
  exact TX3_valuesFor_J22 hG h
theorem okX3_valuesFor {l : Launch} {G : kG} {n : Nat} (hG : kg_N G = 55 + 14 * n) (d : Nat) {S : kS} {a1 : Int32} {res : Int32} (h : FX3_valuesFor S a1 = some res) : kEv l G (d + 0) mX3_valuesFor [.ref (kg_ad G (kbo 2)), .int a1] (kgl G n S) (some (.int res)) (kgl G n S) := by
  refine kEv_of RX3 [some (.ref (kg_ad G (kbo 2))), some (.int a1)] rfl (by decide +kernel) rfl rfl rfl rfl (fun X hX => ?_)
  subst hX
  unfold FX3_valuesFor at h
  refine kV_iloadn 1 dX3_valuesFor_0 rfl rfl ?_
  rcases kif_ex h with ⟨hc, h⟩ | ⟨hc, h⟩
  · refine kV_if_lt_t 21 dX3_valuesFor_1 (by decide) hc ?_
    clear hc
    refine kV_drop [false, false] rfl ?_
    exact TX3_valuesFor_J21 hG h
  · refine kV_if_lt_f 21 4 dX3_valuesFor_1 (by decide) hc rfl ?_
    clear hc
    refine kV_iloadn 5 dX3_valuesFor_4 rfl rfl ?_
    refine kV_iconst 6 dX3_valuesFor_5 ic_5 rfl ?_
    rcases kif_ex h with ⟨hc, h⟩ | ⟨hc, h⟩
    · refine kV_icmp_ge_t 21 dX3_valuesFor_6 (by decide) hc ?_
      clear hc
      refine kV_drop [false, false] rfl ?_
      exact TX3_valuesFor_J21 hG h
    · refine kV_icmp_ge_f 21 9 dX3_valuesFor_6 (by decide) hc rfl ?_
      clear hc
      refine kV_aloadn 10 dX3_valuesFor_9 rfl rfl ?_
      refine rg3_32 13 dX3_valuesFor_10 (kOk_of hG rfl) rfl rfl ?_
      refine kV_iloadn 14 dX3_valuesFor_13 rfl rfl ?_
      obtain ⟨hi, h⟩ := kgd_ex h
      obtain ⟨x1, hx, h⟩ := kb_ex h
      refine rl3_6 15 dX3_valuesFor_14 (kOk_of hG rfl) rfl hi hx rfl ?_
      clear hi hx
      refine kV_bipush 17 dX3_valuesFor_15 bp_15 rfl ?_
      refine kV_iand 18 dX3_valuesFor_17 rfl ?_
      refine kV_goto 22 dX3_valuesFor_18 (by decide) ?_
      refine kV_drop [false, false] rfl ?_
      exact TX3_valuesFor_J22 hG h
abbrev mX3_mayLeave : kM := (yX3_mayLeave, cX3_mayLeave, 2, (some .boolean))
theorem kmvX3_mayLeave : kMv mX3_mayLeave 1 3 := ⟨⟨(wi_r21 _ (List.mem_of_getElem? (i := 7) rfl)), (wi_r2 _ (List.mem_of_getElem? (i := 2) rfl)), ⟨by decide +kernel, by decide +kernel, by decide +kernel⟩, by decide⟩, (wi_r21 _ (List.mem_of_getElem? (i := 5) rfl)), (wi_r21 _ (List.mem_of_getElem? (i := 6) rfl)), rfl⟩
def FX3_mayLeave_J26 (S : kS) (s0 : Int32) : Option (Int32) :=
  kgd (kz s0) <| some s0
def FX3_mayLeave_J25 (S : kS) : Option (Int32) :=
  FX3_mayLeave_J26 S (0 : Int32)
def FX3_mayLeave (S : kS) (a1 : Int32) : Option (Int32) :=
  if a1 < 0 then (FX3_mayLeave_J25 S) else (if (5 : Int32) ≤ a1 then (FX3_mayLeave_J25 S) else (kgd (kin a1 45) <| kb (kA S 2 6 a1) fun x1 => if (x1 &&& (16 : Int32)) = 0 then (FX3_mayLeave_J25 S) else (FX3_mayLeave_J26 S (1 : Int32))))
theorem TX3_mayLeave_J26 {G : kG} {n : Nat} {d : Nat} {X : kX} (hG : kg_N G = 55 + 14 * n) {S : kS} {s0 : Int32} {res : Int32} (h : FX3_mayLeave_J26 S s0 = some res) : kV (X, RX3, 2, (some .boolean), G, krm (d + 0), (0, 0), kQ X G (some (.int res)) (kgl G n S)) cX3_mayLeave (kgl G n S) [none, none] [.int s0] 26 := by
  unfold FX3_mayLeave_J26 at h
  obtain ⟨hz, h⟩ := kgd_ex h
  cases h
  exact kV_zret dX3_mayLeave_26 (of_decide_eq_true hz)
theorem TX3_mayLeave_J25 {G : kG} {n : Nat} {d : Nat} {X : kX} (hG : kg_N G = 55 + 14 * n) {S : kS} {res : Int32} (h : FX3_mayLeave_J25 S = some res) : kV (X, RX3, 2, (some .boolean), G, krm (d + 0), (0, 0), kQ X G (some (.int res)) (kgl G n S)) cX3_mayLeave (kgl G n S) [none, none] [] 25 := by
  unfold FX3_mayLeave_J25 at h
  refine kV_iconst 26 dX3_mayLeave_25 ic_0 rfl ?_
  refine kV_drop [false, false] rfl ?_
  exact TX3_mayLeave_J26 hG h
theorem okX3_mayLeave {l : Launch} {G : kG} {n : Nat} (hG : kg_N G = 55 + 14 * n) (d : Nat) {S : kS} {a1 : Int32} {res : Int32} (h : FX3_mayLeave S a1 = some res) : kEv l G (d + 0) mX3_mayLeave [.ref (kg_ad G (kbo 2)), .int a1] (kgl G n S) (some (.int res)) (kgl G n S) := by
  refine kEv_of RX3 [some (.ref (kg_ad G (kbo 2))), some (.int a1)] rfl (by decide +kernel) rfl rfl rfl rfl (fun X hX => ?_)
  subst hX
  unfold FX3_mayLeave at h
  refine kV_iloadn 1 dX3_mayLeave_0 rfl rfl ?_
  rcases kif_ex h with ⟨hc, h⟩ | ⟨hc, h⟩
  · refine kV_if_lt_t 25 dX3_mayLeave_1 (by decide) hc ?_
    clear hc
    refine kV_drop [false, false] rfl ?_
    exact TX3_mayLeave_J25 hG h
  · refine kV_if_lt_f 25 4 dX3_mayLeave_1 (by decide) hc rfl ?_
    clear hc
    refine kV_iloadn 5 dX3_mayLeave_4 rfl rfl ?_
    refine kV_iconst 6 dX3_mayLeave_5 ic_5 rfl ?_
    rcases kif_ex h with ⟨hc, h⟩ | ⟨hc, h⟩
    · refine kV_icmp_ge_t 25 dX3_mayLeave_6 (by decide) hc ?_
      clear hc
      refine kV_drop [false, false] rfl ?_
      exact TX3_mayLeave_J25 hG h
    · refine kV_icmp_ge_f 25 9 dX3_mayLeave_6 (by decide) hc rfl ?_
      clear hc
      refine kV_aloadn 10 dX3_mayLeave_9 rfl rfl ?_
      refine rg3_32 13 dX3_mayLeave_10 (kOk_of hG rfl) rfl rfl ?_
      refine kV_iloadn 14 dX3_mayLeave_13 rfl rfl ?_
      obtain ⟨hi, h⟩ := kgd_ex h
      obtain ⟨x1, hx, h⟩ := kb_ex h
      refine rl3_6 15 dX3_mayLeave_14 (kOk_of hG rfl) rfl hi hx rfl ?_
      clear hi hx
      refine kV_bipush 17 dX3_mayLeave_15 bp_16 rfl ?_
      refine kV_iand 18 dX3_mayLeave_17 rfl ?_
      rcases kif_ex h with ⟨hc, h⟩ | ⟨hc, h⟩
      · refine kV_if_eq_t 25 dX3_mayLeave_18 (by decide) hc ?_
        clear hc
        refine kV_drop [false, false] rfl ?_
        exact TX3_mayLeave_J25 hG h
      · refine kV_if_eq_f 25 21 dX3_mayLeave_18 (by decide) hc rfl ?_
        clear hc
        refine kV_iconst 22 dX3_mayLeave_21 ic_1 rfl ?_
        refine kV_goto 26 dX3_mayLeave_22 (by decide) ?_
        refine kV_drop [false, false] rfl ?_
        exact TX3_mayLeave_J26 hG h
abbrev mX3_itemFits : kM := (yX3_itemFits, cX3_itemFits, 4, (some .boolean))
theorem kmtX3_itemFits : kMt mX3_itemFits 4 := ⟨⟨(wi_r17 _ (List.mem_of_getElem? (i := 18) rfl)), (wi_r2 _ (List.mem_of_getElem? (i := 2) rfl)), ⟨by decide +kernel, by decide +kernel, by decide +kernel⟩, by decide⟩, (wi_r17 _ (List.mem_of_getElem? (i := 17) rfl))⟩
def FX3_itemFits_J53 (o1 : Nat) (S : kS) (s0 : Int32) : Option (Int32) :=
  kgd (kz s0) <| some s0
def FX3_itemFits_J38 (o1 : Nat) (S : kS) (s0 : Int32) : Option (Int32) :=
  kgd (kz s0) <| some s0
def FX3_itemFits (o1 : Nat) (S : kS) (a2 : Int32) (a3 : Int32) (a4 : Int32) : Option (Int32) :=
  if a2 = (0 : Int32) then (if a4 = a3 then (FX3_itemFits_J38 o1 S (1 : Int32)) else (FX3_itemFits_J38 o1 S (0 : Int32))) else (if a2 = (1 : Int32) then ((FX0_placeSaidBy o1 S a4).bind fun x1 => if x1 = a3 then (FX3_itemFits_J53 o1 S (1 : Int32)) else (FX3_itemFits_J53 o1 S (0 : Int32))) else (if a2 = (2 : Int32) then (some (1 : Int32)) else (some (0 : Int32))))
theorem TX3_itemFits_J53 {G : kG} {n : Nat} {d : Nat} {X : kX} (hG : kg_N G = 55 + 14 * n) {o1 : Nat} (ho_o1 : kfm n o1 = true) {S : kS} {s0 : Int32} {res : Int32} (h : FX3_itemFits_J53 o1 S s0 = some res) : kV (X, RX3, 4, (some .boolean), G, krm (d + 2), (0, 0), kQ X G (some (.int res)) (kgl G n S)) cX3_itemFits (kgl G n S) [none, none, none, none] [.int s0] 53 := by
  have hO_o1 := kOk_fm hG ho_o1
  have hc_o1 := kci_fm ho_o1
  unfold FX3_itemFits_J53 at h
  obtain ⟨hz, h⟩ := kgd_ex h
  cases h
  exact kV_zret dX3_itemFits_53 (of_decide_eq_true hz)
theorem TX3_itemFits_J38 {G : kG} {n : Nat} {d : Nat} {X : kX} (hG : kg_N G = 55 + 14 * n) {o1 : Nat} (ho_o1 : kfm n o1 = true) {S : kS} {s0 : Int32} {res : Int32} (h : FX3_itemFits_J38 o1 S s0 = some res) : kV (X, RX3, 4, (some .boolean), G, krm (d + 2), (0, 0), kQ X G (some (.int res)) (kgl G n S)) cX3_itemFits (kgl G n S) [none, none, none, none] [.int s0] 38 := by
  have hO_o1 := kOk_fm hG ho_o1
  have hc_o1 := kci_fm ho_o1
  unfold FX3_itemFits_J38 at h
  obtain ⟨hz, h⟩ := kgd_ex h
  cases h
  exact kV_zret dX3_itemFits_38 (of_decide_eq_true hz)
theorem okX3_itemFits {l : Launch} {G : kG} {n : Nat} (hG : kg_N G = 55 + 14 * n) (d : Nat) {o1 : Nat} (ho_o1 : kfm n o1 = true) {S : kS} {a2 : Int32} {a3 : Int32} {a4 : Int32} {res : Int32} (h : FX3_itemFits o1 S a2 a3 a4 = some res) : kEv l G (d + 2) mX3_itemFits [.ref (kg_ad G (kbo o1)), .int a2, .int a3, .int a4] (kgl G n S) (some (.int res)) (kgl G n S) := by
  refine kEv_of RX3 [some (.ref (kg_ad G (kbo o1))), some (.int a2), some (.int a3), some (.int a4)] rfl (by decide +kernel) rfl rfl rfl rfl (fun X hX => ?_)
  subst hX
  have hO_o1 := kOk_fm hG ho_o1
  have hc_o1 := kci_fm ho_o1
  unfold FX3_itemFits at h
  refine kV_iloadn 1 dX3_itemFits_0 rfl rfl ?_
  rcases kif_ex h with ⟨hc, h⟩ | ⟨hc0, h⟩
  · refine kV_tableIn (off := 27) 28 dX3_itemFits_1 (by rw [hc]; decide) (by rw [hc]; decide) (by rw [hc]; decide) (by decide) ?_
    clear hc
    refine kV_iloadn 29 dX3_itemFits_28 rfl rfl ?_
    refine kV_iloadn 30 dX3_itemFits_29 rfl rfl ?_
    rcases kif_ex h with ⟨hc, h⟩ | ⟨hc, h⟩
    · refine kV_icmp_ne_f 37 33 dX3_itemFits_30 (by decide) hc rfl ?_
      clear hc
      refine kV_iconst 34 dX3_itemFits_33 ic_1 rfl ?_
      refine kV_goto 38 dX3_itemFits_34 (by decide) ?_
      refine kV_drop [false, false, false, false] rfl ?_
      exact TX3_itemFits_J38 hG ho_o1 h
    · refine kV_icmp_ne_t 37 dX3_itemFits_30 (by decide) hc ?_
      clear hc
      refine kV_iconst 38 dX3_itemFits_37 ic_0 rfl ?_
      refine kV_drop [false, false, false, false] rfl ?_
      exact TX3_itemFits_J38 hG ho_o1 h
  · rcases kif_ex h with ⟨hc, h⟩ | ⟨hc1, h⟩
    · refine kV_tableIn (off := 38) 39 dX3_itemFits_1 (by rw [hc]; decide) (by rw [hc]; decide) (by rw [hc]; decide) (by decide) ?_
      clear hc
      refine kV_aloadn 40 dX3_itemFits_39 rfl rfl ?_
      refine kV_iloadn 41 dX3_itemFits_40 rfl rfl ?_
      obtain ⟨x1, hx, h⟩ := kbi_ex h
      refine kC_V 44 [] [.int x1] dX3_itemFits_41 (okX0_placeSaidBy hG d ho_o1 hx) kmvX0_placeSaidBy (wi_r17 _ (List.mem_of_getElem? (i := 19) rfl)) hO_o1 hc_o1 rfl rfl rfl rfl rfl ?_
      clear hx
      refine kV_iloadn 45 dX3_itemFits_44 rfl rfl ?_
      rcases kif_ex h with ⟨hc, h⟩ | ⟨hc, h⟩
      · refine kV_icmp_ne_f 52 48 dX3_itemFits_45 (by decide) hc rfl ?_
        clear hc
        refine kV_iconst 49 dX3_itemFits_48 ic_1 rfl ?_
        refine kV_goto 53 dX3_itemFits_49 (by decide) ?_
        refine kV_drop [false, false, false, false] rfl ?_
        exact TX3_itemFits_J53 hG ho_o1 h
      · refine kV_icmp_ne_t 52 dX3_itemFits_45 (by decide) hc ?_
        clear hc
        refine kV_iconst 53 dX3_itemFits_52 ic_0 rfl ?_
        refine kV_drop [false, false, false, false] rfl ?_
        exact TX3_itemFits_J53 hG ho_o1 h
    · rcases kif_ex h with ⟨hc, h⟩ | ⟨hc2, h⟩
      · refine kV_tableIn (off := 53) 54 dX3_itemFits_1 (by rw [hc]; decide) (by rw [hc]; decide) (by rw [hc]; decide) (by decide) ?_
        clear hc
        refine kV_iconst 55 dX3_itemFits_54 ic_1 rfl ?_
        cases h
        exact kV_zret dX3_itemFits_55 (by decide)
      · refine kV_tableOut 56 dX3_itemFits_1 (ktab_out 2 _ (fun j hj => match j, hj with | 0, _ => hc0 | 1, _ => hc1 | 2, _ => hc2 | j + 3, hj => absurd hj (by omega))) (by decide) ?_
        refine kV_iconst 57 dX3_itemFits_56 ic_0 rfl ?_
        cases h
        exact kV_zret dX3_itemFits_57 (by decide)
abbrev mX4_isRow : kM := (yX4_isRow, cX4_isRow, 2, (some .boolean))
theorem kmvX4_isRow : kMv mX4_isRow 1 4 := ⟨⟨(wi_r16 _ (List.mem_of_getElem? (i := 19) rfl)), (wi_r1 _ (List.mem_of_getElem? (i := 17) rfl)), ⟨by decide +kernel, by decide +kernel, by decide +kernel⟩, by decide⟩, (wi_r16 _ (List.mem_of_getElem? (i := 17) rfl)), (wi_r16 _ (List.mem_of_getElem? (i := 18) rfl)), rfl⟩
def FX4_isRow_J23 (S : kS) (s0 : Int32) : Option (Int32) :=
  kgd (kz s0) <| some s0
def FX4_isRow_J22 (S : kS) : Option (Int32) :=
  FX4_isRow_J23 S (0 : Int32)
def FX4_isRow (S : kS) (a1 : Int32) : Option (Int32) :=
  if a1 < 0 then (FX4_isRow_J22 S) else (kb (kI S 1 0) fun x1 => if x1 ≤ a1 then (FX4_isRow_J22 S) else (if (20 : Int32) ≤ a1 then (FX4_isRow_J22 S) else (FX4_isRow_J23 S (1 : Int32))))
theorem TX4_isRow_J23 {G : kG} {n : Nat} {d : Nat} {X : kX} (hG : kg_N G = 55 + 14 * n) {S : kS} {s0 : Int32} {res : Int32} (h : FX4_isRow_J23 S s0 = some res) : kV (X, RX4, 2, (some .boolean), G, krm (d + 0), (0, 0), kQ X G (some (.int res)) (kgl G n S)) cX4_isRow (kgl G n S) [none, none] [.int s0] 23 := by
  unfold FX4_isRow_J23 at h
  obtain ⟨hz, h⟩ := kgd_ex h
  cases h
  exact kV_zret dX4_isRow_23 (of_decide_eq_true hz)
theorem TX4_isRow_J22 {G : kG} {n : Nat} {d : Nat} {X : kX} (hG : kg_N G = 55 + 14 * n) {S : kS} {res : Int32} (h : FX4_isRow_J22 S = some res) : kV (X, RX4, 2, (some .boolean), G, krm (d + 0), (0, 0), kQ X G (some (.int res)) (kgl G n S)) cX4_isRow (kgl G n S) [none, none] [] 22 := by
  unfold FX4_isRow_J22 at h
  refine kV_iconst 23 dX4_isRow_22 ic_0 rfl ?_
  refine kV_drop [false, false] rfl ?_
  exact TX4_isRow_J23 hG h
theorem okX4_isRow {l : Launch} {G : kG} {n : Nat} (hG : kg_N G = 55 + 14 * n) (d : Nat) {S : kS} {a1 : Int32} {res : Int32} (h : FX4_isRow S a1 = some res) : kEv l G (d + 0) mX4_isRow [.ref (kg_ad G (kbo 1)), .int a1] (kgl G n S) (some (.int res)) (kgl G n S) := by
  refine kEv_of RX4 [some (.ref (kg_ad G (kbo 1))), some (.int a1)] rfl (by decide +kernel) rfl rfl rfl rfl (fun X hX => ?_)
  subst hX
  unfold FX4_isRow at h
  refine kV_iloadn 1 dX4_isRow_0 rfl rfl ?_
  rcases kif_ex h with ⟨hc, h⟩ | ⟨hc, h⟩
  · refine kV_if_lt_t 22 dX4_isRow_1 (by decide) hc ?_
    clear hc
    refine kV_drop [false, false] rfl ?_
    exact TX4_isRow_J22 hG h
  · refine kV_if_lt_f 22 4 dX4_isRow_1 (by decide) hc rfl ?_
    clear hc
    refine kV_iloadn 5 dX4_isRow_4 rfl rfl ?_
    refine kV_aloadn 6 dX4_isRow_5 rfl rfl ?_
    obtain ⟨x1, hx, h⟩ := kb_ex h
    refine rg4_9 9 dX4_isRow_6 (kOk_of hG rfl) rfl hx rfl ?_
    clear hx
    rcases kif_ex h with ⟨hc, h⟩ | ⟨hc, h⟩
    · refine kV_icmp_ge_t 22 dX4_isRow_9 (by decide) hc ?_
      clear hc
      refine kV_drop [false, false] rfl ?_
      exact TX4_isRow_J22 hG h
    · refine kV_icmp_ge_f 22 12 dX4_isRow_9 (by decide) hc rfl ?_
      clear hc
      refine kV_iloadn 13 dX4_isRow_12 rfl rfl ?_
      refine kV_bipush 15 dX4_isRow_13 bp_20 rfl ?_
      rcases kif_ex h with ⟨hc, h⟩ | ⟨hc, h⟩
      · refine kV_icmp_ge_t 22 dX4_isRow_15 (by decide) hc ?_
        clear hc
        refine kV_drop [false, false] rfl ?_
        exact TX4_isRow_J22 hG h
      · refine kV_icmp_ge_f 22 18 dX4_isRow_15 (by decide) hc rfl ?_
        clear hc
        refine kV_iconst 19 dX4_isRow_18 ic_1 rfl ?_
        refine kV_goto 23 dX4_isRow_19 (by decide) ?_
        refine kV_drop [false, false] rfl ?_
        exact TX4_isRow_J23 hG h
abbrev mX4_isItemOf : kM := (yX4_isItemOf, cX4_isItemOf, 3, (some .boolean))
theorem kmvX4_isItemOf : kMv mX4_isItemOf 2 4 := ⟨⟨(wi_r17 _ (List.mem_of_getElem? (i := 11) rfl)), (wi_r1 _ (List.mem_of_getElem? (i := 17) rfl)), ⟨by decide +kernel, by decide +kernel, by decide +kernel⟩, by decide⟩, (wi_r17 _ (List.mem_of_getElem? (i := 9) rfl)), (wi_r17 _ (List.mem_of_getElem? (i := 10) rfl)), rfl⟩
def FX4_isItemOf_J27 (S : kS) (s0 : Int32) : Option (Int32) :=
  kgd (kz s0) <| some s0
def FX4_isItemOf_J26 (S : kS) : Option (Int32) :=
  FX4_isItemOf_J27 S (0 : Int32)
def FX4_isItemOf (S : kS) (a1 : Int32) (a2 : Int32) : Option (Int32) :=
  (FX4_isRow S a1).bind fun x1 => if x1 = 0 then (FX4_isItemOf_J26 S) else (if a2 < 0 then (FX4_isItemOf_J26 S) else (kgd (kin a1 20) <| kb (kA S 1 5 a1) fun x2 => if x2 ≤ a2 then (FX4_isItemOf_J26 S) else (FX4_isItemOf_J27 S (1 : Int32))))
theorem TX4_isItemOf_J27 {G : kG} {n : Nat} {d : Nat} {X : kX} (hG : kg_N G = 55 + 14 * n) {S : kS} {s0 : Int32} {res : Int32} (h : FX4_isItemOf_J27 S s0 = some res) : kV (X, RX4, 3, (some .boolean), G, krm (d + 1), (0, 0), kQ X G (some (.int res)) (kgl G n S)) cX4_isItemOf (kgl G n S) [none, none, none] [.int s0] 27 := by
  unfold FX4_isItemOf_J27 at h
  obtain ⟨hz, h⟩ := kgd_ex h
  cases h
  exact kV_zret dX4_isItemOf_27 (of_decide_eq_true hz)
theorem TX4_isItemOf_J26 {G : kG} {n : Nat} {d : Nat} {X : kX} (hG : kg_N G = 55 + 14 * n) {S : kS} {res : Int32} (h : FX4_isItemOf_J26 S = some res) : kV (X, RX4, 3, (some .boolean), G, krm (d + 1), (0, 0), kQ X G (some (.int res)) (kgl G n S)) cX4_isItemOf (kgl G n S) [none, none, none] [] 26 := by
  unfold FX4_isItemOf_J26 at h
  refine kV_iconst 27 dX4_isItemOf_26 ic_0 rfl ?_
  refine kV_drop [false, false, false] rfl ?_
  exact TX4_isItemOf_J27 hG h
theorem okX4_isItemOf {l : Launch} {G : kG} {n : Nat} (hG : kg_N G = 55 + 14 * n) (d : Nat) {S : kS} {a1 : Int32} {a2 : Int32} {res : Int32} (h : FX4_isItemOf S a1 a2 = some res) : kEv l G (d + 1) mX4_isItemOf [.ref (kg_ad G (kbo 1)), .int a1, .int a2] (kgl G n S) (some (.int res)) (kgl G n S) := by
  refine kEv_of RX4 [some (.ref (kg_ad G (kbo 1))), some (.int a1), some (.int a2)] rfl (by decide +kernel) rfl rfl rfl rfl (fun X hX => ?_)
  subst hX
  unfold FX4_isItemOf at h
  refine kV_aloadn 1 dX4_isItemOf_0 rfl rfl ?_
  refine kV_iloadn 2 dX4_isItemOf_1 rfl rfl ?_
  obtain ⟨x1, hx, h⟩ := kbi_ex h
  refine kC_V 5 [] [.int x1] dX4_isItemOf_2 (okX4_isRow hG d  hx) kmvX4_isRow (wi_r16 _ (List.mem_of_getElem? (i := 16) rfl)) (kOk_of hG rfl) rfl rfl rfl rfl rfl rfl ?_
  clear hx
  rcases kif_ex h with ⟨hc, h⟩ | ⟨hc, h⟩
  · refine kV_if_eq_t 26 dX4_isItemOf_5 (by decide) hc ?_
    clear hc
    refine kV_drop [false, false, false] rfl ?_
    exact TX4_isItemOf_J26 hG h
  · refine kV_if_eq_f 26 8 dX4_isItemOf_5 (by decide) hc rfl ?_
    clear hc
    refine kV_iloadn 9 dX4_isItemOf_8 rfl rfl ?_
    rcases kif_ex h with ⟨hc, h⟩ | ⟨hc, h⟩
    · refine kV_if_lt_t 26 dX4_isItemOf_9 (by decide) hc ?_
      clear hc
      refine kV_drop [false, false, false] rfl ?_
      exact TX4_isItemOf_J26 hG h
    · refine kV_if_lt_f 26 12 dX4_isItemOf_9 (by decide) hc rfl ?_
      clear hc
      refine kV_iloadn 13 dX4_isItemOf_12 rfl rfl ?_
      refine kV_aloadn 14 dX4_isItemOf_13 rfl rfl ?_
      refine rg4_28 17 dX4_isItemOf_14 (kOk_of hG rfl) rfl rfl ?_
      refine kV_iloadn 18 dX4_isItemOf_17 rfl rfl ?_
      obtain ⟨hi, h⟩ := kgd_ex h
      obtain ⟨x2, hx, h⟩ := kb_ex h
      refine rl4_5 19 dX4_isItemOf_18 (kOk_of hG rfl) rfl hi hx rfl ?_
      clear hi hx
      rcases kif_ex h with ⟨hc, h⟩ | ⟨hc, h⟩
      · refine kV_icmp_ge_t 26 dX4_isItemOf_19 (by decide) hc ?_
        clear hc
        refine kV_drop [false, false, false] rfl ?_
        exact TX4_isItemOf_J26 hG h
      · refine kV_icmp_ge_f 26 22 dX4_isItemOf_19 (by decide) hc rfl ?_
        clear hc
        refine kV_iconst 23 dX4_isItemOf_22 ic_1 rfl ?_
        refine kV_goto 27 dX4_isItemOf_23 (by decide) ?_
        refine kV_drop [false, false, false] rfl ?_
        exact TX4_isItemOf_J27 hG h
abbrev mX4_keyOfItem : kM := (yX4_keyOfItem, cX4_keyOfItem, 3, (some .int))
theorem kmvX4_keyOfItem : kMv mX4_keyOfItem 2 4 := ⟨⟨(wi_r17 _ (List.mem_of_getElem? (i := 15) rfl)), (wi_r1 _ (List.mem_of_getElem? (i := 17) rfl)), ⟨by decide +kernel, by decide +kernel, by decide +kernel⟩, by decide⟩, (wi_r17 _ (List.mem_of_getElem? (i := 13) rfl)), (wi_r17 _ (List.mem_of_getElem? (i := 14) rfl)), rfl⟩
def FX4_keyOfItem_J23 (S : kS) (s0 : Int32) : Option (Int32) :=
  some s0
def FX4_keyOfItem (S : kS) (a1 : Int32) (a2 : Int32) : Option (Int32) :=
  (FX4_isItemOf S a1 a2).bind fun x1 => if x1 = 0 then (FX4_keyOfItem_J23 S (-1 : Int32)) else (kgd (kin ((a1 * (4 : Int32)) + a2) 84) <| kb (kA S 1 7 ((a1 * (4 : Int32)) + a2)) fun x2 => FX4_keyOfItem_J23 S x2)
theorem TX4_keyOfItem_J23 {G : kG} {n : Nat} {d : Nat} {X : kX} (hG : kg_N G = 55 + 14 * n) {S : kS} {s0 : Int32} {res : Int32} (h : FX4_keyOfItem_J23 S s0 = some res) : kV (X, RX4, 3, (some .int), G, krm (d + 2), (0, 0), kQ X G (some (.int res)) (kgl G n S)) cX4_keyOfItem (kgl G n S) [none, none, none] [.int s0] 23 := by
  unfold FX4_keyOfItem_J23 at h
  cases h
  exact kV_iret dX4_keyOfItem_23
theorem okX4_keyOfItem {l : Launch} {G : kG} {n : Nat} (hG : kg_N G = 55 + 14 * n) (d : Nat) {S : kS} {a1 : Int32} {a2 : Int32} {res : Int32} (h : FX4_keyOfItem S a1 a2 = some res) : kEv l G (d + 2) mX4_keyOfItem [.ref (kg_ad G (kbo 1)), .int a1, .int a2] (kgl G n S) (some (.int res)) (kgl G n S) := by
  refine kEv_of RX4 [some (.ref (kg_ad G (kbo 1))), some (.int a1), some (.int a2)] rfl (by decide +kernel) rfl rfl rfl rfl (fun X hX => ?_)
  subst hX
  unfold FX4_keyOfItem at h
  refine kV_aloadn 1 dX4_keyOfItem_0 rfl rfl ?_
  refine kV_iloadn 2 dX4_keyOfItem_1 rfl rfl ?_
  refine kV_iloadn 3 dX4_keyOfItem_2 rfl rfl ?_
  obtain ⟨x1, hx, h⟩ := kbi_ex h
  refine kC_V 6 [] [.int x1] dX4_keyOfItem_3 (okX4_isItemOf hG d  hx) kmvX4_isItemOf (wi_r17 _ (List.mem_of_getElem? (i := 8) rfl)) (kOk_of hG rfl) rfl rfl rfl rfl rfl rfl ?_
  clear hx
  rcases kif_ex h with ⟨hc, h⟩ | ⟨hc, h⟩
  · refine kV_if_eq_t 22 dX4_keyOfItem_6 (by decide) hc ?_
    clear hc
    refine kV_iconst 23 dX4_keyOfItem_22 ic_m1 rfl ?_
    refine kV_drop [false, false, false] rfl ?_
    exact TX4_keyOfItem_J23 hG h
  · refine kV_if_eq_f 22 9 dX4_keyOfItem_6 (by decide) hc rfl ?_
    clear hc
    refine kV_aloadn 10 dX4_keyOfItem_9 rfl rfl ?_
    refine rg4_34 13 dX4_keyOfItem_10 (kOk_of hG rfl) rfl rfl ?_
    refine kV_iloadn 14 dX4_keyOfItem_13 rfl rfl ?_
    refine kV_iconst 15 dX4_keyOfItem_14 ic_4 rfl ?_
    refine kV_imul 16 dX4_keyOfItem_15 rfl ?_
    refine kV_iloadn 17 dX4_keyOfItem_16 rfl rfl ?_
    refine kV_iadd 18 dX4_keyOfItem_17 rfl ?_
    obtain ⟨hi, h⟩ := kgd_ex h
    obtain ⟨x2, hx, h⟩ := kb_ex h
    refine rl4_7 19 dX4_keyOfItem_18 (kOk_of hG rfl) rfl hi hx rfl ?_
    clear hi hx
    refine kV_goto 23 dX4_keyOfItem_19 (by decide) ?_
    refine kV_drop [false, false, false] rfl ?_
    exact TX4_keyOfItem_J23 hG h
abbrev mX4_kindOfItem : kM := (yX4_kindOfItem, cX4_kindOfItem, 3, (some .int))
theorem kmvX4_kindOfItem : kMv mX4_kindOfItem 2 4 := ⟨⟨(wi_r17 _ (List.mem_of_getElem? (i := 7) rfl)), (wi_r1 _ (List.mem_of_getElem? (i := 17) rfl)), ⟨by decide +kernel, by decide +kernel, by decide +kernel⟩, by decide⟩, (wi_r17 _ (List.mem_of_getElem? (i := 5) rfl)), (wi_r17 _ (List.mem_of_getElem? (i := 6) rfl)), rfl⟩
def FX4_kindOfItem_J23 (S : kS) (s0 : Int32) : Option (Int32) :=
  some s0
def FX4_kindOfItem (S : kS) (a1 : Int32) (a2 : Int32) : Option (Int32) :=
  (FX4_isItemOf S a1 a2).bind fun x1 => if x1 = 0 then (FX4_kindOfItem_J23 S (-1 : Int32)) else (kgd (kin ((a1 * (4 : Int32)) + a2) 84) <| kb (kA S 1 6 ((a1 * (4 : Int32)) + a2)) fun x2 => FX4_kindOfItem_J23 S x2)
theorem TX4_kindOfItem_J23 {G : kG} {n : Nat} {d : Nat} {X : kX} (hG : kg_N G = 55 + 14 * n) {S : kS} {s0 : Int32} {res : Int32} (h : FX4_kindOfItem_J23 S s0 = some res) : kV (X, RX4, 3, (some .int), G, krm (d + 2), (0, 0), kQ X G (some (.int res)) (kgl G n S)) cX4_kindOfItem (kgl G n S) [none, none, none] [.int s0] 23 := by
  unfold FX4_kindOfItem_J23 at h
  cases h
  exact kV_iret dX4_kindOfItem_23
theorem okX4_kindOfItem {l : Launch} {G : kG} {n : Nat} (hG : kg_N G = 55 + 14 * n) (d : Nat) {S : kS} {a1 : Int32} {a2 : Int32} {res : Int32} (h : FX4_kindOfItem S a1 a2 = some res) : kEv l G (d + 2) mX4_kindOfItem [.ref (kg_ad G (kbo 1)), .int a1, .int a2] (kgl G n S) (some (.int res)) (kgl G n S) := by
  refine kEv_of RX4 [some (.ref (kg_ad G (kbo 1))), some (.int a1), some (.int a2)] rfl (by decide +kernel) rfl rfl rfl rfl (fun X hX => ?_)
  subst hX
  unfold FX4_kindOfItem at h
  refine kV_aloadn 1 dX4_kindOfItem_0 rfl rfl ?_
  refine kV_iloadn 2 dX4_kindOfItem_1 rfl rfl ?_
  refine kV_iloadn 3 dX4_kindOfItem_2 rfl rfl ?_
  obtain ⟨x1, hx, h⟩ := kbi_ex h
  refine kC_V 6 [] [.int x1] dX4_kindOfItem_3 (okX4_isItemOf hG d  hx) kmvX4_isItemOf (wi_r17 _ (List.mem_of_getElem? (i := 8) rfl)) (kOk_of hG rfl) rfl rfl rfl rfl rfl rfl ?_
  clear hx
  rcases kif_ex h with ⟨hc, h⟩ | ⟨hc, h⟩
  · refine kV_if_eq_t 22 dX4_kindOfItem_6 (by decide) hc ?_
    clear hc
    refine kV_iconst 23 dX4_kindOfItem_22 ic_m1 rfl ?_
    refine kV_drop [false, false, false] rfl ?_
    exact TX4_kindOfItem_J23 hG h
  · refine kV_if_eq_f 22 9 dX4_kindOfItem_6 (by decide) hc rfl ?_
    clear hc
    refine kV_aloadn 10 dX4_kindOfItem_9 rfl rfl ?_
    refine rg4_31 13 dX4_kindOfItem_10 (kOk_of hG rfl) rfl rfl ?_
    refine kV_iloadn 14 dX4_kindOfItem_13 rfl rfl ?_
    refine kV_iconst 15 dX4_kindOfItem_14 ic_4 rfl ?_
    refine kV_imul 16 dX4_kindOfItem_15 rfl ?_
    refine kV_iloadn 17 dX4_kindOfItem_16 rfl rfl ?_
    refine kV_iadd 18 dX4_kindOfItem_17 rfl ?_
    obtain ⟨hi, h⟩ := kgd_ex h
    obtain ⟨x2, hx, h⟩ := kb_ex h
    refine rl4_6 19 dX4_kindOfItem_18 (kOk_of hG rfl) rfl hi hx rfl ?_
    clear hi hx
    refine kV_goto 23 dX4_kindOfItem_19 (by decide) ?_
    refine kV_drop [false, false, false] rfl ?_
    exact TX4_kindOfItem_J23 hG h
abbrev mX4_lengthOf : kM := (yX4_lengthOf, cX4_lengthOf, 2, (some .int))
theorem kmvX4_lengthOf : kMv mX4_lengthOf 1 4 := ⟨⟨(wi_r17 _ (List.mem_of_getElem? (i := 3) rfl)), (wi_r1 _ (List.mem_of_getElem? (i := 17) rfl)), ⟨by decide +kernel, by decide +kernel, by decide +kernel⟩, by decide⟩, (wi_r17 _ (List.mem_of_getElem? (i := 1) rfl)), (wi_r17 _ (List.mem_of_getElem? (i := 2) rfl)), rfl⟩
def FX4_lengthOf_J18 (S : kS) (s0 : Int32) : Option (Int32) :=
  some s0
def FX4_lengthOf (S : kS) (a1 : Int32) : Option (Int32) :=
  (FX4_isRow S a1).bind fun x1 => if x1 = 0 then (FX4_lengthOf_J18 S (0 : Int32)) else (kgd (kin a1 20) <| kb (kA S 1 5 a1) fun x2 => FX4_lengthOf_J18 S x2)
theorem TX4_lengthOf_J18 {G : kG} {n : Nat} {d : Nat} {X : kX} (hG : kg_N G = 55 + 14 * n) {S : kS} {s0 : Int32} {res : Int32} (h : FX4_lengthOf_J18 S s0 = some res) : kV (X, RX4, 2, (some .int), G, krm (d + 1), (0, 0), kQ X G (some (.int res)) (kgl G n S)) cX4_lengthOf (kgl G n S) [none, none] [.int s0] 18 := by
  unfold FX4_lengthOf_J18 at h
  cases h
  exact kV_iret dX4_lengthOf_18
theorem okX4_lengthOf {l : Launch} {G : kG} {n : Nat} (hG : kg_N G = 55 + 14 * n) (d : Nat) {S : kS} {a1 : Int32} {res : Int32} (h : FX4_lengthOf S a1 = some res) : kEv l G (d + 1) mX4_lengthOf [.ref (kg_ad G (kbo 1)), .int a1] (kgl G n S) (some (.int res)) (kgl G n S) := by
  refine kEv_of RX4 [some (.ref (kg_ad G (kbo 1))), some (.int a1)] rfl (by decide +kernel) rfl rfl rfl rfl (fun X hX => ?_)
  subst hX
  unfold FX4_lengthOf at h
  refine kV_aloadn 1 dX4_lengthOf_0 rfl rfl ?_
  refine kV_iloadn 2 dX4_lengthOf_1 rfl rfl ?_
  obtain ⟨x1, hx, h⟩ := kbi_ex h
  refine kC_V 5 [] [.int x1] dX4_lengthOf_2 (okX4_isRow hG d  hx) kmvX4_isRow (wi_r16 _ (List.mem_of_getElem? (i := 16) rfl)) (kOk_of hG rfl) rfl rfl rfl rfl rfl rfl ?_
  clear hx
  rcases kif_ex h with ⟨hc, h⟩ | ⟨hc, h⟩
  · refine kV_if_eq_t 17 dX4_lengthOf_5 (by decide) hc ?_
    clear hc
    refine kV_iconst 18 dX4_lengthOf_17 ic_0 rfl ?_
    refine kV_drop [false, false] rfl ?_
    exact TX4_lengthOf_J18 hG h
  · refine kV_if_eq_f 17 8 dX4_lengthOf_5 (by decide) hc rfl ?_
    clear hc
    refine kV_aloadn 9 dX4_lengthOf_8 rfl rfl ?_
    refine rg4_28 12 dX4_lengthOf_9 (kOk_of hG rfl) rfl rfl ?_
    refine kV_iloadn 13 dX4_lengthOf_12 rfl rfl ?_
    obtain ⟨hi, h⟩ := kgd_ex h
    obtain ⟨x2, hx, h⟩ := kb_ex h
    refine rl4_5 14 dX4_lengthOf_13 (kOk_of hG rfl) rfl hi hx rfl ?_
    clear hi hx
    refine kV_goto 18 dX4_lengthOf_14 (by decide) ?_
    refine kV_drop [false, false] rfl ?_
    exact TX4_lengthOf_J18 hG h
abbrev mX3_fits : kM := (yX3_fits, cX3_fits, 7, (some .boolean))
theorem kmvX3_fits : kMv mX3_fits 4 3 := ⟨⟨(wi_r16 _ (List.mem_of_getElem? (i := 23) rfl)), (wi_r2 _ (List.mem_of_getElem? (i := 2) rfl)), ⟨by decide +kernel, by decide +kernel, by decide +kernel⟩, by decide⟩, (wi_r16 _ (List.mem_of_getElem? (i := 21) rfl)), (wi_r16 _ (List.mem_of_getElem? (i := 22) rfl)), rfl⟩
def FX3_fits_B29 (o1 : Nat) (c29 : Int32 × Int32 × Int32 × Int32 → Option (Int32)) (S : kS) (v3 : Int32) (v4 : Int32) (v5 : Int32) (v6 : Int32) : Option (Int32) :=
  if v5 ≤ v6 then (some (1 : Int32)) else ((FX4_kindOfItem S v3 v6).bind fun x1 => (FX4_keyOfItem S v3 v6).bind fun x2 => kgd (kin (v4 + v6) 8) <| kb (kA S 2 0 (v4 + v6)) fun x3 => (FX3_itemFits o1 S x1 x2 x3).bind fun x4 => if x4 = 0 then (some (0 : Int32)) else (c29 (v3, v4, v5, (v6 + (1 : Int32)))))
def FX3_fits_L29 (o1 : Nat) (S : kS) (v3 : Int32) (v4 : Int32) (v5 : Int32) (v6 : Int32) : Option (Int32) :=
  kfix (fun rec (q : Int32 × Int32 × Int32 × Int32) => FX3_fits_B29 o1 rec S q.1 q.2.1 q.2.2.1 q.2.2.2) kfuel (v3, v4, v5, v6)
def FX3_fits_J24 (o1 : Nat) (S : kS) : Option (Int32) :=
  some (0 : Int32)
def FX3_fits (o1 : Nat) (S : kS) (a3 : Int32) (a4 : Int32) : Option (Int32) :=
  (FX4_lengthOf S a3).bind fun x1 => if x1 ≤ 0 then (FX3_fits_J24 o1 S) else (kb (kI S 2 1) fun x2 => if (a4 + x1) ≤ x2 then (FX3_fits_L29 o1 S a3 a4 x1 (0 : Int32)) else (FX3_fits_J24 o1 S))
theorem TX3_fits_B29 {G : kG} {n : Nat} {d : Nat} {X : kX} (hG : kg_N G = 55 + 14 * n) {o1 : Nat} (ho_o1 : kfm n o1 = true) {S : kS} {c29 : Int32 × Int32 × Int32 × Int32 → Option (Int32)} (hc29 : ∀ (q : Int32 × Int32 × Int32 × Int32) (res : Int32), c29 q = some res → kV (X, RX3, 7, (some .boolean), G, krm (d + 3), (0, 0), kQ X G (some (.int res)) (kgl G n S)) cX3_fits (kgl G n S) [some (.ref (kg_ad G (kbo 2))), some (.ref (kg_ad G (kbo o1))), some (.ref (kg_ad G (kbo 1))), some (.int (q.1)), some (.int (q.2.1)), some (.int (q.2.2.1)), some (.int (q.2.2.2))] [] 29) {v3 : Int32} {v4 : Int32} {v5 : Int32} {v6 : Int32} {res : Int32} (h : FX3_fits_B29 o1 c29 S v3 v4 v5 v6 = some res) : kV (X, RX3, 7, (some .boolean), G, krm (d + 3), (0, 0), kQ X G (some (.int res)) (kgl G n S)) cX3_fits (kgl G n S) [some (.ref (kg_ad G (kbo 2))), some (.ref (kg_ad G (kbo o1))), some (.ref (kg_ad G (kbo 1))), some (.int v3), some (.int v4), some (.int v5), some (.int v6)] [] 29 := by
  have hO_o1 := kOk_fm hG ho_o1
  have hc_o1 := kci_fm ho_o1
  unfold FX3_fits_B29 at h
  refine kV_iload 31 dX3_fits_29 rfl rfl ?_
  refine kV_iload 33 dX3_fits_31 rfl rfl ?_
  rcases kif_ex h with ⟨hc, h⟩ | ⟨hc, h⟩
  · refine kV_icmp_ge_t 75 dX3_fits_33 (by decide) hc ?_
    clear hc
    refine kV_iconst 76 dX3_fits_75 ic_1 rfl ?_
    cases h
    exact kV_zret dX3_fits_76 (by decide)
  · refine kV_icmp_ge_f 75 36 dX3_fits_33 (by decide) hc rfl ?_
    clear hc
    refine kV_aloadn 37 dX3_fits_36 rfl rfl ?_
    refine kV_aloadn 38 dX3_fits_37 rfl rfl ?_
    refine kV_iloadn 39 dX3_fits_38 rfl rfl ?_
    refine kV_iload 41 dX3_fits_39 rfl rfl ?_
    obtain ⟨x1, hx, h⟩ := kbi_ex h
    refine kC_V 44 [.ref (kg_ad G (kbo o1))] [.int x1, .ref (kg_ad G (kbo o1))] dX3_fits_41 (okX4_kindOfItem hG d  hx) kmvX4_kindOfItem (wi_r17 _ (List.mem_of_getElem? (i := 4) rfl)) (kOk_of hG rfl) rfl rfl rfl rfl rfl rfl ?_
    clear hx
    refine kV_aloadn 45 dX3_fits_44 rfl rfl ?_
    refine kV_iloadn 46 dX3_fits_45 rfl rfl ?_
    refine kV_iload 48 dX3_fits_46 rfl rfl ?_
    obtain ⟨x2, hx, h⟩ := kbi_ex h
    refine kC_V 51 [.int x1, .ref (kg_ad G (kbo o1))] [.int x2, .int x1, .ref (kg_ad G (kbo o1))] dX3_fits_48 (okX4_keyOfItem hG d  hx) kmvX4_keyOfItem (wi_r17 _ (List.mem_of_getElem? (i := 12) rfl)) (kOk_of hG rfl) rfl rfl rfl rfl rfl rfl ?_
    clear hx
    refine kV_aloadn 52 dX3_fits_51 rfl rfl ?_
    refine rg3_11 55 dX3_fits_52 (kOk_of hG rfl) rfl rfl ?_
    refine kV_iload 57 dX3_fits_55 rfl rfl ?_
    refine kV_iload 59 dX3_fits_57 rfl rfl ?_
    refine kV_iadd 60 dX3_fits_59 rfl ?_
    obtain ⟨hi, h⟩ := kgd_ex h
    obtain ⟨x3, hx, h⟩ := kb_ex h
    refine rl3_0 61 dX3_fits_60 (kOk_of hG rfl) rfl hi hx rfl ?_
    clear hi hx
    obtain ⟨x4, hx, h⟩ := kbi_ex h
    refine kC_S 64 [] [.int x4] dX3_fits_61 (okX3_itemFits hG d ho_o1 hx) kmtX3_itemFits (wi_r17 _ (List.mem_of_getElem? (i := 16) rfl)) rfl rfl rfl rfl rfl ?_
    clear hx
    rcases kif_ex h with ⟨hc, h⟩ | ⟨hc, h⟩
    · refine kV_if_ne_f 69 67 dX3_fits_64 (by decide) hc rfl ?_
      clear hc
      refine kV_iconst 68 dX3_fits_67 ic_0 rfl ?_
      cases h
      exact kV_zret dX3_fits_68 (by decide)
    · refine kV_if_ne_t 69 dX3_fits_64 (by decide) hc ?_
      clear hc
      refine kV_iinc 72 [some (.ref (kg_ad G (kbo 2))), some (.ref (kg_ad G (kbo o1))), some (.ref (kg_ad G (kbo 1))), some (.int v3), some (.int v4), some (.int v5), some (.int (v6 + (1 : Int32)))] dX3_fits_69 rfl (kinc_1 _) rfl rfl rfl ?_
      refine kV_goto 29 dX3_fits_72 (by decide) ?_
      refine kV_drop [true, true, true, true, true, true, true] rfl ?_
      exact hc29 _ _ h
theorem TX3_fits_L29 {G : kG} {n : Nat} {d : Nat} {X : kX} (hG : kg_N G = 55 + 14 * n) {o1 : Nat} (ho_o1 : kfm n o1 = true) {S : kS} {v3 : Int32} {v4 : Int32} {v5 : Int32} {v6 : Int32} {res : Int32} (h : FX3_fits_L29 o1 S v3 v4 v5 v6 = some res) : kV (X, RX3, 7, (some .boolean), G, krm (d + 3), (0, 0), kQ X G (some (.int res)) (kgl G n S)) cX3_fits (kgl G n S) [some (.ref (kg_ad G (kbo 2))), some (.ref (kg_ad G (kbo o1))), some (.ref (kg_ad G (kbo 1))), some (.int v3), some (.int v4), some (.int v5), some (.int v6)] [] 29 := by
  unfold FX3_fits_L29 at h
  exact kfix_ok (P := fun (q : Int32 × Int32 × Int32 × Int32) (res : Int32) => kV (X, RX3, 7, (some .boolean), G, krm (d + 3), (0, 0), kQ X G (some (.int res)) (kgl G n S)) cX3_fits (kgl G n S) [some (.ref (kg_ad G (kbo 2))), some (.ref (kg_ad G (kbo o1))), some (.ref (kg_ad G (kbo 1))), some (.int (q.1)), some (.int (q.2.1)), some (.int (q.2.2.1)), some (.int (q.2.2.2))] [] 29) (fun rec hrec q res hq => TX3_fits_B29 hG ho_o1 hrec hq) kfuel _ _ h
theorem TX3_fits_J24 {G : kG} {n : Nat} {d : Nat} {X : kX} (hG : kg_N G = 55 + 14 * n) {o1 : Nat} (ho_o1 : kfm n o1 = true) {S : kS} {res : Int32} (h : FX3_fits_J24 o1 S = some res) : kV (X, RX3, 7, (some .boolean), G, krm (d + 3), (0, 0), kQ X G (some (.int res)) (kgl G n S)) cX3_fits (kgl G n S) [none, none, none, none, none, none, none] [] 24 := by
  have hO_o1 := kOk_fm hG ho_o1
  have hc_o1 := kci_fm ho_o1
  unfold FX3_fits_J24 at h
  refine kV_iconst 25 dX3_fits_24 ic_0 rfl ?_
  cases h
  exact kV_zret dX3_fits_25 (by decide)
theorem okX3_fits {l : Launch} {G : kG} {n : Nat} (hG : kg_N G = 55 + 14 * n) (d : Nat) {o1 : Nat} (ho_o1 : kfm n o1 = true) {S : kS} {a3 : Int32} {a4 : Int32} {res : Int32} (h : FX3_fits o1 S a3 a4 = some res) : kEv l G (d + 3) mX3_fits [.ref (kg_ad G (kbo 2)), .ref (kg_ad G (kbo o1)), .ref (kg_ad G (kbo 1)), .int a3, .int a4] (kgl G n S) (some (.int res)) (kgl G n S) := by
  refine kEv_of RX3 [some (.ref (kg_ad G (kbo 2))), some (.ref (kg_ad G (kbo o1))), some (.ref (kg_ad G (kbo 1))), some (.int a3), some (.int a4), none, none] rfl (by decide +kernel) rfl rfl rfl rfl (fun X hX => ?_)
  subst hX
  have hO_o1 := kOk_fm hG ho_o1
  have hc_o1 := kci_fm ho_o1
  unfold FX3_fits at h
  refine kV_aloadn 1 dX3_fits_0 rfl rfl ?_
  refine kV_iloadn 2 dX3_fits_1 rfl rfl ?_
  obtain ⟨x1, hx, h⟩ := kbi_ex h
  refine kC_V 5 [] [.int x1] dX3_fits_2 (okX4_lengthOf hG (d + 1)  hx) kmvX4_lengthOf (wi_r17 _ (List.mem_of_getElem? (i := 0) rfl)) (kOk_of hG rfl) rfl rfl rfl rfl rfl rfl ?_
  clear hx
  refine kV_istore 7 [some (.ref (kg_ad G (kbo 2))), some (.ref (kg_ad G (kbo o1))), some (.ref (kg_ad G (kbo 1))), some (.int a3), some (.int a4), some (.int x1), none] dX3_fits_5 rfl rfl rfl ?_
  refine kV_iload 9 dX3_fits_7 rfl rfl ?_
  rcases kif_ex h with ⟨hc, h⟩ | ⟨hc, h⟩
  · refine kV_if_le_t 24 dX3_fits_9 (by decide) hc ?_
    clear hc
    refine kV_drop [false, false, false, false, false, false, false] rfl ?_
    exact TX3_fits_J24 hG ho_o1 h
  · refine kV_if_le_f 24 12 dX3_fits_9 (by decide) hc rfl ?_
    clear hc
    refine kV_iload 14 dX3_fits_12 rfl rfl ?_
    refine kV_iload 16 dX3_fits_14 rfl rfl ?_
    refine kV_iadd 17 dX3_fits_16 rfl ?_
    refine kV_aloadn 18 dX3_fits_17 rfl rfl ?_
    obtain ⟨x2, hx, h⟩ := kb_ex h
    refine rg3_15 21 dX3_fits_18 (kOk_of hG rfl) rfl hx rfl ?_
    clear hx
    rcases kif_ex h with ⟨hc, h⟩ | ⟨hc, h⟩
    · refine kV_icmp_le_t 26 dX3_fits_21 (by decide) hc ?_
      clear hc
      refine kV_iconst 27 dX3_fits_26 ic_0 rfl ?_
      refine kV_istore 29 [some (.ref (kg_ad G (kbo 2))), some (.ref (kg_ad G (kbo o1))), some (.ref (kg_ad G (kbo 1))), some (.int a3), some (.int a4), some (.int x1), some (.int (0 : Int32))] dX3_fits_27 rfl rfl rfl ?_
      refine kV_drop [true, true, true, true, true, true, true] rfl ?_
      exact TX3_fits_L29 hG ho_o1 h
    · refine kV_icmp_le_f 26 24 dX3_fits_21 (by decide) hc rfl ?_
      clear hc
      refine kV_drop [false, false, false, false, false, false, false] rfl ?_
      exact TX3_fits_J24 hG ho_o1 h
abbrev mX4_actOf : kM := (yX4_actOf, cX4_actOf, 2, (some .int))
theorem kmvX4_actOf : kMv mX4_actOf 1 4 := ⟨⟨(wi_r19 _ (List.mem_of_getElem? (i := 3) rfl)), (wi_r1 _ (List.mem_of_getElem? (i := 17) rfl)), ⟨by decide +kernel, by decide +kernel, by decide +kernel⟩, by decide⟩, (wi_r19 _ (List.mem_of_getElem? (i := 1) rfl)), (wi_r19 _ (List.mem_of_getElem? (i := 2) rfl)), rfl⟩
def FX4_actOf_J18 (S : kS) (s0 : Int32) : Option (Int32) :=
  some s0
def FX4_actOf (S : kS) (a1 : Int32) : Option (Int32) :=
  (FX4_isRow S a1).bind fun x1 => if x1 = 0 then (FX4_actOf_J18 S (-1 : Int32)) else (kgd (kin a1 20) <| kb (kA S 1 4 a1) fun x2 => FX4_actOf_J18 S x2)
theorem TX4_actOf_J18 {G : kG} {n : Nat} {d : Nat} {X : kX} (hG : kg_N G = 55 + 14 * n) {S : kS} {s0 : Int32} {res : Int32} (h : FX4_actOf_J18 S s0 = some res) : kV (X, RX4, 2, (some .int), G, krm (d + 1), (0, 0), kQ X G (some (.int res)) (kgl G n S)) cX4_actOf (kgl G n S) [none, none] [.int s0] 18 := by
  unfold FX4_actOf_J18 at h
  cases h
  exact kV_iret dX4_actOf_18
theorem okX4_actOf {l : Launch} {G : kG} {n : Nat} (hG : kg_N G = 55 + 14 * n) (d : Nat) {S : kS} {a1 : Int32} {res : Int32} (h : FX4_actOf S a1 = some res) : kEv l G (d + 1) mX4_actOf [.ref (kg_ad G (kbo 1)), .int a1] (kgl G n S) (some (.int res)) (kgl G n S) := by
  refine kEv_of RX4 [some (.ref (kg_ad G (kbo 1))), some (.int a1)] rfl (by decide +kernel) rfl rfl rfl rfl (fun X hX => ?_)
  subst hX
  unfold FX4_actOf at h
  refine kV_aloadn 1 dX4_actOf_0 rfl rfl ?_
  refine kV_iloadn 2 dX4_actOf_1 rfl rfl ?_
  obtain ⟨x1, hx, h⟩ := kbi_ex h
  refine kC_V 5 [] [.int x1] dX4_actOf_2 (okX4_isRow hG d  hx) kmvX4_isRow (wi_r16 _ (List.mem_of_getElem? (i := 16) rfl)) (kOk_of hG rfl) rfl rfl rfl rfl rfl rfl ?_
  clear hx
  rcases kif_ex h with ⟨hc, h⟩ | ⟨hc, h⟩
  · refine kV_if_eq_t 17 dX4_actOf_5 (by decide) hc ?_
    clear hc
    refine kV_iconst 18 dX4_actOf_17 ic_m1 rfl ?_
    refine kV_drop [false, false] rfl ?_
    exact TX4_actOf_J18 hG h
  · refine kV_if_eq_f 17 8 dX4_actOf_5 (by decide) hc rfl ?_
    clear hc
    refine kV_aloadn 9 dX4_actOf_8 rfl rfl ?_
    refine rg4_25 12 dX4_actOf_9 (kOk_of hG rfl) rfl rfl ?_
    refine kV_iloadn 13 dX4_actOf_12 rfl rfl ?_
    obtain ⟨hi, h⟩ := kgd_ex h
    obtain ⟨x2, hx, h⟩ := kb_ex h
    refine rl4_4 14 dX4_actOf_13 (kOk_of hG rfl) rfl hi hx rfl ?_
    clear hi hx
    refine kV_goto 18 dX4_actOf_14 (by decide) ?_
    refine kV_drop [false, false] rfl ?_
    exact TX4_actOf_J18 hG h
abbrev mX4_costOf : kM := (yX4_costOf, cX4_costOf, 2, (some .int))
theorem kmvX4_costOf : kMv mX4_costOf 1 4 := ⟨⟨(wi_r18 _ (List.mem_of_getElem? (i := 7) rfl)), (wi_r1 _ (List.mem_of_getElem? (i := 17) rfl)), ⟨by decide +kernel, by decide +kernel, by decide +kernel⟩, by decide⟩, (wi_r18 _ (List.mem_of_getElem? (i := 5) rfl)), (wi_r18 _ (List.mem_of_getElem? (i := 6) rfl)), rfl⟩
def FX4_costOf_J18 (S : kS) (s0 : Int32) : Option (Int32) :=
  some s0
def FX4_costOf (S : kS) (a1 : Int32) : Option (Int32) :=
  (FX4_isRow S a1).bind fun x1 => if x1 = 0 then (FX4_costOf_J18 S (0 : Int32)) else (kgd (kin a1 20) <| kb (kA S 1 3 a1) fun x2 => FX4_costOf_J18 S x2)
theorem TX4_costOf_J18 {G : kG} {n : Nat} {d : Nat} {X : kX} (hG : kg_N G = 55 + 14 * n) {S : kS} {s0 : Int32} {res : Int32} (h : FX4_costOf_J18 S s0 = some res) : kV (X, RX4, 2, (some .int), G, krm (d + 1), (0, 0), kQ X G (some (.int res)) (kgl G n S)) cX4_costOf (kgl G n S) [none, none] [.int s0] 18 := by
  unfold FX4_costOf_J18 at h
  cases h
  exact kV_iret dX4_costOf_18
theorem okX4_costOf {l : Launch} {G : kG} {n : Nat} (hG : kg_N G = 55 + 14 * n) (d : Nat) {S : kS} {a1 : Int32} {res : Int32} (h : FX4_costOf S a1 = some res) : kEv l G (d + 1) mX4_costOf [.ref (kg_ad G (kbo 1)), .int a1] (kgl G n S) (some (.int res)) (kgl G n S) := by
  refine kEv_of RX4 [some (.ref (kg_ad G (kbo 1))), some (.int a1)] rfl (by decide +kernel) rfl rfl rfl rfl (fun X hX => ?_)
  subst hX
  unfold FX4_costOf at h
  refine kV_aloadn 1 dX4_costOf_0 rfl rfl ?_
  refine kV_iloadn 2 dX4_costOf_1 rfl rfl ?_
  obtain ⟨x1, hx, h⟩ := kbi_ex h
  refine kC_V 5 [] [.int x1] dX4_costOf_2 (okX4_isRow hG d  hx) kmvX4_isRow (wi_r16 _ (List.mem_of_getElem? (i := 16) rfl)) (kOk_of hG rfl) rfl rfl rfl rfl rfl rfl ?_
  clear hx
  rcases kif_ex h with ⟨hc, h⟩ | ⟨hc, h⟩
  · refine kV_if_eq_t 17 dX4_costOf_5 (by decide) hc ?_
    clear hc
    refine kV_iconst 18 dX4_costOf_17 ic_0 rfl ?_
    refine kV_drop [false, false] rfl ?_
    exact TX4_costOf_J18 hG h
  · refine kV_if_eq_f 17 8 dX4_costOf_5 (by decide) hc rfl ?_
    clear hc
    refine kV_aloadn 9 dX4_costOf_8 rfl rfl ?_
    refine rg4_22 12 dX4_costOf_9 (kOk_of hG rfl) rfl rfl ?_
    refine kV_iloadn 13 dX4_costOf_12 rfl rfl ?_
    obtain ⟨hi, h⟩ := kgd_ex h
    obtain ⟨x2, hx, h⟩ := kb_ex h
    refine rl4_3 14 dX4_costOf_13 (kOk_of hG rfl) rfl hi hx rfl ?_
    clear hi hx
    refine kV_goto 18 dX4_costOf_14 (by decide) ?_
    refine kV_drop [false, false] rfl ?_
    exact TX4_costOf_J18 hG h
abbrev mX4_isOfForm : kM := (yX4_isOfForm, cX4_isOfForm, 3, (some .boolean))
theorem kmvX4_isOfForm : kMv mX4_isOfForm 2 4 := ⟨⟨(wi_r16 _ (List.mem_of_getElem? (i := 15) rfl)), (wi_r1 _ (List.mem_of_getElem? (i := 17) rfl)), ⟨by decide +kernel, by decide +kernel, by decide +kernel⟩, by decide⟩, (wi_r16 _ (List.mem_of_getElem? (i := 13) rfl)), (wi_r16 _ (List.mem_of_getElem? (i := 14) rfl)), rfl⟩
def FX4_isOfForm_J23 (S : kS) (s0 : Int32) : Option (Int32) :=
  kgd (kz s0) <| some s0
def FX4_isOfForm_J22 (S : kS) : Option (Int32) :=
  FX4_isOfForm_J23 S (0 : Int32)
def FX4_isOfForm (S : kS) (a1 : Int32) (a2 : Int32) : Option (Int32) :=
  (FX4_isRow S a1).bind fun x1 => if x1 = 0 then (FX4_isOfForm_J22 S) else (kgd (kin a1 20) <| kb (kA S 1 2 a1) fun x2 => if x2 = a2 then (FX4_isOfForm_J23 S (1 : Int32)) else (FX4_isOfForm_J22 S))
theorem TX4_isOfForm_J23 {G : kG} {n : Nat} {d : Nat} {X : kX} (hG : kg_N G = 55 + 14 * n) {S : kS} {s0 : Int32} {res : Int32} (h : FX4_isOfForm_J23 S s0 = some res) : kV (X, RX4, 3, (some .boolean), G, krm (d + 1), (0, 0), kQ X G (some (.int res)) (kgl G n S)) cX4_isOfForm (kgl G n S) [none, none, none] [.int s0] 23 := by
  unfold FX4_isOfForm_J23 at h
  obtain ⟨hz, h⟩ := kgd_ex h
  cases h
  exact kV_zret dX4_isOfForm_23 (of_decide_eq_true hz)
theorem TX4_isOfForm_J22 {G : kG} {n : Nat} {d : Nat} {X : kX} (hG : kg_N G = 55 + 14 * n) {S : kS} {res : Int32} (h : FX4_isOfForm_J22 S = some res) : kV (X, RX4, 3, (some .boolean), G, krm (d + 1), (0, 0), kQ X G (some (.int res)) (kgl G n S)) cX4_isOfForm (kgl G n S) [none, none, none] [] 22 := by
  unfold FX4_isOfForm_J22 at h
  refine kV_iconst 23 dX4_isOfForm_22 ic_0 rfl ?_
  refine kV_drop [false, false, false] rfl ?_
  exact TX4_isOfForm_J23 hG h
theorem okX4_isOfForm {l : Launch} {G : kG} {n : Nat} (hG : kg_N G = 55 + 14 * n) (d : Nat) {S : kS} {a1 : Int32} {a2 : Int32} {res : Int32} (h : FX4_isOfForm S a1 a2 = some res) : kEv l G (d + 1) mX4_isOfForm [.ref (kg_ad G (kbo 1)), .int a1, .int a2] (kgl G n S) (some (.int res)) (kgl G n S) := by
  refine kEv_of RX4 [some (.ref (kg_ad G (kbo 1))), some (.int a1), some (.int a2)] rfl (by decide +kernel) rfl rfl rfl rfl (fun X hX => ?_)
  subst hX
  unfold FX4_isOfForm at h
  refine kV_aloadn 1 dX4_isOfForm_0 rfl rfl ?_
  refine kV_iloadn 2 dX4_isOfForm_1 rfl rfl ?_
  obtain ⟨x1, hx, h⟩ := kbi_ex h
  refine kC_V 5 [] [.int x1] dX4_isOfForm_2 (okX4_isRow hG d  hx) kmvX4_isRow (wi_r16 _ (List.mem_of_getElem? (i := 16) rfl)) (kOk_of hG rfl) rfl rfl rfl rfl rfl rfl ?_
  clear hx
  rcases kif_ex h with ⟨hc, h⟩ | ⟨hc, h⟩
  · refine kV_if_eq_t 22 dX4_isOfForm_5 (by decide) hc ?_
    clear hc
    refine kV_drop [false, false, false] rfl ?_
    exact TX4_isOfForm_J22 hG h
  · refine kV_if_eq_f 22 8 dX4_isOfForm_5 (by decide) hc rfl ?_
    clear hc
    refine kV_aloadn 9 dX4_isOfForm_8 rfl rfl ?_
    refine rg4_18 12 dX4_isOfForm_9 (kOk_of hG rfl) rfl rfl ?_
    refine kV_iloadn 13 dX4_isOfForm_12 rfl rfl ?_
    obtain ⟨hi, h⟩ := kgd_ex h
    obtain ⟨x2, hx, h⟩ := kb_ex h
    refine rl4_2 14 dX4_isOfForm_13 (kOk_of hG rfl) rfl hi hx rfl ?_
    clear hi hx
    refine kV_iloadn 15 dX4_isOfForm_14 rfl rfl ?_
    rcases kif_ex h with ⟨hc, h⟩ | ⟨hc, h⟩
    · refine kV_icmp_ne_f 22 18 dX4_isOfForm_15 (by decide) hc rfl ?_
      clear hc
      refine kV_iconst 19 dX4_isOfForm_18 ic_1 rfl ?_
      refine kV_goto 23 dX4_isOfForm_19 (by decide) ?_
      refine kV_drop [false, false, false] rfl ?_
      exact TX4_isOfForm_J23 hG h
    · refine kV_icmp_ne_t 22 dX4_isOfForm_15 (by decide) hc ?_
      clear hc
      refine kV_drop [false, false, false] rfl ?_
      exact TX4_isOfForm_J22 hG h
abbrev mX4_rowCount : kM := (yX4_rowCount, cX4_rowCount, 1, (some .int))
theorem kmvX4_rowCount : kMv mX4_rowCount 0 4 := ⟨⟨(wi_r16 _ (List.mem_of_getElem? (i := 11) rfl)), (wi_r1 _ (List.mem_of_getElem? (i := 17) rfl)), ⟨by decide +kernel, by decide +kernel, by decide +kernel⟩, by decide⟩, (wi_r16 _ (List.mem_of_getElem? (i := 9) rfl)), (wi_r16 _ (List.mem_of_getElem? (i := 10) rfl)), rfl⟩
def FX4_rowCount (S : kS) : Option (Int32) :=
  kb (kI S 1 0) fun x1 => some x1
theorem okX4_rowCount {l : Launch} {G : kG} {n : Nat} (hG : kg_N G = 55 + 14 * n) (d : Nat) {S : kS} {res : Int32} (h : FX4_rowCount S = some res) : kEv l G (d + 0) mX4_rowCount [.ref (kg_ad G (kbo 1))] (kgl G n S) (some (.int res)) (kgl G n S) := by
  refine kEv_of RX4 [some (.ref (kg_ad G (kbo 1)))] rfl (by decide +kernel) rfl rfl rfl rfl (fun X hX => ?_)
  subst hX
  unfold FX4_rowCount at h
  refine kV_aloadn 1 dX4_rowCount_0 rfl rfl ?_
  obtain ⟨x1, hx, h⟩ := kb_ex h
  refine rg4_9 4 dX4_rowCount_1 (kOk_of hG rfl) rfl hx rfl ?_
  clear hx
  cases h
  exact kV_iret dX4_rowCount_4
abbrev mX3_commonAnswer : kM := (yX3_commonAnswer, cX3_commonAnswer, 7, (some .int))
theorem kmvX3_commonAnswer : kMv mX3_commonAnswer 3 3 := ⟨⟨(wi_r18 _ (List.mem_of_getElem? (i := 23) rfl)), (wi_r2 _ (List.mem_of_getElem? (i := 2) rfl)), ⟨by decide +kernel, by decide +kernel, by decide +kernel⟩, by decide⟩, (wi_r18 _ (List.mem_of_getElem? (i := 21) rfl)), (wi_r18 _ (List.mem_of_getElem? (i := 22) rfl)), rfl⟩
def FX3_commonAnswer_J133 (o1 : Nat) (S : kS) : Option (Int32) :=
  some (-1 : Int32)
def FX3_commonAnswer_J143 (o1 : Nat) (c33 : Int32 × Int32 × Int32 → Option (Int32)) (S : kS) (v2 : Int32) (v4 : Int32) (v5 : Int32) : Option (Int32) :=
  c33 (v2, v4, (v5 + (1 : Int32)))
def FX3_commonAnswer_J113 (o1 : Nat) (c33 : Int32 × Int32 × Int32 → Option (Int32)) (S : kS) (v2 : Int32) (v5 : Int32) (s0 : Int32) : Option (Int32) :=
  if s0 = 0 then ((FX4_lengthOf S v5).bind fun x1 => kb (kI S 2 1) fun x2 => if x1 = x2 then ((FX4_actOf S v5).bind fun x3 => FX3_commonAnswer_J143 o1 c33 S v2 x3 v5) else (FX3_commonAnswer_J133 o1 S)) else (FX3_commonAnswer_J133 o1 S)
def FX3_commonAnswer_J112 (o1 : Nat) (c33 : Int32 × Int32 × Int32 → Option (Int32)) (S : kS) (v2 : Int32) (v5 : Int32) : Option (Int32) :=
  FX3_commonAnswer_J113 o1 c33 S v2 v5 (0 : Int32)
def FX3_commonAnswer_B33 (o1 : Nat) (c33 : Int32 × Int32 × Int32 → Option (Int32)) (S : kS) (v2 : Int32) (v4 : Int32) (v5 : Int32) : Option (Int32) :=
  (FX4_rowCount S).bind fun x1 => if x1 ≤ v5 then (some v4) else ((FX4_isOfForm S v5 v2).bind fun x2 => if x2 = 0 then (FX3_commonAnswer_J143 o1 c33 S v2 v4 v5) else ((FX3_fits o1 S v5 (0 : Int32)).bind fun x3 => if x3 = 0 then (FX3_commonAnswer_J143 o1 c33 S v2 v4 v5) else ((FX4_costOf S v5).bind fun x4 => (FX4_lengthOf S v5).bind fun x5 => kgd (kin x5 9) <| kb (kA S 2 2 x5) fun x6 => kgd (kin (0 : Int32) 9) <| kb (kA S 2 2 (0 : Int32)) fun x7 => if (x4 + x6) = x7 then (if v4 = (-1 : Int32) then (FX3_commonAnswer_J112 o1 c33 S v2 v5) else ((FX4_actOf S v5).bind fun x8 => if v4 = x8 then (FX3_commonAnswer_J112 o1 c33 S v2 v5) else (FX3_commonAnswer_J113 o1 c33 S v2 v5 (1 : Int32)))) else (FX3_commonAnswer_J143 o1 c33 S v2 v4 v5))))
def FX3_commonAnswer_L33 (o1 : Nat) (S : kS) (v2 : Int32) (v4 : Int32) (v5 : Int32) : Option (Int32) :=
  kfix (fun rec (q : Int32 × Int32 × Int32) => FX3_commonAnswer_B33 o1 rec S q.1 q.2.1 q.2.2) kfuel (v2, v4, v5)
def FX3_commonAnswer_J25 (o1 : Nat) (S : kS) : Option (Int32) :=
  some (-1 : Int32)
def FX3_commonAnswer (o1 : Nat) (S : kS) (a2 : Int32) : Option (Int32) :=
  kb (kI S 2 1) fun x1 => if x1 ≤ 0 then (FX3_commonAnswer_J25 o1 S) else (kgd (kin (0 : Int32) 9) <| kb (kA S 2 2 (0 : Int32)) fun x2 => kgd (kin (1 : Int32) 9) <| kb (kA S 2 2 (1 : Int32)) fun x3 => if x2 = ((6 : Int32) + x3) then (FX3_commonAnswer_J25 o1 S) else (FX3_commonAnswer_L33 o1 S a2 (-1 : Int32) (0 : Int32)))
theorem TX3_commonAnswer_J133 {G : kG} {n : Nat} {d : Nat} {X : kX} (hG : kg_N G = 55 + 14 * n) {o1 : Nat} (ho_o1 : kfm n o1 = true) {S : kS} {res : Int32} (h : FX3_commonAnswer_J133 o1 S = some res) : kV (X, RX3, 7, (some .int), G, krm (d + 4), (0, 0), kQ X G (some (.int res)) (kgl G n S)) cX3_commonAnswer (kgl G n S) [none, none, none, none, none, none, none] [] 133 := by
  have hO_o1 := kOk_fm hG ho_o1
  have hc_o1 := kci_fm ho_o1
  unfold FX3_commonAnswer_J133 at h
  refine kV_iconst 134 dX3_commonAnswer_133 ic_m1 rfl ?_
  cases h
  exact kV_iret dX3_commonAnswer_134
theorem TX3_commonAnswer_J143 {G : kG} {n : Nat} {d : Nat} {X : kX} (hG : kg_N G = 55 + 14 * n) {o1 : Nat} (ho_o1 : kfm n o1 = true) {c33 : Int32 × Int32 × Int32 → Option (Int32)} {S : kS} (hc33 : ∀ (q : Int32 × Int32 × Int32) (res : Int32), c33 q = some res → kV (X, RX3, 7, (some .int), G, krm (d + 4), (0, 0), kQ X G (some (.int res)) (kgl G n S)) cX3_commonAnswer (kgl G n S) [some (.ref (kg_ad G (kbo 2))), some (.ref (kg_ad G (kbo o1))), some (.int (q.1)), some (.ref (kg_ad G (kbo 1))), some (.int (q.2.1)), some (.int (q.2.2)), none] [] 33) {v2 : Int32} {v4 : Int32} {v5 : Int32} {res : Int32} (h : FX3_commonAnswer_J143 o1 c33 S v2 v4 v5 = some res) : kV (X, RX3, 7, (some .int), G, krm (d + 4), (0, 0), kQ X G (some (.int res)) (kgl G n S)) cX3_commonAnswer (kgl G n S) [some (.ref (kg_ad G (kbo 2))), some (.ref (kg_ad G (kbo o1))), some (.int v2), some (.ref (kg_ad G (kbo 1))), some (.int v4), some (.int v5), none] [] 143 := by
  have hO_o1 := kOk_fm hG ho_o1
  have hc_o1 := kci_fm ho_o1
  unfold FX3_commonAnswer_J143 at h
  refine kV_iinc 146 [some (.ref (kg_ad G (kbo 2))), some (.ref (kg_ad G (kbo o1))), some (.int v2), some (.ref (kg_ad G (kbo 1))), some (.int v4), some (.int (v5 + (1 : Int32))), none] dX3_commonAnswer_143 rfl (kinc_1 _) rfl rfl rfl ?_
  refine kV_goto 33 dX3_commonAnswer_146 (by decide) ?_
  refine kV_drop [true, true, true, true, true, true, false] rfl ?_
  exact hc33 _ _ h
theorem TX3_commonAnswer_J113 {G : kG} {n : Nat} {d : Nat} {X : kX} (hG : kg_N G = 55 + 14 * n) {o1 : Nat} (ho_o1 : kfm n o1 = true) {c33 : Int32 × Int32 × Int32 → Option (Int32)} {S : kS} (hc33 : ∀ (q : Int32 × Int32 × Int32) (res : Int32), c33 q = some res → kV (X, RX3, 7, (some .int), G, krm (d + 4), (0, 0), kQ X G (some (.int res)) (kgl G n S)) cX3_commonAnswer (kgl G n S) [some (.ref (kg_ad G (kbo 2))), some (.ref (kg_ad G (kbo o1))), some (.int (q.1)), some (.ref (kg_ad G (kbo 1))), some (.int (q.2.1)), some (.int (q.2.2)), none] [] 33) {v2 : Int32} {v5 : Int32} {s0 : Int32} {res : Int32} (h : FX3_commonAnswer_J113 o1 c33 S v2 v5 s0 = some res) : kV (X, RX3, 7, (some .int), G, krm (d + 4), (0, 0), kQ X G (some (.int res)) (kgl G n S)) cX3_commonAnswer (kgl G n S) [some (.ref (kg_ad G (kbo 2))), some (.ref (kg_ad G (kbo o1))), some (.int v2), some (.ref (kg_ad G (kbo 1))), none, some (.int v5), none] [.int s0] 113 := by
  have hO_o1 := kOk_fm hG ho_o1
  have hc_o1 := kci_fm ho_o1
  unfold FX3_commonAnswer_J113 at h
  refine kV_istore 115 [some (.ref (kg_ad G (kbo 2))), some (.ref (kg_ad G (kbo o1))), some (.int v2), some (.ref (kg_ad G (kbo 1))), none, some (.int v5), some (.int s0)] dX3_commonAnswer_113 rfl rfl rfl ?_
  refine kV_iload 117 dX3_commonAnswer_115 rfl rfl ?_
  rcases kif_ex h with ⟨hc, h⟩ | ⟨hc, h⟩
  · refine kV_if_ne_f 133 120 dX3_commonAnswer_117 (by decide) hc rfl ?_
    clear hc
    refine kV_aloadn 121 dX3_commonAnswer_120 rfl rfl ?_
    refine kV_iload 123 dX3_commonAnswer_121 rfl rfl ?_
    obtain ⟨x1, hx, h⟩ := kbi_ex h
    refine kC_V 126 [] [.int x1] dX3_commonAnswer_123 (okX4_lengthOf hG (d + 2)  hx) kmvX4_lengthOf (wi_r17 _ (List.mem_of_getElem? (i := 0) rfl)) (kOk_of hG rfl) rfl rfl rfl rfl rfl rfl ?_
    clear hx
    refine kV_aloadn 127 dX3_commonAnswer_126 rfl rfl ?_
    obtain ⟨x2, hx, h⟩ := kb_ex h
    refine rg3_15 130 dX3_commonAnswer_127 (kOk_of hG rfl) rfl hx rfl ?_
    clear hx
    rcases kif_ex h with ⟨hc, h⟩ | ⟨hc, h⟩
    · refine kV_icmp_eq_t 135 dX3_commonAnswer_130 (by decide) hc ?_
      clear hc
      refine kV_aloadn 136 dX3_commonAnswer_135 rfl rfl ?_
      refine kV_iload 138 dX3_commonAnswer_136 rfl rfl ?_
      obtain ⟨x3, hx, h⟩ := kbi_ex h
      refine kC_V 141 [] [.int x3] dX3_commonAnswer_138 (okX4_actOf hG (d + 2)  hx) kmvX4_actOf (wi_r19 _ (List.mem_of_getElem? (i := 0) rfl)) (kOk_of hG rfl) rfl rfl rfl rfl rfl rfl ?_
      clear hx
      refine kV_istore 143 [some (.ref (kg_ad G (kbo 2))), some (.ref (kg_ad G (kbo o1))), some (.int v2), some (.ref (kg_ad G (kbo 1))), some (.int x3), some (.int v5), some (.int s0)] dX3_commonAnswer_141 rfl rfl rfl ?_
      refine kV_drop [true, true, true, true, true, true, false] rfl ?_
      exact TX3_commonAnswer_J143 hG ho_o1 hc33 h
    · refine kV_icmp_eq_f 135 133 dX3_commonAnswer_130 (by decide) hc rfl ?_
      clear hc
      refine kV_drop [false, false, false, false, false, false, false] rfl ?_
      exact TX3_commonAnswer_J133 hG ho_o1 h
  · refine kV_if_ne_t 133 dX3_commonAnswer_117 (by decide) hc ?_
    clear hc
    refine kV_drop [false, false, false, false, false, false, false] rfl ?_
    exact TX3_commonAnswer_J133 hG ho_o1 h
theorem TX3_commonAnswer_J112 {G : kG} {n : Nat} {d : Nat} {X : kX} (hG : kg_N G = 55 + 14 * n) {o1 : Nat} (ho_o1 : kfm n o1 = true) {c33 : Int32 × Int32 × Int32 → Option (Int32)} {S : kS} (hc33 : ∀ (q : Int32 × Int32 × Int32) (res : Int32), c33 q = some res → kV (X, RX3, 7, (some .int), G, krm (d + 4), (0, 0), kQ X G (some (.int res)) (kgl G n S)) cX3_commonAnswer (kgl G n S) [some (.ref (kg_ad G (kbo 2))), some (.ref (kg_ad G (kbo o1))), some (.int (q.1)), some (.ref (kg_ad G (kbo 1))), some (.int (q.2.1)), some (.int (q.2.2)), none] [] 33) {v2 : Int32} {v5 : Int32} {res : Int32} (h : FX3_commonAnswer_J112 o1 c33 S v2 v5 = some res) : kV (X, RX3, 7, (some .int), G, krm (d + 4), (0, 0), kQ X G (some (.int res)) (kgl G n S)) cX3_commonAnswer (kgl G n S) [some (.ref (kg_ad G (kbo 2))), some (.ref (kg_ad G (kbo o1))), some (.int v2), some (.ref (kg_ad G (kbo 1))), none, some (.int v5), none] [] 112 := by
  have hO_o1 := kOk_fm hG ho_o1
  have hc_o1 := kci_fm ho_o1
  unfold FX3_commonAnswer_J112 at h
  refine kV_iconst 113 dX3_commonAnswer_112 ic_0 rfl ?_
  refine kV_drop [true, true, true, true, false, true, false] rfl ?_
  exact TX3_commonAnswer_J113 hG ho_o1 hc33 h
theorem TX3_commonAnswer_B33 {G : kG} {n : Nat} {d : Nat} {X : kX} (hG : kg_N G = 55 + 14 * n) {o1 : Nat} (ho_o1 : kfm n o1 = true) {S : kS} {c33 : Int32 × Int32 × Int32 → Option (Int32)} (hc33 : ∀ (q : Int32 × Int32 × Int32) (res : Int32), c33 q = some res → kV (X, RX3, 7, (some .int), G, krm (d + 4), (0, 0), kQ X G (some (.int res)) (kgl G n S)) cX3_commonAnswer (kgl G n S) [some (.ref (kg_ad G (kbo 2))), some (.ref (kg_ad G (kbo o1))), some (.int (q.1)), some (.ref (kg_ad G (kbo 1))), some (.int (q.2.1)), some (.int (q.2.2)), none] [] 33) {v2 : Int32} {v4 : Int32} {v5 : Int32} {res : Int32} (h : FX3_commonAnswer_B33 o1 c33 S v2 v4 v5 = some res) : kV (X, RX3, 7, (some .int), G, krm (d + 4), (0, 0), kQ X G (some (.int res)) (kgl G n S)) cX3_commonAnswer (kgl G n S) [some (.ref (kg_ad G (kbo 2))), some (.ref (kg_ad G (kbo o1))), some (.int v2), some (.ref (kg_ad G (kbo 1))), some (.int v4), some (.int v5), none] [] 33 := by
  have hO_o1 := kOk_fm hG ho_o1
  have hc_o1 := kci_fm ho_o1
  unfold FX3_commonAnswer_B33 at h
  refine kV_iload 35 dX3_commonAnswer_33 rfl rfl ?_
  refine kV_aloadn 36 dX3_commonAnswer_35 rfl rfl ?_
  obtain ⟨x1, hx, h⟩ := kbi_ex h
  refine kC_V 39 [.int v5] [.int x1, .int v5] dX3_commonAnswer_36 (okX4_rowCount hG (d + 3)  hx) kmvX4_rowCount (wi_r16 _ (List.mem_of_getElem? (i := 8) rfl)) (kOk_of hG rfl) rfl rfl rfl rfl rfl rfl ?_
  clear hx
  rcases kif_ex h with ⟨hc, h⟩ | ⟨hc, h⟩
  · refine kV_icmp_ge_t 149 dX3_commonAnswer_39 (by decide) hc ?_
    clear hc
    refine kV_iload 151 dX3_commonAnswer_149 rfl rfl ?_
    cases h
    exact kV_iret dX3_commonAnswer_151
  · refine kV_icmp_ge_f 149 42 dX3_commonAnswer_39 (by decide) hc rfl ?_
    clear hc
    refine kV_aloadn 43 dX3_commonAnswer_42 rfl rfl ?_
    refine kV_iload 45 dX3_commonAnswer_43 rfl rfl ?_
    refine kV_iloadn 46 dX3_commonAnswer_45 rfl rfl ?_
    obtain ⟨x2, hx, h⟩ := kbi_ex h
    refine kC_V 49 [] [.int x2] dX3_commonAnswer_46 (okX4_isOfForm hG (d + 2)  hx) kmvX4_isOfForm (wi_r16 _ (List.mem_of_getElem? (i := 12) rfl)) (kOk_of hG rfl) rfl rfl rfl rfl rfl rfl ?_
    clear hx
    rcases kif_ex h with ⟨hc, h⟩ | ⟨hc, h⟩
    · refine kV_if_eq_t 143 dX3_commonAnswer_49 (by decide) hc ?_
      clear hc
      refine kV_drop [true, true, true, true, true, true, false] rfl ?_
      exact TX3_commonAnswer_J143 hG ho_o1 hc33 h
    · refine kV_if_eq_f 143 52 dX3_commonAnswer_49 (by decide) hc rfl ?_
      clear hc
      refine kV_aloadn 53 dX3_commonAnswer_52 rfl rfl ?_
      refine kV_aloadn 54 dX3_commonAnswer_53 rfl rfl ?_
      refine kV_aloadn 55 dX3_commonAnswer_54 rfl rfl ?_
      refine kV_iload 57 dX3_commonAnswer_55 rfl rfl ?_
      refine kV_iconst 58 dX3_commonAnswer_57 ic_0 rfl ?_
      obtain ⟨x3, hx, h⟩ := kbi_ex h
      refine kC_V 61 [] [.int x3] dX3_commonAnswer_58 (okX3_fits hG d ho_o1 hx) kmvX3_fits (wi_r16 _ (List.mem_of_getElem? (i := 20) rfl)) (kOk_of hG rfl) rfl rfl rfl rfl rfl rfl ?_
      clear hx
      rcases kif_ex h with ⟨hc, h⟩ | ⟨hc, h⟩
      · refine kV_if_eq_t 143 dX3_commonAnswer_61 (by decide) hc ?_
        clear hc
        refine kV_drop [true, true, true, true, true, true, false] rfl ?_
        exact TX3_commonAnswer_J143 hG ho_o1 hc33 h
      · refine kV_if_eq_f 143 64 dX3_commonAnswer_61 (by decide) hc rfl ?_
        clear hc
        refine kV_aloadn 65 dX3_commonAnswer_64 rfl rfl ?_
        refine kV_iload 67 dX3_commonAnswer_65 rfl rfl ?_
        obtain ⟨x4, hx, h⟩ := kbi_ex h
        refine kC_V 70 [] [.int x4] dX3_commonAnswer_67 (okX4_costOf hG (d + 2)  hx) kmvX4_costOf (wi_r18 _ (List.mem_of_getElem? (i := 4) rfl)) (kOk_of hG rfl) rfl rfl rfl rfl rfl rfl ?_
        clear hx
        refine kV_aloadn 71 dX3_commonAnswer_70 rfl rfl ?_
        refine rg3_19 74 dX3_commonAnswer_71 (kOk_of hG rfl) rfl rfl ?_
        refine kV_aloadn 75 dX3_commonAnswer_74 rfl rfl ?_
        refine kV_iload 77 dX3_commonAnswer_75 rfl rfl ?_
        obtain ⟨x5, hx, h⟩ := kbi_ex h
        refine kC_V 80 [.ref (kg_ad G (kbo 2 + 2)), .int x4] [.int x5, .ref (kg_ad G (kbo 2 + 2)), .int x4] dX3_commonAnswer_77 (okX4_lengthOf hG (d + 2)  hx) kmvX4_lengthOf (wi_r17 _ (List.mem_of_getElem? (i := 0) rfl)) (kOk_of hG rfl) rfl rfl rfl rfl rfl rfl ?_
        clear hx
        obtain ⟨hi, h⟩ := kgd_ex h
        obtain ⟨x6, hx, h⟩ := kb_ex h
        refine rl3_2 81 dX3_commonAnswer_80 (kOk_of hG rfl) rfl hi hx rfl ?_
        clear hi hx
        refine kV_iadd 82 dX3_commonAnswer_81 rfl ?_
        refine kV_aloadn 83 dX3_commonAnswer_82 rfl rfl ?_
        refine rg3_19 86 dX3_commonAnswer_83 (kOk_of hG rfl) rfl rfl ?_
        refine kV_iconst 87 dX3_commonAnswer_86 ic_0 rfl ?_
        obtain ⟨hi, h⟩ := kgd_ex h
        obtain ⟨x7, hx, h⟩ := kb_ex h
        refine rl3_2 88 dX3_commonAnswer_87 (kOk_of hG rfl) rfl hi hx rfl ?_
        clear hi hx
        rcases kif_ex h with ⟨hc, h⟩ | ⟨hc, h⟩
        · refine kV_icmp_ne_f 143 91 dX3_commonAnswer_88 (by decide) hc rfl ?_
          clear hc
          refine kV_iload 93 dX3_commonAnswer_91 rfl rfl ?_
          refine kV_iconst 94 dX3_commonAnswer_93 ic_m1 rfl ?_
          rcases kif_ex h with ⟨hc, h⟩ | ⟨hc, h⟩
          · refine kV_icmp_eq_t 112 dX3_commonAnswer_94 (by decide) hc ?_
            clear hc
            refine kV_drop [true, true, true, true, false, true, false] rfl ?_
            exact TX3_commonAnswer_J112 hG ho_o1 hc33 h
          · refine kV_icmp_eq_f 112 97 dX3_commonAnswer_94 (by decide) hc rfl ?_
            clear hc
            refine kV_iload 99 dX3_commonAnswer_97 rfl rfl ?_
            refine kV_aloadn 100 dX3_commonAnswer_99 rfl rfl ?_
            refine kV_iload 102 dX3_commonAnswer_100 rfl rfl ?_
            obtain ⟨x8, hx, h⟩ := kbi_ex h
            refine kC_V 105 [.int v4] [.int x8, .int v4] dX3_commonAnswer_102 (okX4_actOf hG (d + 2)  hx) kmvX4_actOf (wi_r19 _ (List.mem_of_getElem? (i := 0) rfl)) (kOk_of hG rfl) rfl rfl rfl rfl rfl rfl ?_
            clear hx
            rcases kif_ex h with ⟨hc, h⟩ | ⟨hc, h⟩
            · refine kV_icmp_eq_t 112 dX3_commonAnswer_105 (by decide) hc ?_
              clear hc
              refine kV_drop [true, true, true, true, false, true, false] rfl ?_
              exact TX3_commonAnswer_J112 hG ho_o1 hc33 h
            · refine kV_icmp_eq_f 112 108 dX3_commonAnswer_105 (by decide) hc rfl ?_
              clear hc
              refine kV_iconst 109 dX3_commonAnswer_108 ic_1 rfl ?_
              refine kV_goto 113 dX3_commonAnswer_109 (by decide) ?_
              refine kV_drop [true, true, true, true, false, true, false] rfl ?_
              exact TX3_commonAnswer_J113 hG ho_o1 hc33 h
        · refine kV_icmp_ne_t 143 dX3_commonAnswer_88 (by decide) hc ?_
          clear hc
          refine kV_drop [true, true, true, true, true, true, false] rfl ?_
          exact TX3_commonAnswer_J143 hG ho_o1 hc33 h
theorem TX3_commonAnswer_L33 {G : kG} {n : Nat} {d : Nat} {X : kX} (hG : kg_N G = 55 + 14 * n) {o1 : Nat} (ho_o1 : kfm n o1 = true) {S : kS} {v2 : Int32} {v4 : Int32} {v5 : Int32} {res : Int32} (h : FX3_commonAnswer_L33 o1 S v2 v4 v5 = some res) : kV (X, RX3, 7, (some .int), G, krm (d + 4), (0, 0), kQ X G (some (.int res)) (kgl G n S)) cX3_commonAnswer (kgl G n S) [some (.ref (kg_ad G (kbo 2))), some (.ref (kg_ad G (kbo o1))), some (.int v2), some (.ref (kg_ad G (kbo 1))), some (.int v4), some (.int v5), none] [] 33 := by
  unfold FX3_commonAnswer_L33 at h
  exact kfix_ok (P := fun (q : Int32 × Int32 × Int32) (res : Int32) => kV (X, RX3, 7, (some .int), G, krm (d + 4), (0, 0), kQ X G (some (.int res)) (kgl G n S)) cX3_commonAnswer (kgl G n S) [some (.ref (kg_ad G (kbo 2))), some (.ref (kg_ad G (kbo o1))), some (.int (q.1)), some (.ref (kg_ad G (kbo 1))), some (.int (q.2.1)), some (.int (q.2.2)), none] [] 33) (fun rec hrec q res hq => TX3_commonAnswer_B33 hG ho_o1 hrec hq) kfuel _ _ h
theorem TX3_commonAnswer_J25 {G : kG} {n : Nat} {d : Nat} {X : kX} (hG : kg_N G = 55 + 14 * n) {o1 : Nat} (ho_o1 : kfm n o1 = true) {S : kS} {res : Int32} (h : FX3_commonAnswer_J25 o1 S = some res) : kV (X, RX3, 7, (some .int), G, krm (d + 4), (0, 0), kQ X G (some (.int res)) (kgl G n S)) cX3_commonAnswer (kgl G n S) [none, none, none, none, none, none, none] [] 25 := by
  have hO_o1 := kOk_fm hG ho_o1
  have hc_o1 := kci_fm ho_o1
  unfold FX3_commonAnswer_J25 at h
  refine kV_iconst 26 dX3_commonAnswer_25 ic_m1 rfl ?_
  cases h
  exact kV_iret dX3_commonAnswer_26
theorem okX3_commonAnswer {l : Launch} {G : kG} {n : Nat} (hG : kg_N G = 55 + 14 * n) (d : Nat) {o1 : Nat} (ho_o1 : kfm n o1 = true) {S : kS} {a2 : Int32} {res : Int32} (h : FX3_commonAnswer o1 S a2 = some res) : kEv l G (d + 4) mX3_commonAnswer [.ref (kg_ad G (kbo 2)), .ref (kg_ad G (kbo o1)), .int a2, .ref (kg_ad G (kbo 1))] (kgl G n S) (some (.int res)) (kgl G n S) := by
  refine kEv_of RX3 [some (.ref (kg_ad G (kbo 2))), some (.ref (kg_ad G (kbo o1))), some (.int a2), some (.ref (kg_ad G (kbo 1))), none, none, none] rfl (by decide +kernel) rfl rfl rfl rfl (fun X hX => ?_)
  subst hX
  have hO_o1 := kOk_fm hG ho_o1
  have hc_o1 := kci_fm ho_o1
  unfold FX3_commonAnswer at h
  refine kV_aloadn 1 dX3_commonAnswer_0 rfl rfl ?_
  obtain ⟨x1, hx, h⟩ := kb_ex h
  refine rg3_15 4 dX3_commonAnswer_1 (kOk_of hG rfl) rfl hx rfl ?_
  clear hx
  rcases kif_ex h with ⟨hc, h⟩ | ⟨hc, h⟩
  · refine kV_if_le_t 25 dX3_commonAnswer_4 (by decide) hc ?_
    clear hc
    refine kV_drop [false, false, false, false, false, false, false] rfl ?_
    exact TX3_commonAnswer_J25 hG ho_o1 h
  · refine kV_if_le_f 25 7 dX3_commonAnswer_4 (by decide) hc rfl ?_
    clear hc
    refine kV_aloadn 8 dX3_commonAnswer_7 rfl rfl ?_
    refine rg3_19 11 dX3_commonAnswer_8 (kOk_of hG rfl) rfl rfl ?_
    refine kV_iconst 12 dX3_commonAnswer_11 ic_0 rfl ?_
    obtain ⟨hi, h⟩ := kgd_ex h
    obtain ⟨x2, hx, h⟩ := kb_ex h
    refine rl3_2 13 dX3_commonAnswer_12 (kOk_of hG rfl) rfl hi hx rfl ?_
    clear hi hx
    refine kV_bipush 15 dX3_commonAnswer_13 bp_6 rfl ?_
    refine kV_aloadn 16 dX3_commonAnswer_15 rfl rfl ?_
    refine rg3_19 19 dX3_commonAnswer_16 (kOk_of hG rfl) rfl rfl ?_
    refine kV_iconst 20 dX3_commonAnswer_19 ic_1 rfl ?_
    obtain ⟨hi, h⟩ := kgd_ex h
    obtain ⟨x3, hx, h⟩ := kb_ex h
    refine rl3_2 21 dX3_commonAnswer_20 (kOk_of hG rfl) rfl hi hx rfl ?_
    clear hi hx
    refine kV_iadd 22 dX3_commonAnswer_21 rfl ?_
    rcases kif_ex h with ⟨hc, h⟩ | ⟨hc, h⟩
    · refine kV_icmp_ne_f 27 25 dX3_commonAnswer_22 (by decide) hc rfl ?_
      clear hc
      refine kV_drop [false, false, false, false, false, false, false] rfl ?_
      exact TX3_commonAnswer_J25 hG ho_o1 h
    · refine kV_icmp_ne_t 27 dX3_commonAnswer_22 (by decide) hc ?_
      clear hc
      refine kV_iconst 28 dX3_commonAnswer_27 ic_m1 rfl ?_
      refine kV_istore 30 [some (.ref (kg_ad G (kbo 2))), some (.ref (kg_ad G (kbo o1))), some (.int a2), some (.ref (kg_ad G (kbo 1))), some (.int (-1 : Int32)), none, none] dX3_commonAnswer_28 rfl rfl rfl ?_
      refine kV_iconst 31 dX3_commonAnswer_30 ic_0 rfl ?_
      refine kV_istore 33 [some (.ref (kg_ad G (kbo 2))), some (.ref (kg_ad G (kbo o1))), some (.int a2), some (.ref (kg_ad G (kbo 1))), some (.int (-1 : Int32)), some (.int (0 : Int32)), none] dX3_commonAnswer_31 rfl rfl rfl ?_
      refine kV_drop [true, true, true, true, true, true, false] rfl ?_
      exact TX3_commonAnswer_L33 hG ho_o1 h
abbrev mX3_passWord : kM := (yX3_passWord, cX3_passWord, 3, none)
theorem kmvX3_passWord : kMv mX3_passWord 1 3 := ⟨⟨(wi_r16 _ (List.mem_of_getElem? (i := 7) rfl)), (wi_r2 _ (List.mem_of_getElem? (i := 2) rfl)), ⟨by decide +kernel, by decide +kernel, by decide +kernel⟩, by decide⟩, (wi_r16 _ (List.mem_of_getElem? (i := 5) rfl)), (wi_r16 _ (List.mem_of_getElem? (i := 6) rfl)), rfl⟩
def FX3_passWord_B63 (c63 : kS × Int32 × Int32 → Option (kS)) (S : kS) (v1 : Int32) (v2 : Int32) : Option (kS) :=
  if (5 : Int32) ≤ v2 then (some S) else (kgd (kin (((v1 + (1 : Int32)) * (5 : Int32)) + v2) 45) <| kb (kA S 2 6 (((v1 + (1 : Int32)) * (5 : Int32)) + v2)) fun x1 => kgd (kin ((v1 * (5 : Int32)) + v2) 45) <| kb (kpA S 2 6 ((v1 * (5 : Int32)) + v2) x1) fun S1 => c63 (S1, v1, (v2 + (1 : Int32))))
def FX3_passWord_L63 (S : kS) (v1 : Int32) (v2 : Int32) : Option (kS) :=
  kfix (fun rec (q : kS × Int32 × Int32) => FX3_passWord_B63 rec q.1 q.2.1 q.2.2) kfuel (S, v1, v2)
def FX3_passWord (S : kS) (a1 : Int32) : Option (kS) :=
  kgd (kin (a1 + (1 : Int32)) 9) <| kb (kA S 2 2 (a1 + (1 : Int32))) fun x1 => kgd (kin a1 9) <| kb (kpA S 2 2 a1 ((6 : Int32) + x1)) fun S1 => kgd (kin (a1 + (1 : Int32)) 9) <| kb (kA S1 2 3 (a1 + (1 : Int32))) fun x2 => kgd (kin a1 9) <| kb (kpA S1 2 3 a1 x2) fun S2 => kgd (kin (a1 + (1 : Int32)) 9) <| kb (kA S2 2 4 (a1 + (1 : Int32))) fun x3 => kgd (kin a1 9) <| kb (kpA S2 2 4 a1 ((1 : Int32) + x3)) fun S3 => kgd (kin (a1 + (1 : Int32)) 9) <| kb (kA S3 2 5 (a1 + (1 : Int32))) fun x4 => kgd (kin a1 9) <| kb (kpA S3 2 5 a1 (x4 &&& 1)) fun S4 => FX3_passWord_L63 S4 a1 (0 : Int32)
theorem TX3_passWord_B63 {G : kG} {n : Nat} {d : Nat} {X : kX} (hG : kg_N G = 55 + 14 * n) {c63 : kS × Int32 × Int32 → Option (kS)} (hc63 : ∀ (q : kS × Int32 × Int32) (res : kS), c63 q = some res → kV (X, RX3, 3, none, G, krm (d + 0), (0, 0), kQ X G none (kgl G n res)) cX3_passWord (kgl G n q.1) [some (.ref (kg_ad G (kbo 2))), some (.int (q.2.1)), some (.int (q.2.2))] [] 63) {S : kS} {v1 : Int32} {v2 : Int32} {res : kS} (h : FX3_passWord_B63 c63 S v1 v2 = some res) : kV (X, RX3, 3, none, G, krm (d + 0), (0, 0), kQ X G none (kgl G n res)) cX3_passWord (kgl G n S) [some (.ref (kg_ad G (kbo 2))), some (.int v1), some (.int v2)] [] 63 := by
  unfold FX3_passWord_B63 at h
  refine kV_iloadn 64 dX3_passWord_63 rfl rfl ?_
  refine kV_iconst 65 dX3_passWord_64 ic_5 rfl ?_
  rcases kif_ex h with ⟨hc, h⟩ | ⟨hc, h⟩
  · refine kV_icmp_ge_t 96 dX3_passWord_65 (by decide) hc ?_
    clear hc
    cases h
    exact kV_vret dX3_passWord_96
  · refine kV_icmp_ge_f 96 68 dX3_passWord_65 (by decide) hc rfl ?_
    clear hc
    refine kV_aloadn 69 dX3_passWord_68 rfl rfl ?_
    refine rg3_32 72 dX3_passWord_69 (kOk_of hG rfl) rfl rfl ?_
    refine kV_iloadn 73 dX3_passWord_72 rfl rfl ?_
    refine kV_iconst 74 dX3_passWord_73 ic_5 rfl ?_
    refine kV_imul 75 dX3_passWord_74 rfl ?_
    refine kV_iloadn 76 dX3_passWord_75 rfl rfl ?_
    refine kV_iadd 77 dX3_passWord_76 rfl ?_
    refine kV_aloadn 78 dX3_passWord_77 rfl rfl ?_
    refine rg3_32 81 dX3_passWord_78 (kOk_of hG rfl) rfl rfl ?_
    refine kV_iloadn 82 dX3_passWord_81 rfl rfl ?_
    refine kV_iconst 83 dX3_passWord_82 ic_1 rfl ?_
    refine kV_iadd 84 dX3_passWord_83 rfl ?_
    refine kV_iconst 85 dX3_passWord_84 ic_5 rfl ?_
    refine kV_imul 86 dX3_passWord_85 rfl ?_
    refine kV_iloadn 87 dX3_passWord_86 rfl rfl ?_
    refine kV_iadd 88 dX3_passWord_87 rfl ?_
    obtain ⟨hi, h⟩ := kgd_ex h
    obtain ⟨x1, hx, h⟩ := kb_ex h
    refine rl3_6 89 dX3_passWord_88 (kOk_of hG rfl) rfl hi hx rfl ?_
    clear hi hx
    obtain ⟨hi, h⟩ := kgd_ex h
    obtain ⟨S1, hx, h⟩ := kb_ex h
    refine rs3_6 90 dX3_passWord_89 (kOk_of hG rfl) rfl hi hx rfl ?_
    clear hi hx
    refine kV_iinc 93 [some (.ref (kg_ad G (kbo 2))), some (.int v1), some (.int (v2 + (1 : Int32)))] dX3_passWord_90 rfl (kinc_1 _) rfl rfl rfl ?_
    refine kV_goto 63 dX3_passWord_93 (by decide) ?_
    refine kV_drop [true, true, true] rfl ?_
    exact hc63 _ _ h
theorem TX3_passWord_L63 {G : kG} {n : Nat} {d : Nat} {X : kX} (hG : kg_N G = 55 + 14 * n) {S : kS} {v1 : Int32} {v2 : Int32} {res : kS} (h : FX3_passWord_L63 S v1 v2 = some res) : kV (X, RX3, 3, none, G, krm (d + 0), (0, 0), kQ X G none (kgl G n res)) cX3_passWord (kgl G n S) [some (.ref (kg_ad G (kbo 2))), some (.int v1), some (.int v2)] [] 63 := by
  unfold FX3_passWord_L63 at h
  exact kfix_ok (P := fun (q : kS × Int32 × Int32) (res : kS) => kV (X, RX3, 3, none, G, krm (d + 0), (0, 0), kQ X G none (kgl G n res)) cX3_passWord (kgl G n q.1) [some (.ref (kg_ad G (kbo 2))), some (.int (q.2.1)), some (.int (q.2.2))] [] 63) (fun rec hrec q res hq => TX3_passWord_B63 hG hrec hq) kfuel _ _ h
theorem okX3_passWord {l : Launch} {G : kG} {n : Nat} (hG : kg_N G = 55 + 14 * n) (d : Nat) {S : kS} {a1 : Int32} {res : kS} (h : FX3_passWord S a1 = some res) : kEv l G (d + 0) mX3_passWord [.ref (kg_ad G (kbo 2)), .int a1] (kgl G n S) none (kgl G n res) := by
  refine kEv_of RX3 [some (.ref (kg_ad G (kbo 2))), some (.int a1), none] rfl (by decide +kernel) rfl rfl rfl rfl (fun X hX => ?_)
  subst hX
  unfold FX3_passWord at h
  refine kV_aloadn 1 dX3_passWord_0 rfl rfl ?_
  refine rg3_19 4 dX3_passWord_1 (kOk_of hG rfl) rfl rfl ?_
  refine kV_iloadn 5 dX3_passWord_4 rfl rfl ?_
  refine kV_bipush 7 dX3_passWord_5 bp_6 rfl ?_
  refine kV_aloadn 8 dX3_passWord_7 rfl rfl ?_
  refine rg3_19 11 dX3_passWord_8 (kOk_of hG rfl) rfl rfl ?_
  refine kV_iloadn 12 dX3_passWord_11 rfl rfl ?_
  refine kV_iconst 13 dX3_passWord_12 ic_1 rfl ?_
  refine kV_iadd 14 dX3_passWord_13 rfl ?_
  obtain ⟨hi, h⟩ := kgd_ex h
  obtain ⟨x1, hx, h⟩ := kb_ex h
  refine rl3_2 15 dX3_passWord_14 (kOk_of hG rfl) rfl hi hx rfl ?_
  clear hi hx
  refine kV_iadd 16 dX3_passWord_15 rfl ?_
  obtain ⟨hi, h⟩ := kgd_ex h
  obtain ⟨S1, hx, h⟩ := kb_ex h
  refine rs3_2 17 dX3_passWord_16 (kOk_of hG rfl) rfl hi hx rfl ?_
  clear hi hx
  refine kV_aloadn 18 dX3_passWord_17 rfl rfl ?_
  refine rg3_22 21 dX3_passWord_18 (kOk_of hG rfl) rfl rfl ?_
  refine kV_iloadn 22 dX3_passWord_21 rfl rfl ?_
  refine kV_aloadn 23 dX3_passWord_22 rfl rfl ?_
  refine rg3_22 26 dX3_passWord_23 (kOk_of hG rfl) rfl rfl ?_
  refine kV_iloadn 27 dX3_passWord_26 rfl rfl ?_
  refine kV_iconst 28 dX3_passWord_27 ic_1 rfl ?_
  refine kV_iadd 29 dX3_passWord_28 rfl ?_
  obtain ⟨hi, h⟩ := kgd_ex h
  obtain ⟨x2, hx, h⟩ := kb_ex h
  refine rl3_3 30 dX3_passWord_29 (kOk_of hG rfl) rfl hi hx rfl ?_
  clear hi hx
  obtain ⟨hi, h⟩ := kgd_ex h
  obtain ⟨S2, hx, h⟩ := kb_ex h
  refine rs3_3 31 dX3_passWord_30 (kOk_of hG rfl) rfl hi hx rfl ?_
  clear hi hx
  refine kV_aloadn 32 dX3_passWord_31 rfl rfl ?_
  refine rg3_25 35 dX3_passWord_32 (kOk_of hG rfl) rfl rfl ?_
  refine kV_iloadn 36 dX3_passWord_35 rfl rfl ?_
  refine kV_iconst 37 dX3_passWord_36 ic_1 rfl ?_
  refine kV_aloadn 38 dX3_passWord_37 rfl rfl ?_
  refine rg3_25 41 dX3_passWord_38 (kOk_of hG rfl) rfl rfl ?_
  refine kV_iloadn 42 dX3_passWord_41 rfl rfl ?_
  refine kV_iconst 43 dX3_passWord_42 ic_1 rfl ?_
  refine kV_iadd 44 dX3_passWord_43 rfl ?_
  obtain ⟨hi, h⟩ := kgd_ex h
  obtain ⟨x3, hx, h⟩ := kb_ex h
  refine rl3_4 45 dX3_passWord_44 (kOk_of hG rfl) rfl hi hx rfl ?_
  clear hi hx
  refine kV_iadd 46 dX3_passWord_45 rfl ?_
  obtain ⟨hi, h⟩ := kgd_ex h
  obtain ⟨S3, hx, h⟩ := kb_ex h
  refine rs3_4 47 dX3_passWord_46 (kOk_of hG rfl) rfl hi hx rfl ?_
  clear hi hx
  refine kV_aloadn 48 dX3_passWord_47 rfl rfl ?_
  refine rg3_28 51 dX3_passWord_48 (kOk_of hG rfl) rfl rfl ?_
  refine kV_iloadn 52 dX3_passWord_51 rfl rfl ?_
  refine kV_aloadn 53 dX3_passWord_52 rfl rfl ?_
  refine rg3_28 56 dX3_passWord_53 (kOk_of hG rfl) rfl rfl ?_
  refine kV_iloadn 57 dX3_passWord_56 rfl rfl ?_
  refine kV_iconst 58 dX3_passWord_57 ic_1 rfl ?_
  refine kV_iadd 59 dX3_passWord_58 rfl ?_
  obtain ⟨hi, h⟩ := kgd_ex h
  obtain ⟨x4, hx, h⟩ := kb_ex h
  refine rl3_5 60 dX3_passWord_59 (kOk_of hG rfl) rfl hi hx rfl ?_
  clear hi hx
  obtain ⟨hi, h⟩ := kgd_ex h
  obtain ⟨S4, hx, h⟩ := kb_ex h
  refine rs3_5 61 dX3_passWord_60 (kOk_of hG rfl) rfl hi hx rfl ?_
  clear hi hx
  refine kV_iconst 62 dX3_passWord_61 ic_0 rfl ?_
  refine kV_istoren 63 [some (.ref (kg_ad G (kbo 2))), some (.int a1), some (.int (0 : Int32))] dX3_passWord_62 rfl rfl rfl ?_
  refine kV_drop [true, true, true] rfl ?_
  exact TX3_passWord_L63 hG h
abbrev mX3_startAtEnd : kM := (yX3_startAtEnd, cX3_startAtEnd, 2, none)
theorem kmvX3_startAtEnd : kMv mX3_startAtEnd 0 3 := ⟨⟨(wi_r16 _ (List.mem_of_getElem? (i := 3) rfl)), (wi_r2 _ (List.mem_of_getElem? (i := 2) rfl)), ⟨by decide +kernel, by decide +kernel, by decide +kernel⟩, by decide⟩, (wi_r16 _ (List.mem_of_getElem? (i := 1) rfl)), (wi_r16 _ (List.mem_of_getElem? (i := 2) rfl)), rfl⟩
def FX3_startAtEnd_B42 (c42 : kS × Int32 → Option (kS)) (S : kS) (v1 : Int32) : Option (kS) :=
  if (5 : Int32) ≤ v1 then (some S) else (kb (kI S 2 1) fun x1 => kgd (kin ((x1 * (5 : Int32)) + v1) 45) <| kb (kpA S 2 6 ((x1 * (5 : Int32)) + v1) (16 : Int32)) fun S1 => c42 (S1, (v1 + (1 : Int32))))
def FX3_startAtEnd_L42 (S : kS) (v1 : Int32) : Option (kS) :=
  kfix (fun rec (q : kS × Int32) => FX3_startAtEnd_B42 rec q.1 q.2) kfuel (S, v1)
def FX3_startAtEnd (S : kS) : Option (kS) :=
  kb (kI S 2 1) fun x1 => kgd (kin x1 9) <| kb (kpA S 2 2 x1 (0 : Int32)) fun S1 => kb (kI S1 2 1) fun x2 => kgd (kin x2 9) <| kb (kpA S1 2 3 x2 (1 : Int32)) fun S2 => kb (kI S2 2 1) fun x3 => kgd (kin x3 9) <| kb (kpA S2 2 4 x3 (0 : Int32)) fun S3 => kb (kI S3 2 1) fun x4 => kgd (kin x4 9) <| kb (kpA S3 2 5 x4 ((0 : Int32) &&& 1)) fun S4 => FX3_startAtEnd_L42 S4 (0 : Int32)
theorem TX3_startAtEnd_B42 {G : kG} {n : Nat} {d : Nat} {X : kX} (hG : kg_N G = 55 + 14 * n) {c42 : kS × Int32 → Option (kS)} (hc42 : ∀ (q : kS × Int32) (res : kS), c42 q = some res → kV (X, RX3, 2, none, G, krm (d + 0), (0, 0), kQ X G none (kgl G n res)) cX3_startAtEnd (kgl G n q.1) [some (.ref (kg_ad G (kbo 2))), some (.int (q.2))] [] 42) {S : kS} {v1 : Int32} {res : kS} (h : FX3_startAtEnd_B42 c42 S v1 = some res) : kV (X, RX3, 2, none, G, krm (d + 0), (0, 0), kQ X G none (kgl G n res)) cX3_startAtEnd (kgl G n S) [some (.ref (kg_ad G (kbo 2))), some (.int v1)] [] 42 := by
  unfold FX3_startAtEnd_B42 at h
  refine kV_iloadn 43 dX3_startAtEnd_42 rfl rfl ?_
  refine kV_iconst 44 dX3_startAtEnd_43 ic_5 rfl ?_
  rcases kif_ex h with ⟨hc, h⟩ | ⟨hc, h⟩
  · refine kV_icmp_ge_t 68 dX3_startAtEnd_44 (by decide) hc ?_
    clear hc
    cases h
    exact kV_vret dX3_startAtEnd_68
  · refine kV_icmp_ge_f 68 47 dX3_startAtEnd_44 (by decide) hc rfl ?_
    clear hc
    refine kV_aloadn 48 dX3_startAtEnd_47 rfl rfl ?_
    refine rg3_32 51 dX3_startAtEnd_48 (kOk_of hG rfl) rfl rfl ?_
    refine kV_aloadn 52 dX3_startAtEnd_51 rfl rfl ?_
    obtain ⟨x1, hx, h⟩ := kb_ex h
    refine rg3_15 55 dX3_startAtEnd_52 (kOk_of hG rfl) rfl hx rfl ?_
    clear hx
    refine kV_iconst 56 dX3_startAtEnd_55 ic_5 rfl ?_
    refine kV_imul 57 dX3_startAtEnd_56 rfl ?_
    refine kV_iloadn 58 dX3_startAtEnd_57 rfl rfl ?_
    refine kV_iadd 59 dX3_startAtEnd_58 rfl ?_
    refine kV_bipush 61 dX3_startAtEnd_59 bp_16 rfl ?_
    obtain ⟨hi, h⟩ := kgd_ex h
    obtain ⟨S1, hx, h⟩ := kb_ex h
    refine rs3_6 62 dX3_startAtEnd_61 (kOk_of hG rfl) rfl hi hx rfl ?_
    clear hi hx
    refine kV_iinc 65 [some (.ref (kg_ad G (kbo 2))), some (.int (v1 + (1 : Int32)))] dX3_startAtEnd_62 rfl (kinc_1 _) rfl rfl rfl ?_
    refine kV_goto 42 dX3_startAtEnd_65 (by decide) ?_
    refine kV_drop [true, true] rfl ?_
    exact hc42 _ _ h
theorem TX3_startAtEnd_L42 {G : kG} {n : Nat} {d : Nat} {X : kX} (hG : kg_N G = 55 + 14 * n) {S : kS} {v1 : Int32} {res : kS} (h : FX3_startAtEnd_L42 S v1 = some res) : kV (X, RX3, 2, none, G, krm (d + 0), (0, 0), kQ X G none (kgl G n res)) cX3_startAtEnd (kgl G n S) [some (.ref (kg_ad G (kbo 2))), some (.int v1)] [] 42 := by
  unfold FX3_startAtEnd_L42 at h
  exact kfix_ok (P := fun (q : kS × Int32) (res : kS) => kV (X, RX3, 2, none, G, krm (d + 0), (0, 0), kQ X G none (kgl G n res)) cX3_startAtEnd (kgl G n q.1) [some (.ref (kg_ad G (kbo 2))), some (.int (q.2))] [] 42) (fun rec hrec q res hq => TX3_startAtEnd_B42 hG hrec hq) kfuel _ _ h
theorem okX3_startAtEnd {l : Launch} {G : kG} {n : Nat} (hG : kg_N G = 55 + 14 * n) (d : Nat) {S : kS} {res : kS} (h : FX3_startAtEnd S = some res) : kEv l G (d + 0) mX3_startAtEnd [.ref (kg_ad G (kbo 2))] (kgl G n S) none (kgl G n res) := by
  refine kEv_of RX3 [some (.ref (kg_ad G (kbo 2))), none] rfl (by decide +kernel) rfl rfl rfl rfl (fun X hX => ?_)
  subst hX
  unfold FX3_startAtEnd at h
  refine kV_aloadn 1 dX3_startAtEnd_0 rfl rfl ?_
  refine rg3_19 4 dX3_startAtEnd_1 (kOk_of hG rfl) rfl rfl ?_
  refine kV_aloadn 5 dX3_startAtEnd_4 rfl rfl ?_
  obtain ⟨x1, hx, h⟩ := kb_ex h
  refine rg3_15 8 dX3_startAtEnd_5 (kOk_of hG rfl) rfl hx rfl ?_
  clear hx
  refine kV_iconst 9 dX3_startAtEnd_8 ic_0 rfl ?_
  obtain ⟨hi, h⟩ := kgd_ex h
  obtain ⟨S1, hx, h⟩ := kb_ex h
  refine rs3_2 10 dX3_startAtEnd_9 (kOk_of hG rfl) rfl hi hx rfl ?_
  clear hi hx
  refine kV_aloadn 11 dX3_startAtEnd_10 rfl rfl ?_
  refine rg3_22 14 dX3_startAtEnd_11 (kOk_of hG rfl) rfl rfl ?_
  refine kV_aloadn 15 dX3_startAtEnd_14 rfl rfl ?_
  obtain ⟨x2, hx, h⟩ := kb_ex h
  refine rg3_15 18 dX3_startAtEnd_15 (kOk_of hG rfl) rfl hx rfl ?_
  clear hx
  refine kV_iconst 19 dX3_startAtEnd_18 ic_1 rfl ?_
  obtain ⟨hi, h⟩ := kgd_ex h
  obtain ⟨S2, hx, h⟩ := kb_ex h
  refine rs3_3 20 dX3_startAtEnd_19 (kOk_of hG rfl) rfl hi hx rfl ?_
  clear hi hx
  refine kV_aloadn 21 dX3_startAtEnd_20 rfl rfl ?_
  refine rg3_25 24 dX3_startAtEnd_21 (kOk_of hG rfl) rfl rfl ?_
  refine kV_aloadn 25 dX3_startAtEnd_24 rfl rfl ?_
  obtain ⟨x3, hx, h⟩ := kb_ex h
  refine rg3_15 28 dX3_startAtEnd_25 (kOk_of hG rfl) rfl hx rfl ?_
  clear hx
  refine kV_iconst 29 dX3_startAtEnd_28 ic_0 rfl ?_
  obtain ⟨hi, h⟩ := kgd_ex h
  obtain ⟨S3, hx, h⟩ := kb_ex h
  refine rs3_4 30 dX3_startAtEnd_29 (kOk_of hG rfl) rfl hi hx rfl ?_
  clear hi hx
  refine kV_aloadn 31 dX3_startAtEnd_30 rfl rfl ?_
  refine rg3_28 34 dX3_startAtEnd_31 (kOk_of hG rfl) rfl rfl ?_
  refine kV_aloadn 35 dX3_startAtEnd_34 rfl rfl ?_
  obtain ⟨x4, hx, h⟩ := kb_ex h
  refine rg3_15 38 dX3_startAtEnd_35 (kOk_of hG rfl) rfl hx rfl ?_
  clear hx
  refine kV_iconst 39 dX3_startAtEnd_38 ic_0 rfl ?_
  obtain ⟨hi, h⟩ := kgd_ex h
  obtain ⟨S4, hx, h⟩ := kb_ex h
  refine rs3_5 40 dX3_startAtEnd_39 (kOk_of hG rfl) rfl hi hx rfl ?_
  clear hi hx
  refine kV_iconst 41 dX3_startAtEnd_40 ic_0 rfl ?_
  refine kV_istoren 42 [some (.ref (kg_ad G (kbo 2))), some (.int (0 : Int32))] dX3_startAtEnd_41 rfl rfl rfl ?_
  refine kV_drop [true, true] rfl ?_
  exact TX3_startAtEnd_L42 hG h
abbrev mX3_clearAt : kM := (yX3_clearAt, cX3_clearAt, 4, none)
theorem kmvX3_clearAt : kMv mX3_clearAt 2 3 := ⟨⟨(wi_r18 _ (List.mem_of_getElem? (i := 11) rfl)), (wi_r2 _ (List.mem_of_getElem? (i := 2) rfl)), ⟨by decide +kernel, by decide +kernel, by decide +kernel⟩, by decide⟩, (wi_r18 _ (List.mem_of_getElem? (i := 9) rfl)), (wi_r18 _ (List.mem_of_getElem? (i := 10) rfl)), rfl⟩
def FX3_clearAt_B23 (c23 : kS × Int32 × Int32 → Option (kS)) (S : kS) (v1 : Int32) (v3 : Int32) : Option (kS) :=
  if (5 : Int32) ≤ v3 then (some S) else (kgd (kin ((v1 * (5 : Int32)) + v3) 45) <| kb (kpA S 2 6 ((v1 * (5 : Int32)) + v3) (0 : Int32)) fun S1 => c23 (S1, v1, (v3 + (1 : Int32))))
def FX3_clearAt_L23 (S : kS) (v1 : Int32) (v3 : Int32) : Option (kS) :=
  kfix (fun rec (q : kS × Int32 × Int32) => FX3_clearAt_B23 rec q.1 q.2.1 q.2.2) kfuel (S, v1, v3)
def FX3_clearAt (S : kS) (a1 : Int32) (a2 : Int32) : Option (kS) :=
  kgd (kin a1 9) <| kb (kpA S 2 2 a1 a2) fun S1 => kgd (kin a1 9) <| kb (kpA S1 2 3 a1 (0 : Int32)) fun S2 => kgd (kin a1 9) <| kb (kpA S2 2 4 a1 (0 : Int32)) fun S3 => FX3_clearAt_L23 S3 a1 (0 : Int32)
theorem TX3_clearAt_B23 {G : kG} {n : Nat} {d : Nat} {X : kX} (hG : kg_N G = 55 + 14 * n) {c23 : kS × Int32 × Int32 → Option (kS)} (hc23 : ∀ (q : kS × Int32 × Int32) (res : kS), c23 q = some res → kV (X, RX3, 4, none, G, krm (d + 0), (0, 0), kQ X G none (kgl G n res)) cX3_clearAt (kgl G n q.1) [some (.ref (kg_ad G (kbo 2))), some (.int (q.2.1)), none, some (.int (q.2.2))] [] 23) {S : kS} {v1 : Int32} {v3 : Int32} {res : kS} (h : FX3_clearAt_B23 c23 S v1 v3 = some res) : kV (X, RX3, 4, none, G, krm (d + 0), (0, 0), kQ X G none (kgl G n res)) cX3_clearAt (kgl G n S) [some (.ref (kg_ad G (kbo 2))), some (.int v1), none, some (.int v3)] [] 23 := by
  unfold FX3_clearAt_B23 at h
  refine kV_iloadn 24 dX3_clearAt_23 rfl rfl ?_
  refine kV_iconst 25 dX3_clearAt_24 ic_5 rfl ?_
  rcases kif_ex h with ⟨hc, h⟩ | ⟨hc, h⟩
  · refine kV_icmp_ge_t 45 dX3_clearAt_25 (by decide) hc ?_
    clear hc
    cases h
    exact kV_vret dX3_clearAt_45
  · refine kV_icmp_ge_f 45 28 dX3_clearAt_25 (by decide) hc rfl ?_
    clear hc
    refine kV_aloadn 29 dX3_clearAt_28 rfl rfl ?_
    refine rg3_32 32 dX3_clearAt_29 (kOk_of hG rfl) rfl rfl ?_
    refine kV_iloadn 33 dX3_clearAt_32 rfl rfl ?_
    refine kV_iconst 34 dX3_clearAt_33 ic_5 rfl ?_
    refine kV_imul 35 dX3_clearAt_34 rfl ?_
    refine kV_iloadn 36 dX3_clearAt_35 rfl rfl ?_
    refine kV_iadd 37 dX3_clearAt_36 rfl ?_
    refine kV_iconst 38 dX3_clearAt_37 ic_0 rfl ?_
    obtain ⟨hi, h⟩ := kgd_ex h
    obtain ⟨S1, hx, h⟩ := kb_ex h
    refine rs3_6 39 dX3_clearAt_38 (kOk_of hG rfl) rfl hi hx rfl ?_
    clear hi hx
    refine kV_iinc 42 [some (.ref (kg_ad G (kbo 2))), some (.int v1), none, some (.int (v3 + (1 : Int32)))] dX3_clearAt_39 rfl (kinc_1 _) rfl rfl rfl ?_
    refine kV_goto 23 dX3_clearAt_42 (by decide) ?_
    refine kV_drop [true, true, false, true] rfl ?_
    exact hc23 _ _ h
theorem TX3_clearAt_L23 {G : kG} {n : Nat} {d : Nat} {X : kX} (hG : kg_N G = 55 + 14 * n) {S : kS} {v1 : Int32} {v3 : Int32} {res : kS} (h : FX3_clearAt_L23 S v1 v3 = some res) : kV (X, RX3, 4, none, G, krm (d + 0), (0, 0), kQ X G none (kgl G n res)) cX3_clearAt (kgl G n S) [some (.ref (kg_ad G (kbo 2))), some (.int v1), none, some (.int v3)] [] 23 := by
  unfold FX3_clearAt_L23 at h
  exact kfix_ok (P := fun (q : kS × Int32 × Int32) (res : kS) => kV (X, RX3, 4, none, G, krm (d + 0), (0, 0), kQ X G none (kgl G n res)) cX3_clearAt (kgl G n q.1) [some (.ref (kg_ad G (kbo 2))), some (.int (q.2.1)), none, some (.int (q.2.2))] [] 23) (fun rec hrec q res hq => TX3_clearAt_B23 hG hrec hq) kfuel _ _ h
theorem okX3_clearAt {l : Launch} {G : kG} {n : Nat} (hG : kg_N G = 55 + 14 * n) (d : Nat) {S : kS} {a1 : Int32} {a2 : Int32} {res : kS} (h : FX3_clearAt S a1 a2 = some res) : kEv l G (d + 0) mX3_clearAt [.ref (kg_ad G (kbo 2)), .int a1, .int a2] (kgl G n S) none (kgl G n res) := by
  refine kEv_of RX3 [some (.ref (kg_ad G (kbo 2))), some (.int a1), some (.int a2), none] rfl (by decide +kernel) rfl rfl rfl rfl (fun X hX => ?_)
  subst hX
  unfold FX3_clearAt at h
  refine kV_aloadn 1 dX3_clearAt_0 rfl rfl ?_
  refine rg3_19 4 dX3_clearAt_1 (kOk_of hG rfl) rfl rfl ?_
  refine kV_iloadn 5 dX3_clearAt_4 rfl rfl ?_
  refine kV_iloadn 6 dX3_clearAt_5 rfl rfl ?_
  obtain ⟨hi, h⟩ := kgd_ex h
  obtain ⟨S1, hx, h⟩ := kb_ex h
  refine rs3_2 7 dX3_clearAt_6 (kOk_of hG rfl) rfl hi hx rfl ?_
  clear hi hx
  refine kV_aloadn 8 dX3_clearAt_7 rfl rfl ?_
  refine rg3_22 11 dX3_clearAt_8 (kOk_of hG rfl) rfl rfl ?_
  refine kV_iloadn 12 dX3_clearAt_11 rfl rfl ?_
  refine kV_iconst 13 dX3_clearAt_12 ic_0 rfl ?_
  obtain ⟨hi, h⟩ := kgd_ex h
  obtain ⟨S2, hx, h⟩ := kb_ex h
  refine rs3_3 14 dX3_clearAt_13 (kOk_of hG rfl) rfl hi hx rfl ?_
  clear hi hx
  refine kV_aloadn 15 dX3_clearAt_14 rfl rfl ?_
  refine rg3_25 18 dX3_clearAt_15 (kOk_of hG rfl) rfl rfl ?_
  refine kV_iloadn 19 dX3_clearAt_18 rfl rfl ?_
  refine kV_iconst 20 dX3_clearAt_19 ic_0 rfl ?_
  obtain ⟨hi, h⟩ := kgd_ex h
  obtain ⟨S3, hx, h⟩ := kb_ex h
  refine rs3_4 21 dX3_clearAt_20 (kOk_of hG rfl) rfl hi hx rfl ?_
  clear hi hx
  refine kV_iconst 22 dX3_clearAt_21 ic_0 rfl ?_
  refine kV_istoren 23 [some (.ref (kg_ad G (kbo 2))), some (.int a1), some (.int a2), some (.int (0 : Int32))] dX3_clearAt_22 rfl rfl rfl ?_
  refine kV_drop [true, true, false, true] rfl ?_
  exact TX3_clearAt_L23 hG h
abbrev mX3_fillingByRow : kM := (yX3_fillingByRow, cX3_fillingByRow, 7, (some .int))
theorem kmvX3_fillingByRow : kMv mX3_fillingByRow 5 3 := ⟨⟨(wi_r18 _ (List.mem_of_getElem? (i := 15) rfl)), (wi_r2 _ (List.mem_of_getElem? (i := 2) rfl)), ⟨by decide +kernel, by decide +kernel, by decide +kernel⟩, by decide⟩, (wi_r18 _ (List.mem_of_getElem? (i := 13) rfl)), (wi_r18 _ (List.mem_of_getElem? (i := 14) rfl)), rfl⟩
def FX3_fillingByRow_J54 (o1 : Nat) (c9 : Int32 × Int32 × Int32 × Int32 → Option (Int32)) (S : kS) (v3 : Int32) (v4 : Int32) (v5 : Int32) (v6 : Int32) : Option (Int32) :=
  c9 (v3, v4, v5, (v6 + (-1 : Int32)))
def FX3_fillingByRow_B9 (o1 : Nat) (c9 : Int32 × Int32 × Int32 × Int32 → Option (Int32)) (S : kS) (v3 : Int32) (v4 : Int32) (v5 : Int32) (v6 : Int32) : Option (Int32) :=
  if v6 < 0 then (some (16 : Int32)) else ((FX4_kindOfItem S v3 v6).bind fun x1 => if x1 = (1 : Int32) then ((FX4_keyOfItem S v3 v6).bind fun x2 => if x2 = v5 then (kgd (kin (v4 + v6) 8) <| kb (kA S 2 0 (v4 + v6)) fun x3 => (FX0_valueSaidBy o1 S x3).bind fun x4 => some ((1 : Int32) <<< (x4 &&& 31))) else (FX3_fillingByRow_J54 o1 c9 S v3 v4 v5 v6)) else (FX3_fillingByRow_J54 o1 c9 S v3 v4 v5 v6))
def FX3_fillingByRow_L9 (o1 : Nat) (S : kS) (v3 : Int32) (v4 : Int32) (v5 : Int32) (v6 : Int32) : Option (Int32) :=
  kfix (fun rec (q : Int32 × Int32 × Int32 × Int32) => FX3_fillingByRow_B9 o1 rec S q.1 q.2.1 q.2.2.1 q.2.2.2) kfuel (v3, v4, v5, v6)
def FX3_fillingByRow (o1 : Nat) (S : kS) (a3 : Int32) (a4 : Int32) (a5 : Int32) : Option (Int32) :=
  (FX4_lengthOf S a3).bind fun x1 => FX3_fillingByRow_L9 o1 S a3 a4 a5 (x1 - (1 : Int32))
theorem TX3_fillingByRow_J54 {G : kG} {n : Nat} {d : Nat} {X : kX} (hG : kg_N G = 55 + 14 * n) {o1 : Nat} (ho_o1 : kfm n o1 = true) {c9 : Int32 × Int32 × Int32 × Int32 → Option (Int32)} {S : kS} (hc9 : ∀ (q : Int32 × Int32 × Int32 × Int32) (res : Int32), c9 q = some res → kV (X, RX3, 7, (some .int), G, krm (d + 3), (0, 0), kQ X G (some (.int res)) (kgl G n S)) cX3_fillingByRow (kgl G n S) [some (.ref (kg_ad G (kbo 2))), some (.ref (kg_ad G (kbo o1))), some (.ref (kg_ad G (kbo 1))), some (.int (q.1)), some (.int (q.2.1)), some (.int (q.2.2.1)), some (.int (q.2.2.2))] [] 9) {v3 : Int32} {v4 : Int32} {v5 : Int32} {v6 : Int32} {res : Int32} (h : FX3_fillingByRow_J54 o1 c9 S v3 v4 v5 v6 = some res) : kV (X, RX3, 7, (some .int), G, krm (d + 3), (0, 0), kQ X G (some (.int res)) (kgl G n S)) cX3_fillingByRow (kgl G n S) [some (.ref (kg_ad G (kbo 2))), some (.ref (kg_ad G (kbo o1))), some (.ref (kg_ad G (kbo 1))), some (.int v3), some (.int v4), some (.int v5), some (.int v6)] [] 54 := by
  have hO_o1 := kOk_fm hG ho_o1
  have hc_o1 := kci_fm ho_o1
  unfold FX3_fillingByRow_J54 at h
  refine kV_iinc 57 [some (.ref (kg_ad G (kbo 2))), some (.ref (kg_ad G (kbo o1))), some (.ref (kg_ad G (kbo 1))), some (.int v3), some (.int v4), some (.int v5), some (.int (v6 + (-1 : Int32)))] dX3_fillingByRow_54 rfl (kinc_m1 _) rfl rfl rfl ?_
  refine kV_goto 9 dX3_fillingByRow_57 (by decide) ?_
  refine kV_drop [true, true, true, true, true, true, true] rfl ?_
  exact hc9 _ _ h
theorem TX3_fillingByRow_B9 {G : kG} {n : Nat} {d : Nat} {X : kX} (hG : kg_N G = 55 + 14 * n) {o1 : Nat} (ho_o1 : kfm n o1 = true) {S : kS} {c9 : Int32 × Int32 × Int32 × Int32 → Option (Int32)} (hc9 : ∀ (q : Int32 × Int32 × Int32 × Int32) (res : Int32), c9 q = some res → kV (X, RX3, 7, (some .int), G, krm (d + 3), (0, 0), kQ X G (some (.int res)) (kgl G n S)) cX3_fillingByRow (kgl G n S) [some (.ref (kg_ad G (kbo 2))), some (.ref (kg_ad G (kbo o1))), some (.ref (kg_ad G (kbo 1))), some (.int (q.1)), some (.int (q.2.1)), some (.int (q.2.2.1)), some (.int (q.2.2.2))] [] 9) {v3 : Int32} {v4 : Int32} {v5 : Int32} {v6 : Int32} {res : Int32} (h : FX3_fillingByRow_B9 o1 c9 S v3 v4 v5 v6 = some res) : kV (X, RX3, 7, (some .int), G, krm (d + 3), (0, 0), kQ X G (some (.int res)) (kgl G n S)) cX3_fillingByRow (kgl G n S) [some (.ref (kg_ad G (kbo 2))), some (.ref (kg_ad G (kbo o1))), some (.ref (kg_ad G (kbo 1))), some (.int v3), some (.int v4), some (.int v5), some (.int v6)] [] 9 := by
  have hO_o1 := kOk_fm hG ho_o1
  have hc_o1 := kci_fm ho_o1
  unfold FX3_fillingByRow_B9 at h
  refine kV_iload 11 dX3_fillingByRow_9 rfl rfl ?_
  rcases kif_ex h with ⟨hc, h⟩ | ⟨hc, h⟩
  · refine kV_if_lt_t 60 dX3_fillingByRow_11 (by decide) hc ?_
    clear hc
    refine kV_bipush 62 dX3_fillingByRow_60 bp_16 rfl ?_
    cases h
    exact kV_iret dX3_fillingByRow_62
  · refine kV_if_lt_f 60 14 dX3_fillingByRow_11 (by decide) hc rfl ?_
    clear hc
    refine kV_aloadn 15 dX3_fillingByRow_14 rfl rfl ?_
    refine kV_iloadn 16 dX3_fillingByRow_15 rfl rfl ?_
    refine kV_iload 18 dX3_fillingByRow_16 rfl rfl ?_
    obtain ⟨x1, hx, h⟩ := kbi_ex h
    refine kC_V 21 [] [.int x1] dX3_fillingByRow_18 (okX4_kindOfItem hG d  hx) kmvX4_kindOfItem (wi_r17 _ (List.mem_of_getElem? (i := 4) rfl)) (kOk_of hG rfl) rfl rfl rfl rfl rfl rfl ?_
    clear hx
    refine kV_iconst 22 dX3_fillingByRow_21 ic_1 rfl ?_
    rcases kif_ex h with ⟨hc, h⟩ | ⟨hc, h⟩
    · refine kV_icmp_ne_f 54 25 dX3_fillingByRow_22 (by decide) hc rfl ?_
      clear hc
      refine kV_aloadn 26 dX3_fillingByRow_25 rfl rfl ?_
      refine kV_iloadn 27 dX3_fillingByRow_26 rfl rfl ?_
      refine kV_iload 29 dX3_fillingByRow_27 rfl rfl ?_
      obtain ⟨x2, hx, h⟩ := kbi_ex h
      refine kC_V 32 [] [.int x2] dX3_fillingByRow_29 (okX4_keyOfItem hG d  hx) kmvX4_keyOfItem (wi_r17 _ (List.mem_of_getElem? (i := 12) rfl)) (kOk_of hG rfl) rfl rfl rfl rfl rfl rfl ?_
      clear hx
      refine kV_iload 34 dX3_fillingByRow_32 rfl rfl ?_
      rcases kif_ex h with ⟨hc, h⟩ | ⟨hc, h⟩
      · refine kV_icmp_ne_f 54 37 dX3_fillingByRow_34 (by decide) hc rfl ?_
        clear hc
        refine kV_iconst 38 dX3_fillingByRow_37 ic_1 rfl ?_
        refine kV_aloadn 39 dX3_fillingByRow_38 rfl rfl ?_
        refine kV_aloadn 40 dX3_fillingByRow_39 rfl rfl ?_
        refine rg3_11 43 dX3_fillingByRow_40 (kOk_of hG rfl) rfl rfl ?_
        refine kV_iload 45 dX3_fillingByRow_43 rfl rfl ?_
        refine kV_iload 47 dX3_fillingByRow_45 rfl rfl ?_
        refine kV_iadd 48 dX3_fillingByRow_47 rfl ?_
        obtain ⟨hi, h⟩ := kgd_ex h
        obtain ⟨x3, hx, h⟩ := kb_ex h
        refine rl3_0 49 dX3_fillingByRow_48 (kOk_of hG rfl) rfl hi hx rfl ?_
        clear hi hx
        obtain ⟨x4, hx, h⟩ := kbi_ex h
        refine kC_V 52 [.int (1 : Int32)] [.int x4, .int (1 : Int32)] dX3_fillingByRow_49 (okX0_valueSaidBy hG (d + 1) ho_o1 hx) kmvX0_valueSaidBy (wi_r18 _ (List.mem_of_getElem? (i := 16) rfl)) hO_o1 hc_o1 rfl rfl rfl rfl rfl ?_
        clear hx
        refine kV_ishl 53 dX3_fillingByRow_52 rfl ?_
        cases h
        exact kV_iret dX3_fillingByRow_53
      · refine kV_icmp_ne_t 54 dX3_fillingByRow_34 (by decide) hc ?_
        clear hc
        refine kV_drop [true, true, true, true, true, true, true] rfl ?_
        exact TX3_fillingByRow_J54 hG ho_o1 hc9 h
    · refine kV_icmp_ne_t 54 dX3_fillingByRow_22 (by decide) hc ?_
      clear hc
      refine kV_drop [true, true, true, true, true, true, true] rfl ?_
      exact TX3_fillingByRow_J54 hG ho_o1 hc9 h
theorem TX3_fillingByRow_L9 {G : kG} {n : Nat} {d : Nat} {X : kX} (hG : kg_N G = 55 + 14 * n) {o1 : Nat} (ho_o1 : kfm n o1 = true) {S : kS} {v3 : Int32} {v4 : Int32} {v5 : Int32} {v6 : Int32} {res : Int32} (h : FX3_fillingByRow_L9 o1 S v3 v4 v5 v6 = some res) : kV (X, RX3, 7, (some .int), G, krm (d + 3), (0, 0), kQ X G (some (.int res)) (kgl G n S)) cX3_fillingByRow (kgl G n S) [some (.ref (kg_ad G (kbo 2))), some (.ref (kg_ad G (kbo o1))), some (.ref (kg_ad G (kbo 1))), some (.int v3), some (.int v4), some (.int v5), some (.int v6)] [] 9 := by
  unfold FX3_fillingByRow_L9 at h
  exact kfix_ok (P := fun (q : Int32 × Int32 × Int32 × Int32) (res : Int32) => kV (X, RX3, 7, (some .int), G, krm (d + 3), (0, 0), kQ X G (some (.int res)) (kgl G n S)) cX3_fillingByRow (kgl G n S) [some (.ref (kg_ad G (kbo 2))), some (.ref (kg_ad G (kbo o1))), some (.ref (kg_ad G (kbo 1))), some (.int (q.1)), some (.int (q.2.1)), some (.int (q.2.2.1)), some (.int (q.2.2.2))] [] 9) (fun rec hrec q res hq => TX3_fillingByRow_B9 hG ho_o1 hrec hq) kfuel _ _ h
theorem okX3_fillingByRow {l : Launch} {G : kG} {n : Nat} (hG : kg_N G = 55 + 14 * n) (d : Nat) {o1 : Nat} (ho_o1 : kfm n o1 = true) {S : kS} {a3 : Int32} {a4 : Int32} {a5 : Int32} {res : Int32} (h : FX3_fillingByRow o1 S a3 a4 a5 = some res) : kEv l G (d + 3) mX3_fillingByRow [.ref (kg_ad G (kbo 2)), .ref (kg_ad G (kbo o1)), .ref (kg_ad G (kbo 1)), .int a3, .int a4, .int a5] (kgl G n S) (some (.int res)) (kgl G n S) := by
  refine kEv_of RX3 [some (.ref (kg_ad G (kbo 2))), some (.ref (kg_ad G (kbo o1))), some (.ref (kg_ad G (kbo 1))), some (.int a3), some (.int a4), some (.int a5), none] rfl (by decide +kernel) rfl rfl rfl rfl (fun X hX => ?_)
  subst hX
  have hO_o1 := kOk_fm hG ho_o1
  have hc_o1 := kci_fm ho_o1
  unfold FX3_fillingByRow at h
  refine kV_aloadn 1 dX3_fillingByRow_0 rfl rfl ?_
  refine kV_iloadn 2 dX3_fillingByRow_1 rfl rfl ?_
  obtain ⟨x1, hx, h⟩ := kbi_ex h
  refine kC_V 5 [] [.int x1] dX3_fillingByRow_2 (okX4_lengthOf hG (d + 1)  hx) kmvX4_lengthOf (wi_r17 _ (List.mem_of_getElem? (i := 0) rfl)) (kOk_of hG rfl) rfl rfl rfl rfl rfl rfl ?_
  clear hx
  refine kV_iconst 6 dX3_fillingByRow_5 ic_1 rfl ?_
  refine kV_isub 7 dX3_fillingByRow_6 rfl ?_
  refine kV_istore 9 [some (.ref (kg_ad G (kbo 2))), some (.ref (kg_ad G (kbo o1))), some (.ref (kg_ad G (kbo 1))), some (.int a3), some (.int a4), some (.int a5), some (.int (x1 - (1 : Int32)))] dX3_fillingByRow_7 rfl rfl rfl ?_
  refine kV_drop [true, true, true, true, true, true, true] rfl ?_
  exact TX3_fillingByRow_L9 hG ho_o1 h
abbrev mX3_useRow : kM := (yX3_useRow, cX3_useRow, 10, none)
theorem kmvX3_useRow : kMv mX3_useRow 4 3 := ⟨⟨(wi_r17 _ (List.mem_of_getElem? (i := 23) rfl)), (wi_r2 _ (List.mem_of_getElem? (i := 2) rfl)), ⟨by decide +kernel, by decide +kernel, by decide +kernel⟩, by decide⟩, (wi_r17 _ (List.mem_of_getElem? (i := 21) rfl)), (wi_r17 _ (List.mem_of_getElem? (i := 22) rfl)), rfl⟩
def FX3_useRow_J171 (o1 : Nat) (c120 : kS × Int32 × Int32 × Int32 × Int32 → Option (kS)) (S : kS) (v3 : Int32) (v4 : Int32) (v5 : Int32) (v7 : Int32) (v9 : Int32) : Option (kS) :=
  kgd (kin ((v4 * (5 : Int32)) + v7) 45) <| kb (kA S 2 6 ((v4 * (5 : Int32)) + v7)) fun x1 => kgd (kin ((v4 * (5 : Int32)) + v7) 45) <| kb (kpA S 2 6 ((v4 * (5 : Int32)) + v7) (x1 ||| v9)) fun S1 => c120 (S1, v3, v4, v5, (v7 + (1 : Int32)))
def FX3_useRow_B120 (o1 : Nat) (c120 : kS × Int32 × Int32 × Int32 × Int32 → Option (kS)) (S : kS) (v3 : Int32) (v4 : Int32) (v5 : Int32) (v7 : Int32) : Option (kS) :=
  if (5 : Int32) ≤ v7 then (some S) else (kgd (kin ((v5 * (5 : Int32)) + v7) 45) <| kb (kA S 2 6 ((v5 * (5 : Int32)) + v7)) fun x1 => if (x1 &&& (16 : Int32)) = 0 then (FX3_useRow_J171 o1 c120 S v3 v4 v5 v7 (x1 &&& (15 : Int32))) else ((FX3_fillingByRow o1 S v3 v4 v7).bind fun x2 => FX3_useRow_J171 o1 c120 S v3 v4 v5 v7 ((x1 &&& (15 : Int32)) ||| x2)))
def FX3_useRow_L120 (o1 : Nat) (S : kS) (v3 : Int32) (v4 : Int32) (v5 : Int32) (v7 : Int32) : Option (kS) :=
  kfix (fun rec (q : kS × Int32 × Int32 × Int32 × Int32) => FX3_useRow_B120 o1 rec q.1 q.2.1 q.2.2.1 q.2.2.2.1 q.2.2.2.2) kfuel (S, v3, v4, v5, v7)
def FX3_useRow_J58 (o1 : Nat) (S : kS) (v3 : Int32) (v4 : Int32) (v5 : Int32) : Option (kS) :=
  kgd (kin v4 9) <| kb (kA S 2 3 v4) fun x1 => kgd (kin v5 9) <| kb (kA S 2 3 v5) fun x2 => kgd (kin v4 9) <| kb (kpA S 2 3 v4 (kmin (1000000 : Int32) (x1 + x2))) fun S1 => kgd (kin v4 9) <| kb (kA S1 2 4 v4) fun x3 => kgd (kin v5 9) <| kb (kA S1 2 4 v5) fun x4 => kgd (kin v4 9) <| kb (kpA S1 2 4 v4 (kmax x3 x4)) fun S2 => kgd (kin v4 9) <| kb (kpA S2 2 5 v4 ((1 : Int32) &&& 1)) fun S3 => FX3_useRow_L120 o1 S3 v3 v4 v5 (0 : Int32)
def FX3_useRow (o1 : Nat) (S : kS) (a3 : Int32) (a4 : Int32) : Option (kS) :=
  (FX4_lengthOf S a3).bind fun x1 => (FX4_costOf S a3).bind fun x2 => kgd (kin (a4 + x1) 9) <| kb (kA S 2 2 (a4 + x1)) fun x3 => kgd (kin a4 9) <| kb (kA S 2 2 a4) fun x4 => if (x2 + x3) ≤ x4 then (kgd (kin a4 9) <| kb (kA S 2 2 a4) fun x5 => if x5 ≤ (x2 + x3) then (FX3_useRow_J58 o1 S a3 a4 (a4 + x1)) else ((FX3_clearAt S a4 (x2 + x3)).bind fun S1 => FX3_useRow_J58 o1 S1 a3 a4 (a4 + x1))) else (some S)
theorem TX3_useRow_J171 {G : kG} {n : Nat} {d : Nat} {X : kX} (hG : kg_N G = 55 + 14 * n) {o1 : Nat} (ho_o1 : kfm n o1 = true) {c120 : kS × Int32 × Int32 × Int32 × Int32 → Option (kS)} {S : kS} (hc120 : ∀ (q : kS × Int32 × Int32 × Int32 × Int32) (res : kS), c120 q = some res → kV (X, RX3, 10, none, G, krm (d + 4), (0, 0), kQ X G none (kgl G n res)) cX3_useRow (kgl G n q.1) [some (.ref (kg_ad G (kbo 2))), some (.ref (kg_ad G (kbo o1))), some (.ref (kg_ad G (kbo 1))), some (.int (q.2.1)), some (.int (q.2.2.1)), some (.int (q.2.2.2.1)), none, some (.int (q.2.2.2.2)), none, none] [] 120) {v3 : Int32} {v4 : Int32} {v5 : Int32} {v7 : Int32} {v9 : Int32} {res : kS} (h : FX3_useRow_J171 o1 c120 S v3 v4 v5 v7 v9 = some res) : kV (X, RX3, 10, none, G, krm (d + 4), (0, 0), kQ X G none (kgl G n res)) cX3_useRow (kgl G n S) [some (.ref (kg_ad G (kbo 2))), some (.ref (kg_ad G (kbo o1))), some (.ref (kg_ad G (kbo 1))), some (.int v3), some (.int v4), some (.int v5), none, some (.int v7), none, some (.int v9)] [] 171 := by
  have hO_o1 := kOk_fm hG ho_o1
  have hc_o1 := kci_fm ho_o1
  unfold FX3_useRow_J171 at h
  refine kV_aloadn 172 dX3_useRow_171 rfl rfl ?_
  refine rg3_32 175 dX3_useRow_172 (kOk_of hG rfl) rfl rfl ?_
  refine kV_iload 177 dX3_useRow_175 rfl rfl ?_
  refine kV_iconst 178 dX3_useRow_177 ic_5 rfl ?_
  refine kV_imul 179 dX3_useRow_178 rfl ?_
  refine kV_iload 181 dX3_useRow_179 rfl rfl ?_
  refine kV_iadd 182 dX3_useRow_181 rfl ?_
  refine kV_dup2 183 dX3_useRow_182 rfl rfl rfl ?_
  obtain ⟨hi, h⟩ := kgd_ex h
  obtain ⟨x1, hx, h⟩ := kb_ex h
  refine rl3_6 184 dX3_useRow_183 (kOk_of hG rfl) rfl hi hx rfl ?_
  clear hi hx
  refine kV_iload 186 dX3_useRow_184 rfl rfl ?_
  refine kV_ior 187 dX3_useRow_186 rfl ?_
  obtain ⟨hi, h⟩ := kgd_ex h
  obtain ⟨S1, hx, h⟩ := kb_ex h
  refine rs3_6 188 dX3_useRow_187 (kOk_of hG rfl) rfl hi hx rfl ?_
  clear hi hx
  refine kV_iinc 191 [some (.ref (kg_ad G (kbo 2))), some (.ref (kg_ad G (kbo o1))), some (.ref (kg_ad G (kbo 1))), some (.int v3), some (.int v4), some (.int v5), none, some (.int (v7 + (1 : Int32))), none, some (.int v9)] dX3_useRow_188 rfl (kinc_1 _) rfl rfl rfl ?_
  refine kV_goto 120 dX3_useRow_191 (by decide) ?_
  refine kV_drop [true, true, true, true, true, true, false, true, false, false] rfl ?_
  exact hc120 _ _ h
theorem TX3_useRow_B120 {G : kG} {n : Nat} {d : Nat} {X : kX} (hG : kg_N G = 55 + 14 * n) {o1 : Nat} (ho_o1 : kfm n o1 = true) {c120 : kS × Int32 × Int32 × Int32 × Int32 → Option (kS)} (hc120 : ∀ (q : kS × Int32 × Int32 × Int32 × Int32) (res : kS), c120 q = some res → kV (X, RX3, 10, none, G, krm (d + 4), (0, 0), kQ X G none (kgl G n res)) cX3_useRow (kgl G n q.1) [some (.ref (kg_ad G (kbo 2))), some (.ref (kg_ad G (kbo o1))), some (.ref (kg_ad G (kbo 1))), some (.int (q.2.1)), some (.int (q.2.2.1)), some (.int (q.2.2.2.1)), none, some (.int (q.2.2.2.2)), none, none] [] 120) {S : kS} {v3 : Int32} {v4 : Int32} {v5 : Int32} {v7 : Int32} {res : kS} (h : FX3_useRow_B120 o1 c120 S v3 v4 v5 v7 = some res) : kV (X, RX3, 10, none, G, krm (d + 4), (0, 0), kQ X G none (kgl G n res)) cX3_useRow (kgl G n S) [some (.ref (kg_ad G (kbo 2))), some (.ref (kg_ad G (kbo o1))), some (.ref (kg_ad G (kbo 1))), some (.int v3), some (.int v4), some (.int v5), none, some (.int v7), none, none] [] 120 := by
  have hO_o1 := kOk_fm hG ho_o1
  have hc_o1 := kci_fm ho_o1
  unfold FX3_useRow_B120 at h
  refine kV_iload 122 dX3_useRow_120 rfl rfl ?_
  refine kV_iconst 123 dX3_useRow_122 ic_5 rfl ?_
  rcases kif_ex h with ⟨hc, h⟩ | ⟨hc, h⟩
  · refine kV_icmp_ge_t 194 dX3_useRow_123 (by decide) hc ?_
    clear hc
    cases h
    exact kV_vret dX3_useRow_194
  · refine kV_icmp_ge_f 194 126 dX3_useRow_123 (by decide) hc rfl ?_
    clear hc
    refine kV_aloadn 127 dX3_useRow_126 rfl rfl ?_
    refine rg3_32 130 dX3_useRow_127 (kOk_of hG rfl) rfl rfl ?_
    refine kV_iload 132 dX3_useRow_130 rfl rfl ?_
    refine kV_iconst 133 dX3_useRow_132 ic_5 rfl ?_
    refine kV_imul 134 dX3_useRow_133 rfl ?_
    refine kV_iload 136 dX3_useRow_134 rfl rfl ?_
    refine kV_iadd 137 dX3_useRow_136 rfl ?_
    obtain ⟨hi, h⟩ := kgd_ex h
    obtain ⟨x1, hx, h⟩ := kb_ex h
    refine rl3_6 138 dX3_useRow_137 (kOk_of hG rfl) rfl hi hx rfl ?_
    clear hi hx
    refine kV_istore 140 [some (.ref (kg_ad G (kbo 2))), some (.ref (kg_ad G (kbo o1))), some (.ref (kg_ad G (kbo 1))), some (.int v3), some (.int v4), some (.int v5), none, some (.int v7), some (.int x1), none] dX3_useRow_138 rfl rfl rfl ?_
    refine kV_iload 142 dX3_useRow_140 rfl rfl ?_
    refine kV_bipush 144 dX3_useRow_142 bp_15 rfl ?_
    refine kV_iand 145 dX3_useRow_144 rfl ?_
    refine kV_istore 147 [some (.ref (kg_ad G (kbo 2))), some (.ref (kg_ad G (kbo o1))), some (.ref (kg_ad G (kbo 1))), some (.int v3), some (.int v4), some (.int v5), none, some (.int v7), some (.int x1), some (.int (x1 &&& (15 : Int32)))] dX3_useRow_145 rfl rfl rfl ?_
    refine kV_iload 149 dX3_useRow_147 rfl rfl ?_
    refine kV_bipush 151 dX3_useRow_149 bp_16 rfl ?_
    refine kV_iand 152 dX3_useRow_151 rfl ?_
    rcases kif_ex h with ⟨hc, h⟩ | ⟨hc, h⟩
    · refine kV_if_eq_t 171 dX3_useRow_152 (by decide) hc ?_
      clear hc
      refine kV_drop [true, true, true, true, true, true, false, true, false, true] rfl ?_
      exact TX3_useRow_J171 hG ho_o1 hc120 h
    · refine kV_if_eq_f 171 155 dX3_useRow_152 (by decide) hc rfl ?_
      clear hc
      refine kV_iload 157 dX3_useRow_155 rfl rfl ?_
      refine kV_aloadn 158 dX3_useRow_157 rfl rfl ?_
      refine kV_aloadn 159 dX3_useRow_158 rfl rfl ?_
      refine kV_aloadn 160 dX3_useRow_159 rfl rfl ?_
      refine kV_iloadn 161 dX3_useRow_160 rfl rfl ?_
      refine kV_iload 163 dX3_useRow_161 rfl rfl ?_
      refine kV_iload 165 dX3_useRow_163 rfl rfl ?_
      obtain ⟨x2, hx, h⟩ := kbi_ex h
      refine kC_V 168 [.int (x1 &&& (15 : Int32))] [.int x2, .int (x1 &&& (15 : Int32))] dX3_useRow_165 (okX3_fillingByRow hG d ho_o1 hx) kmvX3_fillingByRow (wi_r18 _ (List.mem_of_getElem? (i := 12) rfl)) (kOk_of hG rfl) rfl rfl rfl rfl rfl rfl ?_
      clear hx
      refine kV_ior 169 dX3_useRow_168 rfl ?_
      refine kV_istore 171 [some (.ref (kg_ad G (kbo 2))), some (.ref (kg_ad G (kbo o1))), some (.ref (kg_ad G (kbo 1))), some (.int v3), some (.int v4), some (.int v5), none, some (.int v7), some (.int x1), some (.int ((x1 &&& (15 : Int32)) ||| x2))] dX3_useRow_169 rfl rfl rfl ?_
      refine kV_drop [true, true, true, true, true, true, false, true, false, true] rfl ?_
      exact TX3_useRow_J171 hG ho_o1 hc120 h
theorem TX3_useRow_L120 {G : kG} {n : Nat} {d : Nat} {X : kX} (hG : kg_N G = 55 + 14 * n) {o1 : Nat} (ho_o1 : kfm n o1 = true) {S : kS} {v3 : Int32} {v4 : Int32} {v5 : Int32} {v7 : Int32} {res : kS} (h : FX3_useRow_L120 o1 S v3 v4 v5 v7 = some res) : kV (X, RX3, 10, none, G, krm (d + 4), (0, 0), kQ X G none (kgl G n res)) cX3_useRow (kgl G n S) [some (.ref (kg_ad G (kbo 2))), some (.ref (kg_ad G (kbo o1))), some (.ref (kg_ad G (kbo 1))), some (.int v3), some (.int v4), some (.int v5), none, some (.int v7), none, none] [] 120 := by
  unfold FX3_useRow_L120 at h
  exact kfix_ok (P := fun (q : kS × Int32 × Int32 × Int32 × Int32) (res : kS) => kV (X, RX3, 10, none, G, krm (d + 4), (0, 0), kQ X G none (kgl G n res)) cX3_useRow (kgl G n q.1) [some (.ref (kg_ad G (kbo 2))), some (.ref (kg_ad G (kbo o1))), some (.ref (kg_ad G (kbo 1))), some (.int (q.2.1)), some (.int (q.2.2.1)), some (.int (q.2.2.2.1)), none, some (.int (q.2.2.2.2)), none, none] [] 120) (fun rec hrec q res hq => TX3_useRow_B120 hG ho_o1 hrec hq) kfuel _ _ h
theorem TX3_useRow_J58 {G : kG} {n : Nat} {d : Nat} {X : kX} (hG : kg_N G = 55 + 14 * n) {o1 : Nat} (ho_o1 : kfm n o1 = true) {S : kS} {v3 : Int32} {v4 : Int32} {v5 : Int32} {res : kS} (h : FX3_useRow_J58 o1 S v3 v4 v5 = some res) : kV (X, RX3, 10, none, G, krm (d + 4), (0, 0), kQ X G none (kgl G n res)) cX3_useRow (kgl G n S) [some (.ref (kg_ad G (kbo 2))), some (.ref (kg_ad G (kbo o1))), some (.ref (kg_ad G (kbo 1))), some (.int v3), some (.int v4), some (.int v5), none, none, none, none] [] 58 := by
  have hO_o1 := kOk_fm hG ho_o1
  have hc_o1 := kci_fm ho_o1
  unfold FX3_useRow_J58 at h
  refine kV_aloadn 59 dX3_useRow_58 rfl rfl ?_
  refine rg3_22 62 dX3_useRow_59 (kOk_of hG rfl) rfl rfl ?_
  refine kV_iload 64 dX3_useRow_62 rfl rfl ?_
  refine kV_ldc 66 dX3_useRow_64 (wi_r18 _ (List.mem_of_getElem? (i := 0) rfl)) rfl ?_
  refine kV_aloadn 67 dX3_useRow_66 rfl rfl ?_
  refine rg3_22 70 dX3_useRow_67 (kOk_of hG rfl) rfl rfl ?_
  refine kV_iload 72 dX3_useRow_70 rfl rfl ?_
  obtain ⟨hi, h⟩ := kgd_ex h
  obtain ⟨x1, hx, h⟩ := kb_ex h
  refine rl3_3 73 dX3_useRow_72 (kOk_of hG rfl) rfl hi hx rfl ?_
  clear hi hx
  refine kV_aloadn 74 dX3_useRow_73 rfl rfl ?_
  refine rg3_22 77 dX3_useRow_74 (kOk_of hG rfl) rfl rfl ?_
  refine kV_iload 79 dX3_useRow_77 rfl rfl ?_
  obtain ⟨hi, h⟩ := kgd_ex h
  obtain ⟨x2, hx, h⟩ := kb_ex h
  refine rl3_3 80 dX3_useRow_79 (kOk_of hG rfl) rfl hi hx rfl ?_
  clear hi hx
  refine kV_iadd 81 dX3_useRow_80 rfl ?_
  refine kC_min 84 dX3_useRow_81 (wi_r15 _ (List.mem_of_getElem? (i := 23) rfl)) rfl rfl ?_
  obtain ⟨hi, h⟩ := kgd_ex h
  obtain ⟨S1, hx, h⟩ := kb_ex h
  refine rs3_3 85 dX3_useRow_84 (kOk_of hG rfl) rfl hi hx rfl ?_
  clear hi hx
  refine kV_aloadn 86 dX3_useRow_85 rfl rfl ?_
  refine rg3_25 89 dX3_useRow_86 (kOk_of hG rfl) rfl rfl ?_
  refine kV_iload 91 dX3_useRow_89 rfl rfl ?_
  refine kV_aloadn 92 dX3_useRow_91 rfl rfl ?_
  refine rg3_25 95 dX3_useRow_92 (kOk_of hG rfl) rfl rfl ?_
  refine kV_iload 97 dX3_useRow_95 rfl rfl ?_
  obtain ⟨hi, h⟩ := kgd_ex h
  obtain ⟨x3, hx, h⟩ := kb_ex h
  refine rl3_4 98 dX3_useRow_97 (kOk_of hG rfl) rfl hi hx rfl ?_
  clear hi hx
  refine kV_aloadn 99 dX3_useRow_98 rfl rfl ?_
  refine rg3_25 102 dX3_useRow_99 (kOk_of hG rfl) rfl rfl ?_
  refine kV_iload 104 dX3_useRow_102 rfl rfl ?_
  obtain ⟨hi, h⟩ := kgd_ex h
  obtain ⟨x4, hx, h⟩ := kb_ex h
  refine rl3_4 105 dX3_useRow_104 (kOk_of hG rfl) rfl hi hx rfl ?_
  clear hi hx
  refine kC_max 108 dX3_useRow_105 (wi_r18 _ (List.mem_of_getElem? (i := 1) rfl)) rfl rfl ?_
  obtain ⟨hi, h⟩ := kgd_ex h
  obtain ⟨S2, hx, h⟩ := kb_ex h
  refine rs3_4 109 dX3_useRow_108 (kOk_of hG rfl) rfl hi hx rfl ?_
  clear hi hx
  refine kV_aloadn 110 dX3_useRow_109 rfl rfl ?_
  refine rg3_28 113 dX3_useRow_110 (kOk_of hG rfl) rfl rfl ?_
  refine kV_iload 115 dX3_useRow_113 rfl rfl ?_
  refine kV_iconst 116 dX3_useRow_115 ic_1 rfl ?_
  obtain ⟨hi, h⟩ := kgd_ex h
  obtain ⟨S3, hx, h⟩ := kb_ex h
  refine rs3_5 117 dX3_useRow_116 (kOk_of hG rfl) rfl hi hx rfl ?_
  clear hi hx
  refine kV_iconst 118 dX3_useRow_117 ic_0 rfl ?_
  refine kV_istore 120 [some (.ref (kg_ad G (kbo 2))), some (.ref (kg_ad G (kbo o1))), some (.ref (kg_ad G (kbo 1))), some (.int v3), some (.int v4), some (.int v5), none, some (.int (0 : Int32)), none, none] dX3_useRow_118 rfl rfl rfl ?_
  refine kV_drop [true, true, true, true, true, true, false, true, false, false] rfl ?_
  exact TX3_useRow_L120 hG ho_o1 h
theorem okX3_useRow {l : Launch} {G : kG} {n : Nat} (hG : kg_N G = 55 + 14 * n) (d : Nat) {o1 : Nat} (ho_o1 : kfm n o1 = true) {S : kS} {a3 : Int32} {a4 : Int32} {res : kS} (h : FX3_useRow o1 S a3 a4 = some res) : kEv l G (d + 4) mX3_useRow [.ref (kg_ad G (kbo 2)), .ref (kg_ad G (kbo o1)), .ref (kg_ad G (kbo 1)), .int a3, .int a4] (kgl G n S) none (kgl G n res) := by
  refine kEv_of RX3 [some (.ref (kg_ad G (kbo 2))), some (.ref (kg_ad G (kbo o1))), some (.ref (kg_ad G (kbo 1))), some (.int a3), some (.int a4), none, none, none, none, none] rfl (by decide +kernel) rfl rfl rfl rfl (fun X hX => ?_)
  subst hX
  have hO_o1 := kOk_fm hG ho_o1
  have hc_o1 := kci_fm ho_o1
  unfold FX3_useRow at h
  refine kV_iload 2 dX3_useRow_0 rfl rfl ?_
  refine kV_aloadn 3 dX3_useRow_2 rfl rfl ?_
  refine kV_iloadn 4 dX3_useRow_3 rfl rfl ?_
  obtain ⟨x1, hx, h⟩ := kbi_ex h
  refine kC_V 7 [.int a4] [.int x1, .int a4] dX3_useRow_4 (okX4_lengthOf hG (d + 2)  hx) kmvX4_lengthOf (wi_r17 _ (List.mem_of_getElem? (i := 0) rfl)) (kOk_of hG rfl) rfl rfl rfl rfl rfl rfl ?_
  clear hx
  refine kV_iadd 8 dX3_useRow_7 rfl ?_
  refine kV_istore 10 [some (.ref (kg_ad G (kbo 2))), some (.ref (kg_ad G (kbo o1))), some (.ref (kg_ad G (kbo 1))), some (.int a3), some (.int a4), some (.int (a4 + x1)), none, none, none, none] dX3_useRow_8 rfl rfl rfl ?_
  refine kV_aloadn 11 dX3_useRow_10 rfl rfl ?_
  refine kV_iloadn 12 dX3_useRow_11 rfl rfl ?_
  obtain ⟨x2, hx, h⟩ := kbi_ex h
  refine kC_V 15 [] [.int x2] dX3_useRow_12 (okX4_costOf hG (d + 2)  hx) kmvX4_costOf (wi_r18 _ (List.mem_of_getElem? (i := 4) rfl)) (kOk_of hG rfl) rfl rfl rfl rfl rfl rfl ?_
  clear hx
  refine kV_aloadn 16 dX3_useRow_15 rfl rfl ?_
  refine rg3_19 19 dX3_useRow_16 (kOk_of hG rfl) rfl rfl ?_
  refine kV_iload 21 dX3_useRow_19 rfl rfl ?_
  obtain ⟨hi, h⟩ := kgd_ex h
  obtain ⟨x3, hx, h⟩ := kb_ex h
  refine rl3_2 22 dX3_useRow_21 (kOk_of hG rfl) rfl hi hx rfl ?_
  clear hi hx
  refine kV_iadd 23 dX3_useRow_22 rfl ?_
  refine kV_istore 25 [some (.ref (kg_ad G (kbo 2))), some (.ref (kg_ad G (kbo o1))), some (.ref (kg_ad G (kbo 1))), some (.int a3), some (.int a4), some (.int (a4 + x1)), some (.int (x2 + x3)), none, none, none] dX3_useRow_23 rfl rfl rfl ?_
  refine kV_iload 27 dX3_useRow_25 rfl rfl ?_
  refine kV_aloadn 28 dX3_useRow_27 rfl rfl ?_
  refine rg3_19 31 dX3_useRow_28 (kOk_of hG rfl) rfl rfl ?_
  refine kV_iload 33 dX3_useRow_31 rfl rfl ?_
  obtain ⟨hi, h⟩ := kgd_ex h
  obtain ⟨x4, hx, h⟩ := kb_ex h
  refine rl3_2 34 dX3_useRow_33 (kOk_of hG rfl) rfl hi hx rfl ?_
  clear hi hx
  rcases kif_ex h with ⟨hc, h⟩ | ⟨hc, h⟩
  · refine kV_icmp_le_t 38 dX3_useRow_34 (by decide) hc ?_
    clear hc
    refine kV_iload 40 dX3_useRow_38 rfl rfl ?_
    refine kV_aloadn 41 dX3_useRow_40 rfl rfl ?_
    refine rg3_19 44 dX3_useRow_41 (kOk_of hG rfl) rfl rfl ?_
    refine kV_iload 46 dX3_useRow_44 rfl rfl ?_
    obtain ⟨hi, h⟩ := kgd_ex h
    obtain ⟨x5, hx, h⟩ := kb_ex h
    refine rl3_2 47 dX3_useRow_46 (kOk_of hG rfl) rfl hi hx rfl ?_
    clear hi hx
    rcases kif_ex h with ⟨hc, h⟩ | ⟨hc, h⟩
    · refine kV_icmp_ge_t 58 dX3_useRow_47 (by decide) hc ?_
      clear hc
      refine kV_drop [true, true, true, true, true, true, false, false, false, false] rfl ?_
      exact TX3_useRow_J58 hG ho_o1 h
    · refine kV_icmp_ge_f 58 50 dX3_useRow_47 (by decide) hc rfl ?_
      clear hc
      refine kV_aloadn 51 dX3_useRow_50 rfl rfl ?_
      refine kV_iload 53 dX3_useRow_51 rfl rfl ?_
      refine kV_iload 55 dX3_useRow_53 rfl rfl ?_
      obtain ⟨S1, hx, h⟩ := kbi_ex h
      refine kC_V 58 [] [] dX3_useRow_55 (okX3_clearAt hG (d + 3)  hx) kmvX3_clearAt (wi_r18 _ (List.mem_of_getElem? (i := 8) rfl)) (kOk_of hG rfl) rfl rfl rfl rfl rfl rfl ?_
      clear hx
      refine kV_drop [true, true, true, true, true, true, false, false, false, false] rfl ?_
      exact TX3_useRow_J58 hG ho_o1 h
  · refine kV_icmp_le_f 38 37 dX3_useRow_34 (by decide) hc rfl ?_
    clear hc
    cases h
    exact kV_vret dX3_useRow_37
abbrev mX3_read : kM := (yX3_read, cX3_read, 8, none)
theorem kmvX3_read : kMv mX3_read 5 3 := ⟨⟨(wi_r15 _ (List.mem_of_getElem? (i := 22) rfl)), (wi_r2 _ (List.mem_of_getElem? (i := 2) rfl)), ⟨by decide +kernel, by decide +kernel, by decide +kernel⟩, by decide⟩, (wi_r15 _ (List.mem_of_getElem? (i := 20) rfl)), (wi_r15 _ (List.mem_of_getElem? (i := 21) rfl)), rfl⟩
def FX3_read_J115 (o1 : Nat) (c59 : kS × Int32 × Int32 → Option (kS)) (c73 : kS × Int32 × Int32 × Int32 → Option (kS)) (S : kS) (v2 : Int32) (v6 : Int32) (v7 : Int32) : Option (kS) :=
  c73 (S, v2, v6, (v7 + (1 : Int32)))
def FX3_read_B73 (o1 : Nat) (c59 : kS × Int32 × Int32 → Option (kS)) (c73 : kS × Int32 × Int32 × Int32 → Option (kS)) (S : kS) (v2 : Int32) (v6 : Int32) (v7 : Int32) : Option (kS) :=
  (FX4_rowCount S).bind fun x1 => if x1 ≤ v7 then (c59 (S, v2, (v6 + (-1 : Int32)))) else ((FX4_isOfForm S v7 v2).bind fun x2 => if x2 = 0 then (FX3_read_J115 o1 c59 c73 S v2 v6 v7) else ((FX3_fits o1 S v7 v6).bind fun x3 => if x3 = 0 then (FX3_read_J115 o1 c59 c73 S v2 v6 v7) else ((FX3_useRow o1 S v7 v6).bind fun S1 => FX3_read_J115 o1 c59 c73 S1 v2 v6 v7)))
def FX3_read_L73 (o1 : Nat) (c59 : kS × Int32 × Int32 → Option (kS)) (S : kS) (v2 : Int32) (v6 : Int32) (v7 : Int32) : Option (kS) :=
  kfix (fun rec (q : kS × Int32 × Int32 × Int32) => FX3_read_B73 o1 c59 rec q.1 q.2.1 q.2.2.1 q.2.2.2) kfuel (S, v2, v6, v7)
def FX3_read_B59 (o1 : Nat) (c59 : kS × Int32 × Int32 → Option (kS)) (S : kS) (v2 : Int32) (v6 : Int32) : Option (kS) :=
  if v6 < 0 then ((FX3_commonAnswer o1 S v2).bind fun x1 => kb (kpI S 2 7 x1) fun S1 => some S1) else ((FX3_passWord S v6).bind fun S2 => FX3_read_L73 o1 c59 S2 v2 v6 (0 : Int32))
def FX3_read_L59 (o1 : Nat) (S : kS) (v2 : Int32) (v6 : Int32) : Option (kS) :=
  kfix (fun rec (q : kS × Int32 × Int32) => FX3_read_B59 o1 rec q.1 q.2.1 q.2.2) kfuel (S, v2, v6)
def FX3_read_B20 (o1 : Nat) (c20 : kS × Int32 × Int32 → Option (kS)) (S : kS) (v2 : Int32) (v6 : Int32) : Option (kS) :=
  kb (kI S 2 1) fun x1 => if x1 ≤ v6 then ((FX3_startAtEnd S).bind fun S1 => kb (kI S1 2 1) fun x2 => FX3_read_L59 o1 S1 v2 (x2 - (1 : Int32))) else (kgd (kin v6 8) <| kb (kA S 0 5 v6) fun x3 => kgd (kin v6 8) <| kb (kpA S 2 0 v6 x3) fun S2 => c20 (S2, v2, (v6 + (1 : Int32))))
def FX3_read_L20 (o1 : Nat) (S : kS) (v2 : Int32) (v6 : Int32) : Option (kS) :=
  kfix (fun rec (q : kS × Int32 × Int32) => FX3_read_B20 o1 rec q.1 q.2.1 q.2.2) kfuel (S, v2, v6)
def FX3_read (o1 : Nat) (S : kS) (a2 : Int32) (a5 : Int32) : Option (kS) :=
  kb (kpI S 2 1 (kmin a5 (kmin (8 : Int32) (8 : Int32)))) fun S1 => FX3_read_L20 o1 S1 a2 (0 : Int32)
theorem TX3_read_J115 {G : kG} {n : Nat} {d : Nat} {X : kX} (hG : kg_N G = 55 + 14 * n) {o1 : Nat} (ho_o1 : kfm n o1 = true) {c59 : kS × Int32 × Int32 → Option (kS)} {c73 : kS × Int32 × Int32 × Int32 → Option (kS)} {S : kS} (hc59 : ∀ (q : kS × Int32 × Int32) (res : kS), c59 q = some res → kV (X, RX3, 8, none, G, krm (d + 5), (0, 0), kQ X G none (kgl G n res)) cX3_read (kgl G n q.1) [some (.ref (kg_ad G (kbo 2))), some (.ref (kg_ad G (kbo o1))), some (.int (q.2.1)), some (.ref (kg_ad G (kbo 1))), none, none, some (.int (q.2.2)), none] [] 59) (hc73 : ∀ (q : kS × Int32 × Int32 × Int32) (res : kS), c73 q = some res → kV (X, RX3, 8, none, G, krm (d + 5), (0, 0), kQ X G none (kgl G n res)) cX3_read (kgl G n q.1) [some (.ref (kg_ad G (kbo 2))), some (.ref (kg_ad G (kbo o1))), some (.int (q.2.1)), some (.ref (kg_ad G (kbo 1))), none, none, some (.int (q.2.2.1)), some (.int (q.2.2.2))] [] 73) {v2 : Int32} {v6 : Int32} {v7 : Int32} {res : kS} (h : FX3_read_J115 o1 c59 c73 S v2 v6 v7 = some res) : kV (X, RX3, 8, none, G, krm (d + 5), (0, 0), kQ X G none (kgl G n res)) cX3_read (kgl G n S) [some (.ref (kg_ad G (kbo 2))), some (.ref (kg_ad G (kbo o1))), some (.int v2), some (.ref (kg_ad G (kbo 1))), none, none, some (.int v6), some (.int v7)] [] 115 := by
  have hO_o1 := kOk_fm hG ho_o1
  have hc_o1 := kci_fm ho_o1
  unfold FX3_read_J115 at h
  refine kV_iinc 118 [some (.ref (kg_ad G (kbo 2))), some (.ref (kg_ad G (kbo o1))), some (.int v2), some (.ref (kg_ad G (kbo 1))), none, none, some (.int v6), some (.int (v7 + (1 : Int32)))] dX3_read_115 rfl (kinc_1 _) rfl rfl rfl ?_
  refine kV_goto 73 dX3_read_118 (by decide) ?_
  refine kV_drop [true, true, true, true, false, false, true, true] rfl ?_
  exact hc73 _ _ h
theorem TX3_read_B73 {G : kG} {n : Nat} {d : Nat} {X : kX} (hG : kg_N G = 55 + 14 * n) {o1 : Nat} (ho_o1 : kfm n o1 = true) {c59 : kS × Int32 × Int32 → Option (kS)} (hc59 : ∀ (q : kS × Int32 × Int32) (res : kS), c59 q = some res → kV (X, RX3, 8, none, G, krm (d + 5), (0, 0), kQ X G none (kgl G n res)) cX3_read (kgl G n q.1) [some (.ref (kg_ad G (kbo 2))), some (.ref (kg_ad G (kbo o1))), some (.int (q.2.1)), some (.ref (kg_ad G (kbo 1))), none, none, some (.int (q.2.2)), none] [] 59) {c73 : kS × Int32 × Int32 × Int32 → Option (kS)} (hc73 : ∀ (q : kS × Int32 × Int32 × Int32) (res : kS), c73 q = some res → kV (X, RX3, 8, none, G, krm (d + 5), (0, 0), kQ X G none (kgl G n res)) cX3_read (kgl G n q.1) [some (.ref (kg_ad G (kbo 2))), some (.ref (kg_ad G (kbo o1))), some (.int (q.2.1)), some (.ref (kg_ad G (kbo 1))), none, none, some (.int (q.2.2.1)), some (.int (q.2.2.2))] [] 73) {S : kS} {v2 : Int32} {v6 : Int32} {v7 : Int32} {res : kS} (h : FX3_read_B73 o1 c59 c73 S v2 v6 v7 = some res) : kV (X, RX3, 8, none, G, krm (d + 5), (0, 0), kQ X G none (kgl G n res)) cX3_read (kgl G n S) [some (.ref (kg_ad G (kbo 2))), some (.ref (kg_ad G (kbo o1))), some (.int v2), some (.ref (kg_ad G (kbo 1))), none, none, some (.int v6), some (.int v7)] [] 73 := by
  have hO_o1 := kOk_fm hG ho_o1
  have hc_o1 := kci_fm ho_o1
  unfold FX3_read_B73 at h
  refine kV_iload 75 dX3_read_73 rfl rfl ?_
  refine kV_aloadn 76 dX3_read_75 rfl rfl ?_
  obtain ⟨x1, hx, h⟩ := kbi_ex h
  refine kC_V 79 [.int v7] [.int x1, .int v7] dX3_read_76 (okX4_rowCount hG (d + 4)  hx) kmvX4_rowCount (wi_r16 _ (List.mem_of_getElem? (i := 8) rfl)) (kOk_of hG rfl) rfl rfl rfl rfl rfl rfl ?_
  clear hx
  rcases kif_ex h with ⟨hc, h⟩ | ⟨hc, h⟩
  · refine kV_icmp_ge_t 121 dX3_read_79 (by decide) hc ?_
    clear hc
    refine kV_iinc 124 [some (.ref (kg_ad G (kbo 2))), some (.ref (kg_ad G (kbo o1))), some (.int v2), some (.ref (kg_ad G (kbo 1))), none, none, some (.int (v6 + (-1 : Int32))), some (.int v7)] dX3_read_121 rfl (kinc_m1 _) rfl rfl rfl ?_
    refine kV_goto 59 dX3_read_124 (by decide) ?_
    refine kV_drop [true, true, true, true, false, false, true, false] rfl ?_
    exact hc59 _ _ h
  · refine kV_icmp_ge_f 121 82 dX3_read_79 (by decide) hc rfl ?_
    clear hc
    refine kV_aloadn 83 dX3_read_82 rfl rfl ?_
    refine kV_iload 85 dX3_read_83 rfl rfl ?_
    refine kV_iloadn 86 dX3_read_85 rfl rfl ?_
    obtain ⟨x2, hx, h⟩ := kbi_ex h
    refine kC_V 89 [] [.int x2] dX3_read_86 (okX4_isOfForm hG (d + 3)  hx) kmvX4_isOfForm (wi_r16 _ (List.mem_of_getElem? (i := 12) rfl)) (kOk_of hG rfl) rfl rfl rfl rfl rfl rfl ?_
    clear hx
    rcases kif_ex h with ⟨hc, h⟩ | ⟨hc, h⟩
    · refine kV_if_eq_t 115 dX3_read_89 (by decide) hc ?_
      clear hc
      refine kV_drop [true, true, true, true, false, false, true, true] rfl ?_
      exact TX3_read_J115 hG ho_o1 hc59 hc73 h
    · refine kV_if_eq_f 115 92 dX3_read_89 (by decide) hc rfl ?_
      clear hc
      refine kV_aloadn 93 dX3_read_92 rfl rfl ?_
      refine kV_aloadn 94 dX3_read_93 rfl rfl ?_
      refine kV_aloadn 95 dX3_read_94 rfl rfl ?_
      refine kV_iload 97 dX3_read_95 rfl rfl ?_
      refine kV_iload 99 dX3_read_97 rfl rfl ?_
      obtain ⟨x3, hx, h⟩ := kbi_ex h
      refine kC_V 102 [] [.int x3] dX3_read_99 (okX3_fits hG (d + 1) ho_o1 hx) kmvX3_fits (wi_r16 _ (List.mem_of_getElem? (i := 20) rfl)) (kOk_of hG rfl) rfl rfl rfl rfl rfl rfl ?_
      clear hx
      rcases kif_ex h with ⟨hc, h⟩ | ⟨hc, h⟩
      · refine kV_if_eq_t 115 dX3_read_102 (by decide) hc ?_
        clear hc
        refine kV_drop [true, true, true, true, false, false, true, true] rfl ?_
        exact TX3_read_J115 hG ho_o1 hc59 hc73 h
      · refine kV_if_eq_f 115 105 dX3_read_102 (by decide) hc rfl ?_
        clear hc
        refine kV_aloadn 106 dX3_read_105 rfl rfl ?_
        refine kV_aloadn 107 dX3_read_106 rfl rfl ?_
        refine kV_aloadn 108 dX3_read_107 rfl rfl ?_
        refine kV_iload 110 dX3_read_108 rfl rfl ?_
        refine kV_iload 112 dX3_read_110 rfl rfl ?_
        obtain ⟨S1, hx, h⟩ := kbi_ex h
        refine kC_V 115 [] [] dX3_read_112 (okX3_useRow hG d ho_o1 hx) kmvX3_useRow (wi_r17 _ (List.mem_of_getElem? (i := 20) rfl)) (kOk_of hG rfl) rfl rfl rfl rfl rfl rfl ?_
        clear hx
        refine kV_drop [true, true, true, true, false, false, true, true] rfl ?_
        exact TX3_read_J115 hG ho_o1 hc59 hc73 h
theorem TX3_read_L73 {G : kG} {n : Nat} {d : Nat} {X : kX} (hG : kg_N G = 55 + 14 * n) {o1 : Nat} (ho_o1 : kfm n o1 = true) {c59 : kS × Int32 × Int32 → Option (kS)} {S : kS} (hc59 : ∀ (q : kS × Int32 × Int32) (res : kS), c59 q = some res → kV (X, RX3, 8, none, G, krm (d + 5), (0, 0), kQ X G none (kgl G n res)) cX3_read (kgl G n q.1) [some (.ref (kg_ad G (kbo 2))), some (.ref (kg_ad G (kbo o1))), some (.int (q.2.1)), some (.ref (kg_ad G (kbo 1))), none, none, some (.int (q.2.2)), none] [] 59) {v2 : Int32} {v6 : Int32} {v7 : Int32} {res : kS} (h : FX3_read_L73 o1 c59 S v2 v6 v7 = some res) : kV (X, RX3, 8, none, G, krm (d + 5), (0, 0), kQ X G none (kgl G n res)) cX3_read (kgl G n S) [some (.ref (kg_ad G (kbo 2))), some (.ref (kg_ad G (kbo o1))), some (.int v2), some (.ref (kg_ad G (kbo 1))), none, none, some (.int v6), some (.int v7)] [] 73 := by
  unfold FX3_read_L73 at h
  exact kfix_ok (P := fun (q : kS × Int32 × Int32 × Int32) (res : kS) => kV (X, RX3, 8, none, G, krm (d + 5), (0, 0), kQ X G none (kgl G n res)) cX3_read (kgl G n q.1) [some (.ref (kg_ad G (kbo 2))), some (.ref (kg_ad G (kbo o1))), some (.int (q.2.1)), some (.ref (kg_ad G (kbo 1))), none, none, some (.int (q.2.2.1)), some (.int (q.2.2.2))] [] 73) (fun rec hrec q res hq => TX3_read_B73 hG ho_o1 hc59 hrec hq) kfuel _ _ h
theorem TX3_read_B59 {G : kG} {n : Nat} {d : Nat} {X : kX} (hG : kg_N G = 55 + 14 * n) {o1 : Nat} (ho_o1 : kfm n o1 = true) {c59 : kS × Int32 × Int32 → Option (kS)} (hc59 : ∀ (q : kS × Int32 × Int32) (res : kS), c59 q = some res → kV (X, RX3, 8, none, G, krm (d + 5), (0, 0), kQ X G none (kgl G n res)) cX3_read (kgl G n q.1) [some (.ref (kg_ad G (kbo 2))), some (.ref (kg_ad G (kbo o1))), some (.int (q.2.1)), some (.ref (kg_ad G (kbo 1))), none, none, some (.int (q.2.2)), none] [] 59) {S : kS} {v2 : Int32} {v6 : Int32} {res : kS} (h : FX3_read_B59 o1 c59 S v2 v6 = some res) : kV (X, RX3, 8, none, G, krm (d + 5), (0, 0), kQ X G none (kgl G n res)) cX3_read (kgl G n S) [some (.ref (kg_ad G (kbo 2))), some (.ref (kg_ad G (kbo o1))), some (.int v2), some (.ref (kg_ad G (kbo 1))), none, none, some (.int v6), none] [] 59 := by
  have hO_o1 := kOk_fm hG ho_o1
  have hc_o1 := kci_fm ho_o1
  unfold FX3_read_B59 at h
  refine kV_iload 61 dX3_read_59 rfl rfl ?_
  rcases kif_ex h with ⟨hc, h⟩ | ⟨hc, h⟩
  · refine kV_if_lt_t 127 dX3_read_61 (by decide) hc ?_
    clear hc
    refine kV_aloadn 128 dX3_read_127 rfl rfl ?_
    refine kV_aloadn 129 dX3_read_128 rfl rfl ?_
    refine kV_aloadn 130 dX3_read_129 rfl rfl ?_
    refine kV_iloadn 131 dX3_read_130 rfl rfl ?_
    refine kV_aloadn 132 dX3_read_131 rfl rfl ?_
    obtain ⟨x1, hx, h⟩ := kbi_ex h
    refine kC_V 135 [.ref (kg_ad G (kbo 2))] [.int x1, .ref (kg_ad G (kbo 2))] dX3_read_132 (okX3_commonAnswer hG d ho_o1 hx) kmvX3_commonAnswer (wi_r18 _ (List.mem_of_getElem? (i := 20) rfl)) (kOk_of hG rfl) rfl rfl rfl rfl rfl rfl ?_
    clear hx
    obtain ⟨S1, hx, h⟩ := kb_ex h
    refine rp3_35 138 dX3_read_135 (kOk_of hG rfl) rfl hx rfl ?_
    clear hx
    cases h
    exact kV_vret dX3_read_138
  · refine kV_if_lt_f 127 64 dX3_read_61 (by decide) hc rfl ?_
    clear hc
    refine kV_aloadn 65 dX3_read_64 rfl rfl ?_
    refine kV_iload 67 dX3_read_65 rfl rfl ?_
    obtain ⟨S2, hx, h⟩ := kbi_ex h
    refine kC_V 70 [] [] dX3_read_67 (okX3_passWord hG (d + 4)  hx) kmvX3_passWord (wi_r16 _ (List.mem_of_getElem? (i := 4) rfl)) (kOk_of hG rfl) rfl rfl rfl rfl rfl rfl ?_
    clear hx
    refine kV_iconst 71 dX3_read_70 ic_0 rfl ?_
    refine kV_istore 73 [some (.ref (kg_ad G (kbo 2))), some (.ref (kg_ad G (kbo o1))), some (.int v2), some (.ref (kg_ad G (kbo 1))), none, none, some (.int v6), some (.int (0 : Int32))] dX3_read_71 rfl rfl rfl ?_
    refine kV_drop [true, true, true, true, false, false, true, true] rfl ?_
    exact TX3_read_L73 hG ho_o1 hc59 h
theorem TX3_read_L59 {G : kG} {n : Nat} {d : Nat} {X : kX} (hG : kg_N G = 55 + 14 * n) {o1 : Nat} (ho_o1 : kfm n o1 = true) {S : kS} {v2 : Int32} {v6 : Int32} {res : kS} (h : FX3_read_L59 o1 S v2 v6 = some res) : kV (X, RX3, 8, none, G, krm (d + 5), (0, 0), kQ X G none (kgl G n res)) cX3_read (kgl G n S) [some (.ref (kg_ad G (kbo 2))), some (.ref (kg_ad G (kbo o1))), some (.int v2), some (.ref (kg_ad G (kbo 1))), none, none, some (.int v6), none] [] 59 := by
  unfold FX3_read_L59 at h
  exact kfix_ok (P := fun (q : kS × Int32 × Int32) (res : kS) => kV (X, RX3, 8, none, G, krm (d + 5), (0, 0), kQ X G none (kgl G n res)) cX3_read (kgl G n q.1) [some (.ref (kg_ad G (kbo 2))), some (.ref (kg_ad G (kbo o1))), some (.int (q.2.1)), some (.ref (kg_ad G (kbo 1))), none, none, some (.int (q.2.2)), none] [] 59) (fun rec hrec q res hq => TX3_read_B59 hG ho_o1 hrec hq) kfuel _ _ h
theorem TX3_read_B20 {G : kG} {n : Nat} {d : Nat} {X : kX} (hG : kg_N G = 55 + 14 * n) {o1 : Nat} (ho_o1 : kfm n o1 = true) {c20 : kS × Int32 × Int32 → Option (kS)} (hc20 : ∀ (q : kS × Int32 × Int32) (res : kS), c20 q = some res → kV (X, RX3, 8, none, G, krm (d + 5), (0, 0), kQ X G none (kgl G n res)) cX3_read (kgl G n q.1) [some (.ref (kg_ad G (kbo 2))), some (.ref (kg_ad G (kbo o1))), some (.int (q.2.1)), some (.ref (kg_ad G (kbo 1))), some (.ref (kg_ad G (kbo 0 + 10))), none, some (.int (q.2.2)), none] [] 20) {S : kS} {v2 : Int32} {v6 : Int32} {res : kS} (h : FX3_read_B20 o1 c20 S v2 v6 = some res) : kV (X, RX3, 8, none, G, krm (d + 5), (0, 0), kQ X G none (kgl G n res)) cX3_read (kgl G n S) [some (.ref (kg_ad G (kbo 2))), some (.ref (kg_ad G (kbo o1))), some (.int v2), some (.ref (kg_ad G (kbo 1))), some (.ref (kg_ad G (kbo 0 + 10))), none, some (.int v6), none] [] 20 := by
  have hO_o1 := kOk_fm hG ho_o1
  have hc_o1 := kci_fm ho_o1
  unfold FX3_read_B20 at h
  refine kV_iload 22 dX3_read_20 rfl rfl ?_
  refine kV_aloadn 23 dX3_read_22 rfl rfl ?_
  obtain ⟨x1, hx, h⟩ := kb_ex h
  refine rg3_15 26 dX3_read_23 (kOk_of hG rfl) rfl hx rfl ?_
  clear hx
  rcases kif_ex h with ⟨hc, h⟩ | ⟨hc, h⟩
  · refine kV_icmp_ge_t 47 dX3_read_26 (by decide) hc ?_
    clear hc
    refine kV_aloadn 48 dX3_read_47 rfl rfl ?_
    obtain ⟨S1, hx, h⟩ := kbi_ex h
    refine kC_V 51 [] [] dX3_read_48 (okX3_startAtEnd hG (d + 4)  hx) kmvX3_startAtEnd (wi_r16 _ (List.mem_of_getElem? (i := 0) rfl)) (kOk_of hG rfl) rfl rfl rfl rfl rfl rfl ?_
    clear hx
    refine kV_aloadn 52 dX3_read_51 rfl rfl ?_
    obtain ⟨x2, hx, h⟩ := kb_ex h
    refine rg3_15 55 dX3_read_52 (kOk_of hG rfl) rfl hx rfl ?_
    clear hx
    refine kV_iconst 56 dX3_read_55 ic_1 rfl ?_
    refine kV_isub 57 dX3_read_56 rfl ?_
    refine kV_istore 59 [some (.ref (kg_ad G (kbo 2))), some (.ref (kg_ad G (kbo o1))), some (.int v2), some (.ref (kg_ad G (kbo 1))), some (.ref (kg_ad G (kbo 0 + 10))), none, some (.int (x2 - (1 : Int32))), none] dX3_read_57 rfl rfl rfl ?_
    refine kV_drop [true, true, true, true, false, false, true, false] rfl ?_
    exact TX3_read_L59 hG ho_o1 h
  · refine kV_icmp_ge_f 47 29 dX3_read_26 (by decide) hc rfl ?_
    clear hc
    refine kV_aloadn 30 dX3_read_29 rfl rfl ?_
    refine rg3_11 33 dX3_read_30 (kOk_of hG rfl) rfl rfl ?_
    refine kV_iload 35 dX3_read_33 rfl rfl ?_
    refine kV_aload 37 dX3_read_35 rfl rfl ?_
    refine kV_iload 39 dX3_read_37 rfl rfl ?_
    obtain ⟨hi, h⟩ := kgd_ex h
    obtain ⟨x3, hx, h⟩ := kb_ex h
    refine rl5_5 40 dX3_read_39 (kOk_of hG rfl) rfl hi hx rfl ?_
    clear hi hx
    obtain ⟨hi, h⟩ := kgd_ex h
    obtain ⟨S2, hx, h⟩ := kb_ex h
    refine rs3_0 41 dX3_read_40 (kOk_of hG rfl) rfl hi hx rfl ?_
    clear hi hx
    refine kV_iinc 44 [some (.ref (kg_ad G (kbo 2))), some (.ref (kg_ad G (kbo o1))), some (.int v2), some (.ref (kg_ad G (kbo 1))), some (.ref (kg_ad G (kbo 0 + 10))), none, some (.int (v6 + (1 : Int32))), none] dX3_read_41 rfl (kinc_1 _) rfl rfl rfl ?_
    refine kV_goto 20 dX3_read_44 (by decide) ?_
    refine kV_drop [true, true, true, true, true, false, true, false] rfl ?_
    exact hc20 _ _ h
theorem TX3_read_L20 {G : kG} {n : Nat} {d : Nat} {X : kX} (hG : kg_N G = 55 + 14 * n) {o1 : Nat} (ho_o1 : kfm n o1 = true) {S : kS} {v2 : Int32} {v6 : Int32} {res : kS} (h : FX3_read_L20 o1 S v2 v6 = some res) : kV (X, RX3, 8, none, G, krm (d + 5), (0, 0), kQ X G none (kgl G n res)) cX3_read (kgl G n S) [some (.ref (kg_ad G (kbo 2))), some (.ref (kg_ad G (kbo o1))), some (.int v2), some (.ref (kg_ad G (kbo 1))), some (.ref (kg_ad G (kbo 0 + 10))), none, some (.int v6), none] [] 20 := by
  unfold FX3_read_L20 at h
  exact kfix_ok (P := fun (q : kS × Int32 × Int32) (res : kS) => kV (X, RX3, 8, none, G, krm (d + 5), (0, 0), kQ X G none (kgl G n res)) cX3_read (kgl G n q.1) [some (.ref (kg_ad G (kbo 2))), some (.ref (kg_ad G (kbo o1))), some (.int (q.2.1)), some (.ref (kg_ad G (kbo 1))), some (.ref (kg_ad G (kbo 0 + 10))), none, some (.int (q.2.2)), none] [] 20) (fun rec hrec q res hq => TX3_read_B20 hG ho_o1 hrec hq) kfuel _ _ h
theorem okX3_read {l : Launch} {G : kG} {n : Nat} (hG : kg_N G = 55 + 14 * n) (d : Nat) {o1 : Nat} (ho_o1 : kfm n o1 = true) {S : kS} {a2 : Int32} {a5 : Int32} {res : kS} (h : FX3_read o1 S a2 a5 = some res) : kEv l G (d + 5) mX3_read [.ref (kg_ad G (kbo 2)), .ref (kg_ad G (kbo o1)), .int a2, .ref (kg_ad G (kbo 1)), .ref (kg_ad G (kbo 0 + 10)), .int a5] (kgl G n S) none (kgl G n res) := by
  refine kEv_of RX3 [some (.ref (kg_ad G (kbo 2))), some (.ref (kg_ad G (kbo o1))), some (.int a2), some (.ref (kg_ad G (kbo 1))), some (.ref (kg_ad G (kbo 0 + 10))), some (.int a5), none, none] rfl (by decide +kernel) rfl rfl rfl rfl (fun X hX => ?_)
  subst hX
  have hO_o1 := kOk_fm hG ho_o1
  have hc_o1 := kci_fm ho_o1
  unfold FX3_read at h
  refine kV_aloadn 1 dX3_read_0 rfl rfl ?_
  refine kV_iload 3 dX3_read_1 rfl rfl ?_
  refine kV_aload 5 dX3_read_3 rfl rfl ?_
  refine ra5_5 (v := (8 : Int32)) 6 dX3_read_5 (kOk_of hG rfl) rfl (by decide +kernel) rfl ?_
  refine kV_bipush 8 dX3_read_6 bp_8 rfl ?_
  refine kC_min 11 dX3_read_8 (wi_r15 _ (List.mem_of_getElem? (i := 23) rfl)) rfl rfl ?_
  refine kC_min 14 dX3_read_11 (wi_r15 _ (List.mem_of_getElem? (i := 23) rfl)) rfl rfl ?_
  obtain ⟨S1, hx, h⟩ := kb_ex h
  refine rp3_15 17 dX3_read_14 (kOk_of hG rfl) rfl hx rfl ?_
  clear hx
  refine kV_iconst 18 dX3_read_17 ic_0 rfl ?_
  refine kV_istore 20 [some (.ref (kg_ad G (kbo 2))), some (.ref (kg_ad G (kbo o1))), some (.int a2), some (.ref (kg_ad G (kbo 1))), some (.ref (kg_ad G (kbo 0 + 10))), some (.int a5), some (.int (0 : Int32)), none] dX3_read_18 rfl rfl rfl ?_
  refine kV_drop [true, true, true, true, true, false, true, false] rfl ?_
  exact TX3_read_L20 hG ho_o1 h
abbrev mX4_itemCount : kM := (yX4_itemCount, cX4_itemCount, 1, (some .int))
theorem kmvX4_itemCount : kMv mX4_itemCount 0 4 := ⟨⟨(wi_r32 _ (List.mem_of_getElem? (i := 10) rfl)), (wi_r1 _ (List.mem_of_getElem? (i := 17) rfl)), ⟨by decide +kernel, by decide +kernel, by decide +kernel⟩, by decide⟩, (wi_r32 _ (List.mem_of_getElem? (i := 8) rfl)), (wi_r32 _ (List.mem_of_getElem? (i := 9) rfl)), rfl⟩
def FX4_itemCount (S : kS) : Option (Int32) :=
  kb (kI S 1 1) fun x1 => some x1
theorem okX4_itemCount {l : Launch} {G : kG} {n : Nat} (hG : kg_N G = 55 + 14 * n) (d : Nat) {S : kS} {res : Int32} (h : FX4_itemCount S = some res) : kEv l G (d + 0) mX4_itemCount [.ref (kg_ad G (kbo 1))] (kgl G n S) (some (.int res)) (kgl G n S) := by
  refine kEv_of RX4 [some (.ref (kg_ad G (kbo 1)))] rfl (by decide +kernel) rfl rfl rfl rfl (fun X hX => ?_)
  subst hX
  unfold FX4_itemCount at h
  refine kV_aloadn 1 dX4_itemCount_0 rfl rfl ?_
  obtain ⟨x1, hx, h⟩ := kb_ex h
  refine rg4_15 4 dX4_itemCount_1 (kOk_of hG rfl) rfl hx rfl ?_
  clear hx
  cases h
  exact kV_iret dX4_itemCount_4
abbrev mX4_addItem : kM := (yX4_addItem, cX4_addItem, 3, (some .int))
theorem kmvX4_addItem : kMv mX4_addItem 2 4 := ⟨⟨(wi_r12 _ (List.mem_of_getElem? (i := 4) rfl)), (wi_r1 _ (List.mem_of_getElem? (i := 17) rfl)), ⟨by decide +kernel, by decide +kernel, by decide +kernel⟩, by decide⟩, (wi_r12 _ (List.mem_of_getElem? (i := 2) rfl)), (wi_r12 _ (List.mem_of_getElem? (i := 3) rfl)), rfl⟩
def FX4_addItem (S : kS) (a1 : Int32) (a2 : Int32) : Option (Int32 × kS) :=
  kb (kI S 1 1) fun x1 => if x1 < (4 : Int32) then (kb (kI S 1 0) fun x2 => kb (kI S 1 1) fun x3 => kgd (kin ((x2 * (4 : Int32)) + x3) 84) <| kb (kpA S 1 6 ((x2 * (4 : Int32)) + x3) a1) fun S1 => kb (kI S1 1 0) fun x4 => kb (kI S1 1 1) fun x5 => kgd (kin ((x4 * (4 : Int32)) + x5) 84) <| kb (kpA S1 1 7 ((x4 * (4 : Int32)) + x5) a2) fun S2 => kb (kI S2 1 1) fun x6 => kb (kpI S2 1 1 (x6 + (1 : Int32))) fun S3 => kb (kI S3 1 1) fun x7 => some (x7, S3)) else (some ((-4 : Int32), S))
theorem okX4_addItem {l : Launch} {G : kG} {n : Nat} (hG : kg_N G = 55 + 14 * n) (d : Nat) {S : kS} {a1 : Int32} {a2 : Int32} {res : Int32 × kS} (h : FX4_addItem S a1 a2 = some res) : kEv l G (d + 0) mX4_addItem [.ref (kg_ad G (kbo 1)), .int a1, .int a2] (kgl G n S) (some (.int res.1)) (kgl G n res.2) := by
  refine kEv_of RX4 [some (.ref (kg_ad G (kbo 1))), some (.int a1), some (.int a2)] rfl (by decide +kernel) rfl rfl rfl rfl (fun X hX => ?_)
  subst hX
  unfold FX4_addItem at h
  refine kV_aloadn 1 dX4_addItem_0 rfl rfl ?_
  obtain ⟨x1, hx, h⟩ := kb_ex h
  refine rg4_15 4 dX4_addItem_1 (kOk_of hG rfl) rfl hx rfl ?_
  clear hx
  refine kV_iconst 5 dX4_addItem_4 ic_4 rfl ?_
  rcases kif_ex h with ⟨hc, h⟩ | ⟨hc, h⟩
  · refine kV_icmp_lt_t 11 dX4_addItem_5 (by decide) hc ?_
    clear hc
    refine kV_aloadn 12 dX4_addItem_11 rfl rfl ?_
    refine rg4_31 15 dX4_addItem_12 (kOk_of hG rfl) rfl rfl ?_
    refine kV_aloadn 16 dX4_addItem_15 rfl rfl ?_
    obtain ⟨x2, hx, h⟩ := kb_ex h
    refine rg4_9 19 dX4_addItem_16 (kOk_of hG rfl) rfl hx rfl ?_
    clear hx
    refine kV_iconst 20 dX4_addItem_19 ic_4 rfl ?_
    refine kV_imul 21 dX4_addItem_20 rfl ?_
    refine kV_aloadn 22 dX4_addItem_21 rfl rfl ?_
    obtain ⟨x3, hx, h⟩ := kb_ex h
    refine rg4_15 25 dX4_addItem_22 (kOk_of hG rfl) rfl hx rfl ?_
    clear hx
    refine kV_iadd 26 dX4_addItem_25 rfl ?_
    refine kV_iloadn 27 dX4_addItem_26 rfl rfl ?_
    obtain ⟨hi, h⟩ := kgd_ex h
    obtain ⟨S1, hx, h⟩ := kb_ex h
    refine rs4_6 28 dX4_addItem_27 (kOk_of hG rfl) rfl hi hx rfl ?_
    clear hi hx
    refine kV_aloadn 29 dX4_addItem_28 rfl rfl ?_
    refine rg4_34 32 dX4_addItem_29 (kOk_of hG rfl) rfl rfl ?_
    refine kV_aloadn 33 dX4_addItem_32 rfl rfl ?_
    obtain ⟨x4, hx, h⟩ := kb_ex h
    refine rg4_9 36 dX4_addItem_33 (kOk_of hG rfl) rfl hx rfl ?_
    clear hx
    refine kV_iconst 37 dX4_addItem_36 ic_4 rfl ?_
    refine kV_imul 38 dX4_addItem_37 rfl ?_
    refine kV_aloadn 39 dX4_addItem_38 rfl rfl ?_
    obtain ⟨x5, hx, h⟩ := kb_ex h
    refine rg4_15 42 dX4_addItem_39 (kOk_of hG rfl) rfl hx rfl ?_
    clear hx
    refine kV_iadd 43 dX4_addItem_42 rfl ?_
    refine kV_iloadn 44 dX4_addItem_43 rfl rfl ?_
    obtain ⟨hi, h⟩ := kgd_ex h
    obtain ⟨S2, hx, h⟩ := kb_ex h
    refine rs4_7 45 dX4_addItem_44 (kOk_of hG rfl) rfl hi hx rfl ?_
    clear hi hx
    refine kV_aloadn 46 dX4_addItem_45 rfl rfl ?_
    refine kV_dup 47 dX4_addItem_46 rfl rfl ?_
    obtain ⟨x6, hx, h⟩ := kb_ex h
    refine rg4_15 50 dX4_addItem_47 (kOk_of hG rfl) rfl hx rfl ?_
    clear hx
    refine kV_iconst 51 dX4_addItem_50 ic_1 rfl ?_
    refine kV_iadd 52 dX4_addItem_51 rfl ?_
    obtain ⟨S3, hx, h⟩ := kb_ex h
    refine rp4_15 55 dX4_addItem_52 (kOk_of hG rfl) rfl hx rfl ?_
    clear hx
    refine kV_aloadn 56 dX4_addItem_55 rfl rfl ?_
    obtain ⟨x7, hx, h⟩ := kb_ex h
    refine rg4_15 59 dX4_addItem_56 (kOk_of hG rfl) rfl hx rfl ?_
    clear hx
    cases h
    exact kV_iret dX4_addItem_59
  · refine kV_icmp_lt_f 11 8 dX4_addItem_5 (by decide) hc rfl ?_
    clear hc
    refine kV_bipush 10 dX4_addItem_8 bp_m4 rfl ?_
    cases h
    exact kV_iret dX4_addItem_10
abbrev mX4_itemsNamePlace : kM := (yX4_itemsNamePlace, cX4_itemsNamePlace, 2, (some .boolean))
theorem kmvX4_itemsNamePlace : kMv mX4_itemsNamePlace 0 4 := ⟨⟨(wi_r13 _ (List.mem_of_getElem? (i := 3) rfl)), (wi_r1 _ (List.mem_of_getElem? (i := 17) rfl)), ⟨by decide +kernel, by decide +kernel, by decide +kernel⟩, by decide⟩, (wi_r13 _ (List.mem_of_getElem? (i := 1) rfl)), (wi_r13 _ (List.mem_of_getElem? (i := 2) rfl)), rfl⟩
def FX4_itemsNamePlace_B2 (c2 : Int32 → Option (Int32)) (S : kS) (v1 : Int32) : Option (Int32) :=
  kb (kI S 1 1) fun x1 => if x1 ≤ v1 then (some (0 : Int32)) else (kb (kI S 1 0) fun x2 => kgd (kin ((x2 * (4 : Int32)) + v1) 84) <| kb (kA S 1 6 ((x2 * (4 : Int32)) + v1)) fun x3 => if x3 = (1 : Int32) then (some (1 : Int32)) else (c2 (v1 + (1 : Int32))))
def FX4_itemsNamePlace_L2 (S : kS) (v1 : Int32) : Option (Int32) :=
  kfix (fun rec (q : Int32) => FX4_itemsNamePlace_B2 rec S q) kfuel v1
def FX4_itemsNamePlace (S : kS) : Option (Int32) :=
  FX4_itemsNamePlace_L2 S (0 : Int32)
theorem TX4_itemsNamePlace_B2 {G : kG} {n : Nat} {d : Nat} {X : kX} (hG : kg_N G = 55 + 14 * n) {S : kS} {c2 : Int32 → Option (Int32)} (hc2 : ∀ (q : Int32) (res : Int32), c2 q = some res → kV (X, RX4, 2, (some .boolean), G, krm (d + 0), (0, 0), kQ X G (some (.int res)) (kgl G n S)) cX4_itemsNamePlace (kgl G n S) [some (.ref (kg_ad G (kbo 1))), some (.int (q))] [] 2) {v1 : Int32} {res : Int32} (h : FX4_itemsNamePlace_B2 c2 S v1 = some res) : kV (X, RX4, 2, (some .boolean), G, krm (d + 0), (0, 0), kQ X G (some (.int res)) (kgl G n S)) cX4_itemsNamePlace (kgl G n S) [some (.ref (kg_ad G (kbo 1))), some (.int v1)] [] 2 := by
  unfold FX4_itemsNamePlace_B2 at h
  refine kV_iloadn 3 dX4_itemsNamePlace_2 rfl rfl ?_
  refine kV_aloadn 4 dX4_itemsNamePlace_3 rfl rfl ?_
  obtain ⟨x1, hx, h⟩ := kb_ex h
  refine rg4_15 7 dX4_itemsNamePlace_4 (kOk_of hG rfl) rfl hx rfl ?_
  clear hx
  rcases kif_ex h with ⟨hc, h⟩ | ⟨hc, h⟩
  · refine kV_icmp_ge_t 35 dX4_itemsNamePlace_7 (by decide) hc ?_
    clear hc
    refine kV_iconst 36 dX4_itemsNamePlace_35 ic_0 rfl ?_
    cases h
    exact kV_zret dX4_itemsNamePlace_36 (by decide)
  · refine kV_icmp_ge_f 35 10 dX4_itemsNamePlace_7 (by decide) hc rfl ?_
    clear hc
    refine kV_aloadn 11 dX4_itemsNamePlace_10 rfl rfl ?_
    refine rg4_31 14 dX4_itemsNamePlace_11 (kOk_of hG rfl) rfl rfl ?_
    refine kV_aloadn 15 dX4_itemsNamePlace_14 rfl rfl ?_
    obtain ⟨x2, hx, h⟩ := kb_ex h
    refine rg4_9 18 dX4_itemsNamePlace_15 (kOk_of hG rfl) rfl hx rfl ?_
    clear hx
    refine kV_iconst 19 dX4_itemsNamePlace_18 ic_4 rfl ?_
    refine kV_imul 20 dX4_itemsNamePlace_19 rfl ?_
    refine kV_iloadn 21 dX4_itemsNamePlace_20 rfl rfl ?_
    refine kV_iadd 22 dX4_itemsNamePlace_21 rfl ?_
    obtain ⟨hi, h⟩ := kgd_ex h
    obtain ⟨x3, hx, h⟩ := kb_ex h
    refine rl4_6 23 dX4_itemsNamePlace_22 (kOk_of hG rfl) rfl hi hx rfl ?_
    clear hi hx
    refine kV_iconst 24 dX4_itemsNamePlace_23 ic_1 rfl ?_
    rcases kif_ex h with ⟨hc, h⟩ | ⟨hc, h⟩
    · refine kV_icmp_ne_f 29 27 dX4_itemsNamePlace_24 (by decide) hc rfl ?_
      clear hc
      refine kV_iconst 28 dX4_itemsNamePlace_27 ic_1 rfl ?_
      cases h
      exact kV_zret dX4_itemsNamePlace_28 (by decide)
    · refine kV_icmp_ne_t 29 dX4_itemsNamePlace_24 (by decide) hc ?_
      clear hc
      refine kV_iinc 32 [some (.ref (kg_ad G (kbo 1))), some (.int (v1 + (1 : Int32)))] dX4_itemsNamePlace_29 rfl (kinc_1 _) rfl rfl rfl ?_
      refine kV_goto 2 dX4_itemsNamePlace_32 (by decide) ?_
      refine kV_drop [true, true] rfl ?_
      exact hc2 _ _ h
theorem TX4_itemsNamePlace_L2 {G : kG} {n : Nat} {d : Nat} {X : kX} (hG : kg_N G = 55 + 14 * n) {S : kS} {v1 : Int32} {res : Int32} (h : FX4_itemsNamePlace_L2 S v1 = some res) : kV (X, RX4, 2, (some .boolean), G, krm (d + 0), (0, 0), kQ X G (some (.int res)) (kgl G n S)) cX4_itemsNamePlace (kgl G n S) [some (.ref (kg_ad G (kbo 1))), some (.int v1)] [] 2 := by
  unfold FX4_itemsNamePlace_L2 at h
  exact kfix_ok (P := fun (q : Int32) (res : Int32) => kV (X, RX4, 2, (some .boolean), G, krm (d + 0), (0, 0), kQ X G (some (.int res)) (kgl G n S)) cX4_itemsNamePlace (kgl G n S) [some (.ref (kg_ad G (kbo 1))), some (.int (q))] [] 2) (fun rec hrec q res hq => TX4_itemsNamePlace_B2 hG hrec hq) kfuel _ _ h
theorem okX4_itemsNamePlace {l : Launch} {G : kG} {n : Nat} (hG : kg_N G = 55 + 14 * n) (d : Nat) {S : kS} {res : Int32} (h : FX4_itemsNamePlace S = some res) : kEv l G (d + 0) mX4_itemsNamePlace [.ref (kg_ad G (kbo 1))] (kgl G n S) (some (.int res)) (kgl G n S) := by
  refine kEv_of RX4 [some (.ref (kg_ad G (kbo 1))), none] rfl (by decide +kernel) rfl rfl rfl rfl (fun X hX => ?_)
  subst hX
  unfold FX4_itemsNamePlace at h
  refine kV_iconst 1 dX4_itemsNamePlace_0 ic_0 rfl ?_
  refine kV_istoren 2 [some (.ref (kg_ad G (kbo 1))), some (.int (0 : Int32))] dX4_itemsNamePlace_1 rfl rfl rfl ?_
  refine kV_drop [true, true] rfl ?_
  exact TX4_itemsNamePlace_L2 hG h
abbrev mX4_itemsLackPlace : kM := (yX4_itemsLackPlace, cX4_itemsLackPlace, 4, (some .boolean))
theorem kmvX4_itemsLackPlace : kMv mX4_itemsLackPlace 1 4 := ⟨⟨(wi_r12 _ (List.mem_of_getElem? (i := 17) rfl)), (wi_r1 _ (List.mem_of_getElem? (i := 17) rfl)), ⟨by decide +kernel, by decide +kernel, by decide +kernel⟩, by decide⟩, (wi_r12 _ (List.mem_of_getElem? (i := 15) rfl)), (wi_r12 _ (List.mem_of_getElem? (i := 16) rfl)), rfl⟩
def FX4_itemsLackPlace_J44 (o1 : Nat) (c2 : Int32 → Option (Int32)) (S : kS) (v2 : Int32) : Option (Int32) :=
  c2 (v2 + (1 : Int32))
def FX4_itemsLackPlace_B2 (o1 : Nat) (c2 : Int32 → Option (Int32)) (S : kS) (v2 : Int32) : Option (Int32) :=
  kb (kI S 1 1) fun x1 => if x1 ≤ v2 then (some (0 : Int32)) else (kb (kI S 1 0) fun x2 => kgd (kin ((x2 * (4 : Int32)) + v2) 84) <| kb (kA S 1 6 ((x2 * (4 : Int32)) + v2)) fun x3 => if x3 = (1 : Int32) then (kgd (kin ((x2 * (4 : Int32)) + v2) 84) <| kb (kA S 1 7 ((x2 * (4 : Int32)) + v2)) fun x4 => (FX0_hasPlace o1 S x4).bind fun x5 => if x5 = 0 then (some (1 : Int32)) else (FX4_itemsLackPlace_J44 o1 c2 S v2)) else (FX4_itemsLackPlace_J44 o1 c2 S v2))
def FX4_itemsLackPlace_L2 (o1 : Nat) (S : kS) (v2 : Int32) : Option (Int32) :=
  kfix (fun rec (q : Int32) => FX4_itemsLackPlace_B2 o1 rec S q) kfuel v2
def FX4_itemsLackPlace (o1 : Nat) (S : kS) : Option (Int32) :=
  FX4_itemsLackPlace_L2 o1 S (0 : Int32)
theorem TX4_itemsLackPlace_J44 {G : kG} {n : Nat} {d : Nat} {X : kX} (hG : kg_N G = 55 + 14 * n) {o1 : Nat} (ho_o1 : kfm n o1 = true) {c2 : Int32 → Option (Int32)} {S : kS} (hc2 : ∀ (q : Int32) (res : Int32), c2 q = some res → kV (X, RX4, 4, (some .boolean), G, krm (d + 1), (0, 0), kQ X G (some (.int res)) (kgl G n S)) cX4_itemsLackPlace (kgl G n S) [some (.ref (kg_ad G (kbo 1))), some (.ref (kg_ad G (kbo o1))), some (.int (q)), none] [] 2) {v2 : Int32} {res : Int32} (h : FX4_itemsLackPlace_J44 o1 c2 S v2 = some res) : kV (X, RX4, 4, (some .boolean), G, krm (d + 1), (0, 0), kQ X G (some (.int res)) (kgl G n S)) cX4_itemsLackPlace (kgl G n S) [some (.ref (kg_ad G (kbo 1))), some (.ref (kg_ad G (kbo o1))), some (.int v2), none] [] 44 := by
  have hO_o1 := kOk_fm hG ho_o1
  have hc_o1 := kci_fm ho_o1
  unfold FX4_itemsLackPlace_J44 at h
  refine kV_iinc 47 [some (.ref (kg_ad G (kbo 1))), some (.ref (kg_ad G (kbo o1))), some (.int (v2 + (1 : Int32))), none] dX4_itemsLackPlace_44 rfl (kinc_1 _) rfl rfl rfl ?_
  refine kV_goto 2 dX4_itemsLackPlace_47 (by decide) ?_
  refine kV_drop [true, true, true, false] rfl ?_
  exact hc2 _ _ h
theorem TX4_itemsLackPlace_B2 {G : kG} {n : Nat} {d : Nat} {X : kX} (hG : kg_N G = 55 + 14 * n) {o1 : Nat} (ho_o1 : kfm n o1 = true) {S : kS} {c2 : Int32 → Option (Int32)} (hc2 : ∀ (q : Int32) (res : Int32), c2 q = some res → kV (X, RX4, 4, (some .boolean), G, krm (d + 1), (0, 0), kQ X G (some (.int res)) (kgl G n S)) cX4_itemsLackPlace (kgl G n S) [some (.ref (kg_ad G (kbo 1))), some (.ref (kg_ad G (kbo o1))), some (.int (q)), none] [] 2) {v2 : Int32} {res : Int32} (h : FX4_itemsLackPlace_B2 o1 c2 S v2 = some res) : kV (X, RX4, 4, (some .boolean), G, krm (d + 1), (0, 0), kQ X G (some (.int res)) (kgl G n S)) cX4_itemsLackPlace (kgl G n S) [some (.ref (kg_ad G (kbo 1))), some (.ref (kg_ad G (kbo o1))), some (.int v2), none] [] 2 := by
  have hO_o1 := kOk_fm hG ho_o1
  have hc_o1 := kci_fm ho_o1
  unfold FX4_itemsLackPlace_B2 at h
  refine kV_iloadn 3 dX4_itemsLackPlace_2 rfl rfl ?_
  refine kV_aloadn 4 dX4_itemsLackPlace_3 rfl rfl ?_
  obtain ⟨x1, hx, h⟩ := kb_ex h
  refine rg4_15 7 dX4_itemsLackPlace_4 (kOk_of hG rfl) rfl hx rfl ?_
  clear hx
  rcases kif_ex h with ⟨hc, h⟩ | ⟨hc, h⟩
  · refine kV_icmp_ge_t 50 dX4_itemsLackPlace_7 (by decide) hc ?_
    clear hc
    refine kV_iconst 51 dX4_itemsLackPlace_50 ic_0 rfl ?_
    cases h
    exact kV_zret dX4_itemsLackPlace_51 (by decide)
  · refine kV_icmp_ge_f 50 10 dX4_itemsLackPlace_7 (by decide) hc rfl ?_
    clear hc
    refine kV_aloadn 11 dX4_itemsLackPlace_10 rfl rfl ?_
    obtain ⟨x2, hx, h⟩ := kb_ex h
    refine rg4_9 14 dX4_itemsLackPlace_11 (kOk_of hG rfl) rfl hx rfl ?_
    clear hx
    refine kV_iconst 15 dX4_itemsLackPlace_14 ic_4 rfl ?_
    refine kV_imul 16 dX4_itemsLackPlace_15 rfl ?_
    refine kV_iloadn 17 dX4_itemsLackPlace_16 rfl rfl ?_
    refine kV_iadd 18 dX4_itemsLackPlace_17 rfl ?_
    refine kV_istoren 19 [some (.ref (kg_ad G (kbo 1))), some (.ref (kg_ad G (kbo o1))), some (.int v2), some (.int ((x2 * (4 : Int32)) + v2))] dX4_itemsLackPlace_18 rfl rfl rfl ?_
    refine kV_aloadn 20 dX4_itemsLackPlace_19 rfl rfl ?_
    refine rg4_31 23 dX4_itemsLackPlace_20 (kOk_of hG rfl) rfl rfl ?_
    refine kV_iloadn 24 dX4_itemsLackPlace_23 rfl rfl ?_
    obtain ⟨hi, h⟩ := kgd_ex h
    obtain ⟨x3, hx, h⟩ := kb_ex h
    refine rl4_6 25 dX4_itemsLackPlace_24 (kOk_of hG rfl) rfl hi hx rfl ?_
    clear hi hx
    refine kV_iconst 26 dX4_itemsLackPlace_25 ic_1 rfl ?_
    rcases kif_ex h with ⟨hc, h⟩ | ⟨hc, h⟩
    · refine kV_icmp_ne_f 44 29 dX4_itemsLackPlace_26 (by decide) hc rfl ?_
      clear hc
      refine kV_aloadn 30 dX4_itemsLackPlace_29 rfl rfl ?_
      refine kV_aloadn 31 dX4_itemsLackPlace_30 rfl rfl ?_
      refine rg4_34 34 dX4_itemsLackPlace_31 (kOk_of hG rfl) rfl rfl ?_
      refine kV_iloadn 35 dX4_itemsLackPlace_34 rfl rfl ?_
      obtain ⟨hi, h⟩ := kgd_ex h
      obtain ⟨x4, hx, h⟩ := kb_ex h
      refine rl4_7 36 dX4_itemsLackPlace_35 (kOk_of hG rfl) rfl hi hx rfl ?_
      clear hi hx
      obtain ⟨x5, hx, h⟩ := kbi_ex h
      refine kC_V 39 [] [.int x5] dX4_itemsLackPlace_36 (okX0_hasPlace hG d ho_o1 hx) kmvX0_hasPlace (wi_r12 _ (List.mem_of_getElem? (i := 18) rfl)) hO_o1 hc_o1 rfl rfl rfl rfl rfl ?_
      clear hx
      rcases kif_ex h with ⟨hc, h⟩ | ⟨hc, h⟩
      · refine kV_if_ne_f 44 42 dX4_itemsLackPlace_39 (by decide) hc rfl ?_
        clear hc
        refine kV_iconst 43 dX4_itemsLackPlace_42 ic_1 rfl ?_
        cases h
        exact kV_zret dX4_itemsLackPlace_43 (by decide)
      · refine kV_if_ne_t 44 dX4_itemsLackPlace_39 (by decide) hc ?_
        clear hc
        refine kV_drop [true, true, true, false] rfl ?_
        exact TX4_itemsLackPlace_J44 hG ho_o1 hc2 h
    · refine kV_icmp_ne_t 44 dX4_itemsLackPlace_26 (by decide) hc ?_
      clear hc
      refine kV_drop [true, true, true, false] rfl ?_
      exact TX4_itemsLackPlace_J44 hG ho_o1 hc2 h
theorem TX4_itemsLackPlace_L2 {G : kG} {n : Nat} {d : Nat} {X : kX} (hG : kg_N G = 55 + 14 * n) {o1 : Nat} (ho_o1 : kfm n o1 = true) {S : kS} {v2 : Int32} {res : Int32} (h : FX4_itemsLackPlace_L2 o1 S v2 = some res) : kV (X, RX4, 4, (some .boolean), G, krm (d + 1), (0, 0), kQ X G (some (.int res)) (kgl G n S)) cX4_itemsLackPlace (kgl G n S) [some (.ref (kg_ad G (kbo 1))), some (.ref (kg_ad G (kbo o1))), some (.int v2), none] [] 2 := by
  unfold FX4_itemsLackPlace_L2 at h
  exact kfix_ok (P := fun (q : Int32) (res : Int32) => kV (X, RX4, 4, (some .boolean), G, krm (d + 1), (0, 0), kQ X G (some (.int res)) (kgl G n S)) cX4_itemsLackPlace (kgl G n S) [some (.ref (kg_ad G (kbo 1))), some (.ref (kg_ad G (kbo o1))), some (.int (q)), none] [] 2) (fun rec hrec q res hq => TX4_itemsLackPlace_B2 hG ho_o1 hrec hq) kfuel _ _ h
theorem okX4_itemsLackPlace {l : Launch} {G : kG} {n : Nat} (hG : kg_N G = 55 + 14 * n) (d : Nat) {o1 : Nat} (ho_o1 : kfm n o1 = true) {S : kS} {res : Int32} (h : FX4_itemsLackPlace o1 S = some res) : kEv l G (d + 1) mX4_itemsLackPlace [.ref (kg_ad G (kbo 1)), .ref (kg_ad G (kbo o1))] (kgl G n S) (some (.int res)) (kgl G n S) := by
  refine kEv_of RX4 [some (.ref (kg_ad G (kbo 1))), some (.ref (kg_ad G (kbo o1))), none, none] rfl (by decide +kernel) rfl rfl rfl rfl (fun X hX => ?_)
  subst hX
  have hO_o1 := kOk_fm hG ho_o1
  have hc_o1 := kci_fm ho_o1
  unfold FX4_itemsLackPlace at h
  refine kV_iconst 1 dX4_itemsLackPlace_0 ic_0 rfl ?_
  refine kV_istoren 2 [some (.ref (kg_ad G (kbo 1))), some (.ref (kg_ad G (kbo o1))), some (.int (0 : Int32)), none] dX4_itemsLackPlace_1 rfl rfl rfl ?_
  refine kV_drop [true, true, true, false] rfl ?_
  exact TX4_itemsLackPlace_L2 hG ho_o1 h
abbrev mX4_itemsNameWorked : kM := (yX4_itemsNameWorked, cX4_itemsNameWorked, 4, (some .boolean))
theorem kmvX4_itemsNameWorked : kMv mX4_itemsNameWorked 1 4 := ⟨⟨(wi_r12 _ (List.mem_of_getElem? (i := 22) rfl)), (wi_r1 _ (List.mem_of_getElem? (i := 17) rfl)), ⟨by decide +kernel, by decide +kernel, by decide +kernel⟩, by decide⟩, (wi_r12 _ (List.mem_of_getElem? (i := 20) rfl)), (wi_r12 _ (List.mem_of_getElem? (i := 21) rfl)), rfl⟩
def FX4_itemsNameWorked_J44 (o1 : Nat) (c2 : Int32 → Option (Int32)) (S : kS) (v2 : Int32) : Option (Int32) :=
  c2 (v2 + (1 : Int32))
def FX4_itemsNameWorked_B2 (o1 : Nat) (c2 : Int32 → Option (Int32)) (S : kS) (v2 : Int32) : Option (Int32) :=
  kb (kI S 1 1) fun x1 => if x1 ≤ v2 then (some (0 : Int32)) else (kb (kI S 1 0) fun x2 => kgd (kin ((x2 * (4 : Int32)) + v2) 84) <| kb (kA S 1 6 ((x2 * (4 : Int32)) + v2)) fun x3 => if x3 = (1 : Int32) then (kgd (kin ((x2 * (4 : Int32)) + v2) 84) <| kb (kA S 1 7 ((x2 * (4 : Int32)) + v2)) fun x4 => (FX0_isWorked o1 S x4).bind fun x5 => if x5 = 0 then (FX4_itemsNameWorked_J44 o1 c2 S v2) else (some (1 : Int32))) else (FX4_itemsNameWorked_J44 o1 c2 S v2))
def FX4_itemsNameWorked_L2 (o1 : Nat) (S : kS) (v2 : Int32) : Option (Int32) :=
  kfix (fun rec (q : Int32) => FX4_itemsNameWorked_B2 o1 rec S q) kfuel v2
def FX4_itemsNameWorked (o1 : Nat) (S : kS) : Option (Int32) :=
  FX4_itemsNameWorked_L2 o1 S (0 : Int32)
theorem TX4_itemsNameWorked_J44 {G : kG} {n : Nat} {d : Nat} {X : kX} (hG : kg_N G = 55 + 14 * n) {o1 : Nat} (ho_o1 : kfm n o1 = true) {c2 : Int32 → Option (Int32)} {S : kS} (hc2 : ∀ (q : Int32) (res : Int32), c2 q = some res → kV (X, RX4, 4, (some .boolean), G, krm (d + 2), (0, 0), kQ X G (some (.int res)) (kgl G n S)) cX4_itemsNameWorked (kgl G n S) [some (.ref (kg_ad G (kbo 1))), some (.ref (kg_ad G (kbo o1))), some (.int (q)), none] [] 2) {v2 : Int32} {res : Int32} (h : FX4_itemsNameWorked_J44 o1 c2 S v2 = some res) : kV (X, RX4, 4, (some .boolean), G, krm (d + 2), (0, 0), kQ X G (some (.int res)) (kgl G n S)) cX4_itemsNameWorked (kgl G n S) [some (.ref (kg_ad G (kbo 1))), some (.ref (kg_ad G (kbo o1))), some (.int v2), none] [] 44 := by
  have hO_o1 := kOk_fm hG ho_o1
  have hc_o1 := kci_fm ho_o1
  unfold FX4_itemsNameWorked_J44 at h
  refine kV_iinc 47 [some (.ref (kg_ad G (kbo 1))), some (.ref (kg_ad G (kbo o1))), some (.int (v2 + (1 : Int32))), none] dX4_itemsNameWorked_44 rfl (kinc_1 _) rfl rfl rfl ?_
  refine kV_goto 2 dX4_itemsNameWorked_47 (by decide) ?_
  refine kV_drop [true, true, true, false] rfl ?_
  exact hc2 _ _ h
theorem TX4_itemsNameWorked_B2 {G : kG} {n : Nat} {d : Nat} {X : kX} (hG : kg_N G = 55 + 14 * n) {o1 : Nat} (ho_o1 : kfm n o1 = true) {S : kS} {c2 : Int32 → Option (Int32)} (hc2 : ∀ (q : Int32) (res : Int32), c2 q = some res → kV (X, RX4, 4, (some .boolean), G, krm (d + 2), (0, 0), kQ X G (some (.int res)) (kgl G n S)) cX4_itemsNameWorked (kgl G n S) [some (.ref (kg_ad G (kbo 1))), some (.ref (kg_ad G (kbo o1))), some (.int (q)), none] [] 2) {v2 : Int32} {res : Int32} (h : FX4_itemsNameWorked_B2 o1 c2 S v2 = some res) : kV (X, RX4, 4, (some .boolean), G, krm (d + 2), (0, 0), kQ X G (some (.int res)) (kgl G n S)) cX4_itemsNameWorked (kgl G n S) [some (.ref (kg_ad G (kbo 1))), some (.ref (kg_ad G (kbo o1))), some (.int v2), none] [] 2 := by
  have hO_o1 := kOk_fm hG ho_o1
  have hc_o1 := kci_fm ho_o1
  unfold FX4_itemsNameWorked_B2 at h
  refine kV_iloadn 3 dX4_itemsNameWorked_2 rfl rfl ?_
  refine kV_aloadn 4 dX4_itemsNameWorked_3 rfl rfl ?_
  obtain ⟨x1, hx, h⟩ := kb_ex h
  refine rg4_15 7 dX4_itemsNameWorked_4 (kOk_of hG rfl) rfl hx rfl ?_
  clear hx
  rcases kif_ex h with ⟨hc, h⟩ | ⟨hc, h⟩
  · refine kV_icmp_ge_t 50 dX4_itemsNameWorked_7 (by decide) hc ?_
    clear hc
    refine kV_iconst 51 dX4_itemsNameWorked_50 ic_0 rfl ?_
    cases h
    exact kV_zret dX4_itemsNameWorked_51 (by decide)
  · refine kV_icmp_ge_f 50 10 dX4_itemsNameWorked_7 (by decide) hc rfl ?_
    clear hc
    refine kV_aloadn 11 dX4_itemsNameWorked_10 rfl rfl ?_
    obtain ⟨x2, hx, h⟩ := kb_ex h
    refine rg4_9 14 dX4_itemsNameWorked_11 (kOk_of hG rfl) rfl hx rfl ?_
    clear hx
    refine kV_iconst 15 dX4_itemsNameWorked_14 ic_4 rfl ?_
    refine kV_imul 16 dX4_itemsNameWorked_15 rfl ?_
    refine kV_iloadn 17 dX4_itemsNameWorked_16 rfl rfl ?_
    refine kV_iadd 18 dX4_itemsNameWorked_17 rfl ?_
    refine kV_istoren 19 [some (.ref (kg_ad G (kbo 1))), some (.ref (kg_ad G (kbo o1))), some (.int v2), some (.int ((x2 * (4 : Int32)) + v2))] dX4_itemsNameWorked_18 rfl rfl rfl ?_
    refine kV_aloadn 20 dX4_itemsNameWorked_19 rfl rfl ?_
    refine rg4_31 23 dX4_itemsNameWorked_20 (kOk_of hG rfl) rfl rfl ?_
    refine kV_iloadn 24 dX4_itemsNameWorked_23 rfl rfl ?_
    obtain ⟨hi, h⟩ := kgd_ex h
    obtain ⟨x3, hx, h⟩ := kb_ex h
    refine rl4_6 25 dX4_itemsNameWorked_24 (kOk_of hG rfl) rfl hi hx rfl ?_
    clear hi hx
    refine kV_iconst 26 dX4_itemsNameWorked_25 ic_1 rfl ?_
    rcases kif_ex h with ⟨hc, h⟩ | ⟨hc, h⟩
    · refine kV_icmp_ne_f 44 29 dX4_itemsNameWorked_26 (by decide) hc rfl ?_
      clear hc
      refine kV_aloadn 30 dX4_itemsNameWorked_29 rfl rfl ?_
      refine kV_aloadn 31 dX4_itemsNameWorked_30 rfl rfl ?_
      refine rg4_34 34 dX4_itemsNameWorked_31 (kOk_of hG rfl) rfl rfl ?_
      refine kV_iloadn 35 dX4_itemsNameWorked_34 rfl rfl ?_
      obtain ⟨hi, h⟩ := kgd_ex h
      obtain ⟨x4, hx, h⟩ := kb_ex h
      refine rl4_7 36 dX4_itemsNameWorked_35 (kOk_of hG rfl) rfl hi hx rfl ?_
      clear hi hx
      obtain ⟨x5, hx, h⟩ := kbi_ex h
      refine kC_V 39 [] [.int x5] dX4_itemsNameWorked_36 (okX0_isWorked hG d ho_o1 hx) kmvX0_isWorked (wi_r12 _ (List.mem_of_getElem? (i := 23) rfl)) hO_o1 hc_o1 rfl rfl rfl rfl rfl ?_
      clear hx
      rcases kif_ex h with ⟨hc, h⟩ | ⟨hc, h⟩
      · refine kV_if_eq_t 44 dX4_itemsNameWorked_39 (by decide) hc ?_
        clear hc
        refine kV_drop [true, true, true, false] rfl ?_
        exact TX4_itemsNameWorked_J44 hG ho_o1 hc2 h
      · refine kV_if_eq_f 44 42 dX4_itemsNameWorked_39 (by decide) hc rfl ?_
        clear hc
        refine kV_iconst 43 dX4_itemsNameWorked_42 ic_1 rfl ?_
        cases h
        exact kV_zret dX4_itemsNameWorked_43 (by decide)
    · refine kV_icmp_ne_t 44 dX4_itemsNameWorked_26 (by decide) hc ?_
      clear hc
      refine kV_drop [true, true, true, false] rfl ?_
      exact TX4_itemsNameWorked_J44 hG ho_o1 hc2 h
theorem TX4_itemsNameWorked_L2 {G : kG} {n : Nat} {d : Nat} {X : kX} (hG : kg_N G = 55 + 14 * n) {o1 : Nat} (ho_o1 : kfm n o1 = true) {S : kS} {v2 : Int32} {res : Int32} (h : FX4_itemsNameWorked_L2 o1 S v2 = some res) : kV (X, RX4, 4, (some .boolean), G, krm (d + 2), (0, 0), kQ X G (some (.int res)) (kgl G n S)) cX4_itemsNameWorked (kgl G n S) [some (.ref (kg_ad G (kbo 1))), some (.ref (kg_ad G (kbo o1))), some (.int v2), none] [] 2 := by
  unfold FX4_itemsNameWorked_L2 at h
  exact kfix_ok (P := fun (q : Int32) (res : Int32) => kV (X, RX4, 4, (some .boolean), G, krm (d + 2), (0, 0), kQ X G (some (.int res)) (kgl G n S)) cX4_itemsNameWorked (kgl G n S) [some (.ref (kg_ad G (kbo 1))), some (.ref (kg_ad G (kbo o1))), some (.int (q)), none] [] 2) (fun rec hrec q res hq => TX4_itemsNameWorked_B2 hG ho_o1 hrec hq) kfuel _ _ h
theorem okX4_itemsNameWorked {l : Launch} {G : kG} {n : Nat} (hG : kg_N G = 55 + 14 * n) (d : Nat) {o1 : Nat} (ho_o1 : kfm n o1 = true) {S : kS} {res : Int32} (h : FX4_itemsNameWorked o1 S = some res) : kEv l G (d + 2) mX4_itemsNameWorked [.ref (kg_ad G (kbo 1)), .ref (kg_ad G (kbo o1))] (kgl G n S) (some (.int res)) (kgl G n S) := by
  refine kEv_of RX4 [some (.ref (kg_ad G (kbo 1))), some (.ref (kg_ad G (kbo o1))), none, none] rfl (by decide +kernel) rfl rfl rfl rfl (fun X hX => ?_)
  subst hX
  have hO_o1 := kOk_fm hG ho_o1
  have hc_o1 := kci_fm ho_o1
  unfold FX4_itemsNameWorked at h
  refine kV_iconst 1 dX4_itemsNameWorked_0 ic_0 rfl ?_
  refine kV_istoren 2 [some (.ref (kg_ad G (kbo 1))), some (.ref (kg_ad G (kbo o1))), some (.int (0 : Int32)), none] dX4_itemsNameWorked_1 rfl rfl rfl ?_
  refine kV_drop [true, true, true, false] rfl ?_
  exact TX4_itemsNameWorked_L2 hG ho_o1 h
abbrev mX4_addRow : kM := (yX4_addRow, cX4_addRow, 4, (some .int))
theorem kmvX4_addRow : kMv mX4_addRow 3 4 := ⟨⟨(wi_r13 _ (List.mem_of_getElem? (i := 7) rfl)), (wi_r1 _ (List.mem_of_getElem? (i := 17) rfl)), ⟨by decide +kernel, by decide +kernel, by decide +kernel⟩, by decide⟩, (wi_r13 _ (List.mem_of_getElem? (i := 5) rfl)), (wi_r13 _ (List.mem_of_getElem? (i := 6) rfl)), rfl⟩
def FX4_addRow (S : kS) (a1 : Int32) (a2 : Int32) (a3 : Int32) : Option (Int32 × kS) :=
  kb (kI S 1 1) fun x1 => if 0 < x1 then (kb (kI S 1 0) fun x2 => if x2 < (20 : Int32) then (kb (kI S 1 0) fun x3 => kgd (kin x3 20) <| kb (kpA S 1 2 x3 a1) fun S1 => kb (kI S1 1 0) fun x4 => kgd (kin x4 20) <| kb (kpA S1 1 3 x4 a2) fun S2 => kb (kI S2 1 0) fun x5 => kgd (kin x5 20) <| kb (kpA S2 1 4 x5 a3) fun S3 => kb (kI S3 1 0) fun x6 => kb (kI S3 1 1) fun x7 => kgd (kin x6 20) <| kb (kpA S3 1 5 x6 x7) fun S4 => kb (kpI S4 1 1 (0 : Int32)) fun S5 => kb (kI S5 1 0) fun x8 => kb (kpI S5 1 0 (x8 + (1 : Int32))) fun S6 => kb (kI S6 1 0) fun x9 => some ((x9 - (1 : Int32)), S6)) else (some ((-4 : Int32), S))) else (some ((-3 : Int32), S))
theorem okX4_addRow {l : Launch} {G : kG} {n : Nat} (hG : kg_N G = 55 + 14 * n) (d : Nat) {S : kS} {a1 : Int32} {a2 : Int32} {a3 : Int32} {res : Int32 × kS} (h : FX4_addRow S a1 a2 a3 = some res) : kEv l G (d + 0) mX4_addRow [.ref (kg_ad G (kbo 1)), .int a1, .int a2, .int a3] (kgl G n S) (some (.int res.1)) (kgl G n res.2) := by
  refine kEv_of RX4 [some (.ref (kg_ad G (kbo 1))), some (.int a1), some (.int a2), some (.int a3)] rfl (by decide +kernel) rfl rfl rfl rfl (fun X hX => ?_)
  subst hX
  unfold FX4_addRow at h
  refine kV_aloadn 1 dX4_addRow_0 rfl rfl ?_
  obtain ⟨x1, hx, h⟩ := kb_ex h
  refine rg4_15 4 dX4_addRow_1 (kOk_of hG rfl) rfl hx rfl ?_
  clear hx
  rcases kif_ex h with ⟨hc, h⟩ | ⟨hc, h⟩
  · refine kV_if_gt_t 10 dX4_addRow_4 (by decide) hc ?_
    clear hc
    refine kV_aloadn 11 dX4_addRow_10 rfl rfl ?_
    obtain ⟨x2, hx, h⟩ := kb_ex h
    refine rg4_9 14 dX4_addRow_11 (kOk_of hG rfl) rfl hx rfl ?_
    clear hx
    refine kV_bipush 16 dX4_addRow_14 bp_20 rfl ?_
    rcases kif_ex h with ⟨hc, h⟩ | ⟨hc, h⟩
    · refine kV_icmp_lt_t 22 dX4_addRow_16 (by decide) hc ?_
      clear hc
      refine kV_aloadn 23 dX4_addRow_22 rfl rfl ?_
      refine rg4_18 26 dX4_addRow_23 (kOk_of hG rfl) rfl rfl ?_
      refine kV_aloadn 27 dX4_addRow_26 rfl rfl ?_
      obtain ⟨x3, hx, h⟩ := kb_ex h
      refine rg4_9 30 dX4_addRow_27 (kOk_of hG rfl) rfl hx rfl ?_
      clear hx
      refine kV_iloadn 31 dX4_addRow_30 rfl rfl ?_
      obtain ⟨hi, h⟩ := kgd_ex h
      obtain ⟨S1, hx, h⟩ := kb_ex h
      refine rs4_2 32 dX4_addRow_31 (kOk_of hG rfl) rfl hi hx rfl ?_
      clear hi hx
      refine kV_aloadn 33 dX4_addRow_32 rfl rfl ?_
      refine rg4_22 36 dX4_addRow_33 (kOk_of hG rfl) rfl rfl ?_
      refine kV_aloadn 37 dX4_addRow_36 rfl rfl ?_
      obtain ⟨x4, hx, h⟩ := kb_ex h
      refine rg4_9 40 dX4_addRow_37 (kOk_of hG rfl) rfl hx rfl ?_
      clear hx
      refine kV_iloadn 41 dX4_addRow_40 rfl rfl ?_
      obtain ⟨hi, h⟩ := kgd_ex h
      obtain ⟨S2, hx, h⟩ := kb_ex h
      refine rs4_3 42 dX4_addRow_41 (kOk_of hG rfl) rfl hi hx rfl ?_
      clear hi hx
      refine kV_aloadn 43 dX4_addRow_42 rfl rfl ?_
      refine rg4_25 46 dX4_addRow_43 (kOk_of hG rfl) rfl rfl ?_
      refine kV_aloadn 47 dX4_addRow_46 rfl rfl ?_
      obtain ⟨x5, hx, h⟩ := kb_ex h
      refine rg4_9 50 dX4_addRow_47 (kOk_of hG rfl) rfl hx rfl ?_
      clear hx
      refine kV_iloadn 51 dX4_addRow_50 rfl rfl ?_
      obtain ⟨hi, h⟩ := kgd_ex h
      obtain ⟨S3, hx, h⟩ := kb_ex h
      refine rs4_4 52 dX4_addRow_51 (kOk_of hG rfl) rfl hi hx rfl ?_
      clear hi hx
      refine kV_aloadn 53 dX4_addRow_52 rfl rfl ?_
      refine rg4_28 56 dX4_addRow_53 (kOk_of hG rfl) rfl rfl ?_
      refine kV_aloadn 57 dX4_addRow_56 rfl rfl ?_
      obtain ⟨x6, hx, h⟩ := kb_ex h
      refine rg4_9 60 dX4_addRow_57 (kOk_of hG rfl) rfl hx rfl ?_
      clear hx
      refine kV_aloadn 61 dX4_addRow_60 rfl rfl ?_
      obtain ⟨x7, hx, h⟩ := kb_ex h
      refine rg4_15 64 dX4_addRow_61 (kOk_of hG rfl) rfl hx rfl ?_
      clear hx
      obtain ⟨hi, h⟩ := kgd_ex h
      obtain ⟨S4, hx, h⟩ := kb_ex h
      refine rs4_5 65 dX4_addRow_64 (kOk_of hG rfl) rfl hi hx rfl ?_
      clear hi hx
      refine kV_aloadn 66 dX4_addRow_65 rfl rfl ?_
      refine kV_iconst 67 dX4_addRow_66 ic_0 rfl ?_
      obtain ⟨S5, hx, h⟩ := kb_ex h
      refine rp4_15 70 dX4_addRow_67 (kOk_of hG rfl) rfl hx rfl ?_
      clear hx
      refine kV_aloadn 71 dX4_addRow_70 rfl rfl ?_
      refine kV_dup 72 dX4_addRow_71 rfl rfl ?_
      obtain ⟨x8, hx, h⟩ := kb_ex h
      refine rg4_9 75 dX4_addRow_72 (kOk_of hG rfl) rfl hx rfl ?_
      clear hx
      refine kV_iconst 76 dX4_addRow_75 ic_1 rfl ?_
      refine kV_iadd 77 dX4_addRow_76 rfl ?_
      obtain ⟨S6, hx, h⟩ := kb_ex h
      refine rp4_9 80 dX4_addRow_77 (kOk_of hG rfl) rfl hx rfl ?_
      clear hx
      refine kV_aloadn 81 dX4_addRow_80 rfl rfl ?_
      obtain ⟨x9, hx, h⟩ := kb_ex h
      refine rg4_9 84 dX4_addRow_81 (kOk_of hG rfl) rfl hx rfl ?_
      clear hx
      refine kV_iconst 85 dX4_addRow_84 ic_1 rfl ?_
      refine kV_isub 86 dX4_addRow_85 rfl ?_
      cases h
      exact kV_iret dX4_addRow_86
    · refine kV_icmp_lt_f 22 19 dX4_addRow_16 (by decide) hc rfl ?_
      clear hc
      refine kV_bipush 21 dX4_addRow_19 bp_m4 rfl ?_
      cases h
      exact kV_iret dX4_addRow_21
  · refine kV_if_gt_f 10 7 dX4_addRow_4 (by decide) hc rfl ?_
    clear hc
    refine kV_bipush 9 dX4_addRow_7 bp_m3 rfl ?_
    cases h
    exact kV_iret dX4_addRow_9
