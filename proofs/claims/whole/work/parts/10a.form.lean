abbrev mX5_isWord : kM := (yX5_isWord, cX5_isWord, 1, (some .boolean))
theorem kmtX5_isWord : kMt mX5_isWord 1 := ⟨⟨(wi_r11 _ (List.mem_of_getElem? (i := 5) rfl)), (wi_r1 _ (List.mem_of_getElem? (i := 2) rfl)), ⟨by decide +kernel, by decide +kernel, by decide +kernel⟩, by decide⟩, (wi_r11 _ (List.mem_of_getElem? (i := 4) rfl))⟩
def FX5_isWord_J15 (S : kS) (s0 : Int32) : Option (Int32) :=
  kgd (kz s0) <| some s0
def FX5_isWord_J14 (S : kS) : Option (Int32) :=
  FX5_isWord_J15 S (0 : Int32)
def FX5_isWord (S : kS) (a1 : Int32) : Option (Int32) :=
  if a1 < 0 then (FX5_isWord_J14 S) else (if (64 : Int32) ≤ a1 then (FX5_isWord_J14 S) else (FX5_isWord_J15 S (1 : Int32)))
theorem TX5_isWord_J15 {G : kG} {n : Nat} {d : Nat} {X : kX} (hG : kg_N G = 55 + 14 * n) {S : kS} {s0 : Int32} {res : Int32} (h : FX5_isWord_J15 S s0 = some res) : kV (X, RX5, 1, (some .boolean), G, krm (d + 0), (0, 0), kQ X G (some (.int res)) (kgl G n S)) cX5_isWord (kgl G n S) [none] [.int s0] 15 := by
  unfold FX5_isWord_J15 at h
  obtain ⟨hz, h⟩ := kgd_ex h
  cases h
  exact kV_zret dX5_isWord_15 (of_decide_eq_true hz)
theorem TX5_isWord_J14 {G : kG} {n : Nat} {d : Nat} {X : kX} (hG : kg_N G = 55 + 14 * n) {S : kS} {res : Int32} (h : FX5_isWord_J14 S = some res) : kV (X, RX5, 1, (some .boolean), G, krm (d + 0), (0, 0), kQ X G (some (.int res)) (kgl G n S)) cX5_isWord (kgl G n S) [none] [] 14 := by
  unfold FX5_isWord_J14 at h
  refine kV_iconst 15 dX5_isWord_14 ic_0 rfl ?_
  refine kV_drop [false] rfl ?_
  exact TX5_isWord_J15 hG h
theorem okX5_isWord {l : Launch} {G : kG} {n : Nat} (hG : kg_N G = 55 + 14 * n) (d : Nat) {S : kS} {a1 : Int32} {res : Int32} (h : FX5_isWord S a1 = some res) : kEv l G (d + 0) mX5_isWord [.int a1] (kgl G n S) (some (.int res)) (kgl G n S) := by
  refine kEv_of RX5 [some (.int a1)] rfl (by decide +kernel) rfl rfl rfl rfl (fun X hX => ?_)
  subst hX
  unfold FX5_isWord at h
  refine kV_iloadn 1 dX5_isWord_0 rfl rfl ?_
  rcases kif_ex h with ⟨hc, h⟩ | ⟨hc, h⟩
  · refine kV_if_lt_t 14 dX5_isWord_1 (by decide) hc ?_
    clear hc
    refine kV_drop [false] rfl ?_
    exact TX5_isWord_J14 hG h
  · refine kV_if_lt_f 14 4 dX5_isWord_1 (by decide) hc rfl ?_
    clear hc
    refine kV_iloadn 5 dX5_isWord_4 rfl rfl ?_
    refine kV_bipush 7 dX5_isWord_5 bp_64 rfl ?_
    rcases kif_ex h with ⟨hc, h⟩ | ⟨hc, h⟩
    · refine kV_icmp_ge_t 14 dX5_isWord_7 (by decide) hc ?_
      clear hc
      refine kV_drop [false] rfl ?_
      exact TX5_isWord_J14 hG h
    · refine kV_icmp_ge_f 14 10 dX5_isWord_7 (by decide) hc rfl ?_
      clear hc
      refine kV_iconst 11 dX5_isWord_10 ic_1 rfl ?_
      refine kV_goto 15 dX5_isWord_11 (by decide) ?_
      refine kV_drop [false] rfl ?_
      exact TX5_isWord_J15 hG h
abbrev mJ6_bitCount_0f7a4 : kM := (yJ6_bitCount_0f7a4, cJ6_bitCount_0f7a4, 1, (some .int))
theorem kmtJ6_bitCount_0f7a4 : kMt mJ6_bitCount_0f7a4 1 := ⟨⟨(wi_r28 _ (List.mem_of_getElem? (i := 13) rfl)), (wi_r28 _ (List.mem_of_getElem? (i := 12) rfl)), ⟨by decide +kernel, by decide +kernel, by decide +kernel⟩, by decide⟩, (wi_r28 _ (List.mem_of_getElem? (i := 11) rfl))⟩
def FJ6_bitCount_0f7a4 (S : kS) (a1 : Int32) : Option (Int32) :=
  some ((((((((a1 - ((kus a1 (1 : Int32)) &&& (1431655765 : Int32))) &&& (858993459 : Int32)) + ((kus (a1 - ((kus a1 (1 : Int32)) &&& (1431655765 : Int32))) (2 : Int32)) &&& (858993459 : Int32))) + (kus (((a1 - ((kus a1 (1 : Int32)) &&& (1431655765 : Int32))) &&& (858993459 : Int32)) + ((kus (a1 - ((kus a1 (1 : Int32)) &&& (1431655765 : Int32))) (2 : Int32)) &&& (858993459 : Int32))) (4 : Int32))) &&& (252645135 : Int32)) + (kus (((((a1 - ((kus a1 (1 : Int32)) &&& (1431655765 : Int32))) &&& (858993459 : Int32)) + ((kus (a1 - ((kus a1 (1 : Int32)) &&& (1431655765 : Int32))) (2 : Int32)) &&& (858993459 : Int32))) + (kus (((a1 - ((kus a1 (1 : Int32)) &&& (1431655765 : Int32))) &&& (858993459 : Int32)) + ((kus (a1 - ((kus a1 (1 : Int32)) &&& (1431655765 : Int32))) (2 : Int32)) &&& (858993459 : Int32))) (4 : Int32))) &&& (252645135 : Int32)) (8 : Int32))) + (kus ((((((a1 - ((kus a1 (1 : Int32)) &&& (1431655765 : Int32))) &&& (858993459 : Int32)) + ((kus (a1 - ((kus a1 (1 : Int32)) &&& (1431655765 : Int32))) (2 : Int32)) &&& (858993459 : Int32))) + (kus (((a1 - ((kus a1 (1 : Int32)) &&& (1431655765 : Int32))) &&& (858993459 : Int32)) + ((kus (a1 - ((kus a1 (1 : Int32)) &&& (1431655765 : Int32))) (2 : Int32)) &&& (858993459 : Int32))) (4 : Int32))) &&& (252645135 : Int32)) + (kus (((((a1 - ((kus a1 (1 : Int32)) &&& (1431655765 : Int32))) &&& (858993459 : Int32)) + ((kus (a1 - ((kus a1 (1 : Int32)) &&& (1431655765 : Int32))) (2 : Int32)) &&& (858993459 : Int32))) + (kus (((a1 - ((kus a1 (1 : Int32)) &&& (1431655765 : Int32))) &&& (858993459 : Int32)) + ((kus (a1 - ((kus a1 (1 : Int32)) &&& (1431655765 : Int32))) (2 : Int32)) &&& (858993459 : Int32))) (4 : Int32))) &&& (252645135 : Int32)) (8 : Int32))) (16 : Int32))) &&& (63 : Int32))
theorem okJ6_bitCount_0f7a4 {l : Launch} {G : kG} {n : Nat} (hG : kg_N G = 55 + 14 * n) (d : Nat) {S : kS} {a1 : Int32} {res : Int32} (h : FJ6_bitCount_0f7a4 S a1 = some res) : kEv l G (d + 0) mJ6_bitCount_0f7a4 [.int a1] (kgl G n S) (some (.int res)) (kgl G n S) := by
  refine kEv_of RJ6 [some (.int a1)] rfl (by decide +kernel) rfl rfl rfl rfl (fun X hX => ?_)
  subst hX
  unfold FJ6_bitCount_0f7a4 at h
  refine kV_iloadn 1 dJ6_bitCount_0f7a4_0 rfl rfl ?_
  refine kV_iloadn 2 dJ6_bitCount_0f7a4_1 rfl rfl ?_
  refine kV_iconst 3 dJ6_bitCount_0f7a4_2 ic_1 rfl ?_
  refine kV_iushr 4 dJ6_bitCount_0f7a4_3 rfl ?_
  refine kV_ldcw 7 dJ6_bitCount_0f7a4_4 (wi_r28 _ (List.mem_of_getElem? (i := 14) rfl)) rfl ?_
  refine kV_iand 8 dJ6_bitCount_0f7a4_7 rfl ?_
  refine kV_isub 9 dJ6_bitCount_0f7a4_8 rfl ?_
  refine kV_istoren 10 [some (.int (a1 - ((kus a1 (1 : Int32)) &&& (1431655765 : Int32))))] dJ6_bitCount_0f7a4_9 rfl rfl rfl ?_
  refine kV_iloadn 11 dJ6_bitCount_0f7a4_10 rfl rfl ?_
  refine kV_ldcw 14 dJ6_bitCount_0f7a4_11 (wi_r28 _ (List.mem_of_getElem? (i := 15) rfl)) rfl ?_
  refine kV_iand 15 dJ6_bitCount_0f7a4_14 rfl ?_
  refine kV_iloadn 16 dJ6_bitCount_0f7a4_15 rfl rfl ?_
  refine kV_iconst 17 dJ6_bitCount_0f7a4_16 ic_2 rfl ?_
  refine kV_iushr 18 dJ6_bitCount_0f7a4_17 rfl ?_
  refine kV_ldcw 21 dJ6_bitCount_0f7a4_18 (wi_r28 _ (List.mem_of_getElem? (i := 15) rfl)) rfl ?_
  refine kV_iand 22 dJ6_bitCount_0f7a4_21 rfl ?_
  refine kV_iadd 23 dJ6_bitCount_0f7a4_22 rfl ?_
  refine kV_istoren 24 [some (.int (((a1 - ((kus a1 (1 : Int32)) &&& (1431655765 : Int32))) &&& (858993459 : Int32)) + ((kus (a1 - ((kus a1 (1 : Int32)) &&& (1431655765 : Int32))) (2 : Int32)) &&& (858993459 : Int32))))] dJ6_bitCount_0f7a4_23 rfl rfl rfl ?_
  refine kV_iloadn 25 dJ6_bitCount_0f7a4_24 rfl rfl ?_
  refine kV_iloadn 26 dJ6_bitCount_0f7a4_25 rfl rfl ?_
  refine kV_iconst 27 dJ6_bitCount_0f7a4_26 ic_4 rfl ?_
  refine kV_iushr 28 dJ6_bitCount_0f7a4_27 rfl ?_
  refine kV_iadd 29 dJ6_bitCount_0f7a4_28 rfl ?_
  refine kV_ldcw 32 dJ6_bitCount_0f7a4_29 (wi_r28 _ (List.mem_of_getElem? (i := 16) rfl)) rfl ?_
  refine kV_iand 33 dJ6_bitCount_0f7a4_32 rfl ?_
  refine kV_istoren 34 [some (.int (((((a1 - ((kus a1 (1 : Int32)) &&& (1431655765 : Int32))) &&& (858993459 : Int32)) + ((kus (a1 - ((kus a1 (1 : Int32)) &&& (1431655765 : Int32))) (2 : Int32)) &&& (858993459 : Int32))) + (kus (((a1 - ((kus a1 (1 : Int32)) &&& (1431655765 : Int32))) &&& (858993459 : Int32)) + ((kus (a1 - ((kus a1 (1 : Int32)) &&& (1431655765 : Int32))) (2 : Int32)) &&& (858993459 : Int32))) (4 : Int32))) &&& (252645135 : Int32)))] dJ6_bitCount_0f7a4_33 rfl rfl rfl ?_
  refine kV_iloadn 35 dJ6_bitCount_0f7a4_34 rfl rfl ?_
  refine kV_iloadn 36 dJ6_bitCount_0f7a4_35 rfl rfl ?_
  refine kV_bipush 38 dJ6_bitCount_0f7a4_36 bp_8 rfl ?_
  refine kV_iushr 39 dJ6_bitCount_0f7a4_38 rfl ?_
  refine kV_iadd 40 dJ6_bitCount_0f7a4_39 rfl ?_
  refine kV_istoren 41 [some (.int ((((((a1 - ((kus a1 (1 : Int32)) &&& (1431655765 : Int32))) &&& (858993459 : Int32)) + ((kus (a1 - ((kus a1 (1 : Int32)) &&& (1431655765 : Int32))) (2 : Int32)) &&& (858993459 : Int32))) + (kus (((a1 - ((kus a1 (1 : Int32)) &&& (1431655765 : Int32))) &&& (858993459 : Int32)) + ((kus (a1 - ((kus a1 (1 : Int32)) &&& (1431655765 : Int32))) (2 : Int32)) &&& (858993459 : Int32))) (4 : Int32))) &&& (252645135 : Int32)) + (kus (((((a1 - ((kus a1 (1 : Int32)) &&& (1431655765 : Int32))) &&& (858993459 : Int32)) + ((kus (a1 - ((kus a1 (1 : Int32)) &&& (1431655765 : Int32))) (2 : Int32)) &&& (858993459 : Int32))) + (kus (((a1 - ((kus a1 (1 : Int32)) &&& (1431655765 : Int32))) &&& (858993459 : Int32)) + ((kus (a1 - ((kus a1 (1 : Int32)) &&& (1431655765 : Int32))) (2 : Int32)) &&& (858993459 : Int32))) (4 : Int32))) &&& (252645135 : Int32)) (8 : Int32))))] dJ6_bitCount_0f7a4_40 rfl rfl rfl ?_
  refine kV_iloadn 42 dJ6_bitCount_0f7a4_41 rfl rfl ?_
  refine kV_iloadn 43 dJ6_bitCount_0f7a4_42 rfl rfl ?_
  refine kV_bipush 45 dJ6_bitCount_0f7a4_43 bp_16 rfl ?_
  refine kV_iushr 46 dJ6_bitCount_0f7a4_45 rfl ?_
  refine kV_iadd 47 dJ6_bitCount_0f7a4_46 rfl ?_
  refine kV_istoren 48 [some (.int (((((((a1 - ((kus a1 (1 : Int32)) &&& (1431655765 : Int32))) &&& (858993459 : Int32)) + ((kus (a1 - ((kus a1 (1 : Int32)) &&& (1431655765 : Int32))) (2 : Int32)) &&& (858993459 : Int32))) + (kus (((a1 - ((kus a1 (1 : Int32)) &&& (1431655765 : Int32))) &&& (858993459 : Int32)) + ((kus (a1 - ((kus a1 (1 : Int32)) &&& (1431655765 : Int32))) (2 : Int32)) &&& (858993459 : Int32))) (4 : Int32))) &&& (252645135 : Int32)) + (kus (((((a1 - ((kus a1 (1 : Int32)) &&& (1431655765 : Int32))) &&& (858993459 : Int32)) + ((kus (a1 - ((kus a1 (1 : Int32)) &&& (1431655765 : Int32))) (2 : Int32)) &&& (858993459 : Int32))) + (kus (((a1 - ((kus a1 (1 : Int32)) &&& (1431655765 : Int32))) &&& (858993459 : Int32)) + ((kus (a1 - ((kus a1 (1 : Int32)) &&& (1431655765 : Int32))) (2 : Int32)) &&& (858993459 : Int32))) (4 : Int32))) &&& (252645135 : Int32)) (8 : Int32))) + (kus ((((((a1 - ((kus a1 (1 : Int32)) &&& (1431655765 : Int32))) &&& (858993459 : Int32)) + ((kus (a1 - ((kus a1 (1 : Int32)) &&& (1431655765 : Int32))) (2 : Int32)) &&& (858993459 : Int32))) + (kus (((a1 - ((kus a1 (1 : Int32)) &&& (1431655765 : Int32))) &&& (858993459 : Int32)) + ((kus (a1 - ((kus a1 (1 : Int32)) &&& (1431655765 : Int32))) (2 : Int32)) &&& (858993459 : Int32))) (4 : Int32))) &&& (252645135 : Int32)) + (kus (((((a1 - ((kus a1 (1 : Int32)) &&& (1431655765 : Int32))) &&& (858993459 : Int32)) + ((kus (a1 - ((kus a1 (1 : Int32)) &&& (1431655765 : Int32))) (2 : Int32)) &&& (858993459 : Int32))) + (kus (((a1 - ((kus a1 (1 : Int32)) &&& (1431655765 : Int32))) &&& (858993459 : Int32)) + ((kus (a1 - ((kus a1 (1 : Int32)) &&& (1431655765 : Int32))) (2 : Int32)) &&& (858993459 : Int32))) (4 : Int32))) &&& (252645135 : Int32)) (8 : Int32))) (16 : Int32))))] dJ6_bitCount_0f7a4_47 rfl rfl rfl ?_
  refine kV_iloadn 49 dJ6_bitCount_0f7a4_48 rfl rfl ?_
  refine kV_bipush 51 dJ6_bitCount_0f7a4_49 bp_63 rfl ?_
  refine kV_iand 52 dJ6_bitCount_0f7a4_51 rfl ?_
  cases h
  exact kV_iret dJ6_bitCount_0f7a4_52
abbrev mX0_placeCount : kM := (yX0_placeCount, cX0_placeCount, 1, (some .int))
theorem kmvX0_placeCount : kMv mX0_placeCount 0 0 := ⟨⟨(wi_r20 _ (List.mem_of_getElem? (i := 19) rfl)), (wi_r6 _ (List.mem_of_getElem? (i := 1) rfl)), ⟨by decide +kernel, by decide +kernel, by decide +kernel⟩, by decide⟩, (wi_r20 _ (List.mem_of_getElem? (i := 17) rfl)), (wi_r20 _ (List.mem_of_getElem? (i := 18) rfl)), rfl⟩
def FX0_placeCount (o : Nat) (S : kS) : Option (Int32) :=
  kb (kI S o 0) fun x1 => some x1
theorem okX0_placeCount {l : Launch} {G : kG} {n : Nat} (hG : kg_N G = 55 + 14 * n) (d : Nat) {o : Nat} (ho_o : kfm n o = true) {S : kS} {res : Int32} (h : FX0_placeCount o S = some res) : kEv l G (d + 0) mX0_placeCount [.ref (kg_ad G (kbo o))] (kgl G n S) (some (.int res)) (kgl G n S) := by
  refine kEv_of RX0 [some (.ref (kg_ad G (kbo o)))] rfl (by decide +kernel) rfl rfl rfl rfl (fun X hX => ?_)
  subst hX
  have hO_o := kOk_fm hG ho_o
  have hc_o := kci_fm ho_o
  unfold FX0_placeCount at h
  refine kV_aloadn 1 dX0_placeCount_0 rfl rfl ?_
  obtain ⟨x1, hx, h⟩ := kb_ex h
  refine rg0_9 4 dX0_placeCount_1 hO_o hc_o hx rfl ?_
  clear hx
  cases h
  exact kV_iret dX0_placeCount_4
abbrev mX0_hasPlace : kM := (yX0_hasPlace, cX0_hasPlace, 2, (some .boolean))
theorem kmvX0_hasPlace : kMv mX0_hasPlace 1 0 := ⟨⟨(wi_r9 _ (List.mem_of_getElem? (i := 1) rfl)), (wi_r6 _ (List.mem_of_getElem? (i := 1) rfl)), ⟨by decide +kernel, by decide +kernel, by decide +kernel⟩, by decide⟩, (wi_r8 _ (List.mem_of_getElem? (i := 23) rfl)), (wi_r9 _ (List.mem_of_getElem? (i := 0) rfl)), rfl⟩
def FX0_hasPlace_J22 (o : Nat) (S : kS) (s0 : Int32) : Option (Int32) :=
  kgd (kz s0) <| some s0
def FX0_hasPlace_J21 (o : Nat) (S : kS) : Option (Int32) :=
  FX0_hasPlace_J22 o S (0 : Int32)
def FX0_hasPlace (o : Nat) (S : kS) (a1 : Int32) : Option (Int32) :=
  if a1 < 0 then (FX0_hasPlace_J21 o S) else (kb (kI S o 0) fun x1 => if x1 ≤ a1 then (FX0_hasPlace_J21 o S) else (if (5 : Int32) ≤ a1 then (FX0_hasPlace_J21 o S) else (FX0_hasPlace_J22 o S (1 : Int32))))
theorem TX0_hasPlace_J22 {G : kG} {n : Nat} {d : Nat} {X : kX} (hG : kg_N G = 55 + 14 * n) {o : Nat} (ho_o : kfm n o = true) {S : kS} {s0 : Int32} {res : Int32} (h : FX0_hasPlace_J22 o S s0 = some res) : kV (X, RX0, 2, (some .boolean), G, krm (d + 0), (0, 0), kQ X G (some (.int res)) (kgl G n S)) cX0_hasPlace (kgl G n S) [none, none] [.int s0] 22 := by
  have hO_o := kOk_fm hG ho_o
  have hc_o := kci_fm ho_o
  unfold FX0_hasPlace_J22 at h
  obtain ⟨hz, h⟩ := kgd_ex h
  cases h
  exact kV_zret dX0_hasPlace_22 (of_decide_eq_true hz)
theorem TX0_hasPlace_J21 {G : kG} {n : Nat} {d : Nat} {X : kX} (hG : kg_N G = 55 + 14 * n) {o : Nat} (ho_o : kfm n o = true) {S : kS} {res : Int32} (h : FX0_hasPlace_J21 o S = some res) : kV (X, RX0, 2, (some .boolean), G, krm (d + 0), (0, 0), kQ X G (some (.int res)) (kgl G n S)) cX0_hasPlace (kgl G n S) [none, none] [] 21 := by
  have hO_o := kOk_fm hG ho_o
  have hc_o := kci_fm ho_o
  unfold FX0_hasPlace_J21 at h
  refine kV_iconst 22 dX0_hasPlace_21 ic_0 rfl ?_
  refine kV_drop [false, false] rfl ?_
  exact TX0_hasPlace_J22 hG ho_o h
theorem okX0_hasPlace {l : Launch} {G : kG} {n : Nat} (hG : kg_N G = 55 + 14 * n) (d : Nat) {o : Nat} (ho_o : kfm n o = true) {S : kS} {a1 : Int32} {res : Int32} (h : FX0_hasPlace o S a1 = some res) : kEv l G (d + 0) mX0_hasPlace [.ref (kg_ad G (kbo o)), .int a1] (kgl G n S) (some (.int res)) (kgl G n S) := by
  refine kEv_of RX0 [some (.ref (kg_ad G (kbo o))), some (.int a1)] rfl (by decide +kernel) rfl rfl rfl rfl (fun X hX => ?_)
  subst hX
  have hO_o := kOk_fm hG ho_o
  have hc_o := kci_fm ho_o
  unfold FX0_hasPlace at h
  refine kV_iloadn 1 dX0_hasPlace_0 rfl rfl ?_
  rcases kif_ex h with ⟨hc, h⟩ | ⟨hc, h⟩
  · refine kV_if_lt_t 21 dX0_hasPlace_1 (by decide) hc ?_
    clear hc
    refine kV_drop [false, false] rfl ?_
    exact TX0_hasPlace_J21 hG ho_o h
  · refine kV_if_lt_f 21 4 dX0_hasPlace_1 (by decide) hc rfl ?_
    clear hc
    refine kV_iloadn 5 dX0_hasPlace_4 rfl rfl ?_
    refine kV_aloadn 6 dX0_hasPlace_5 rfl rfl ?_
    obtain ⟨x1, hx, h⟩ := kb_ex h
    refine rg0_9 9 dX0_hasPlace_6 hO_o hc_o hx rfl ?_
    clear hx
    rcases kif_ex h with ⟨hc, h⟩ | ⟨hc, h⟩
    · refine kV_icmp_ge_t 21 dX0_hasPlace_9 (by decide) hc ?_
      clear hc
      refine kV_drop [false, false] rfl ?_
      exact TX0_hasPlace_J21 hG ho_o h
    · refine kV_icmp_ge_f 21 12 dX0_hasPlace_9 (by decide) hc rfl ?_
      clear hc
      refine kV_iloadn 13 dX0_hasPlace_12 rfl rfl ?_
      refine kV_iconst 14 dX0_hasPlace_13 ic_5 rfl ?_
      rcases kif_ex h with ⟨hc, h⟩ | ⟨hc, h⟩
      · refine kV_icmp_ge_t 21 dX0_hasPlace_14 (by decide) hc ?_
        clear hc
        refine kV_drop [false, false] rfl ?_
        exact TX0_hasPlace_J21 hG ho_o h
      · refine kV_icmp_ge_f 21 17 dX0_hasPlace_14 (by decide) hc rfl ?_
        clear hc
        refine kV_iconst 18 dX0_hasPlace_17 ic_1 rfl ?_
        refine kV_goto 22 dX0_hasPlace_18 (by decide) ?_
        refine kV_drop [false, false] rfl ?_
        exact TX0_hasPlace_J22 hG ho_o h
abbrev mX0_hasValue : kM := (yX0_hasValue, cX0_hasValue, 3, (some .boolean))
theorem kmvX0_hasValue : kMv mX0_hasValue 2 0 := ⟨⟨(wi_r9 _ (List.mem_of_getElem? (i := 22) rfl)), (wi_r6 _ (List.mem_of_getElem? (i := 1) rfl)), ⟨by decide +kernel, by decide +kernel, by decide +kernel⟩, by decide⟩, (wi_r9 _ (List.mem_of_getElem? (i := 20) rfl)), (wi_r9 _ (List.mem_of_getElem? (i := 21) rfl)), rfl⟩
def FX0_hasValue_J27 (o : Nat) (S : kS) (s0 : Int32) : Option (Int32) :=
  kgd (kz s0) <| some s0
def FX0_hasValue_J26 (o : Nat) (S : kS) : Option (Int32) :=
  FX0_hasValue_J27 o S (0 : Int32)
def FX0_hasValue (o : Nat) (S : kS) (a1 : Int32) (a2 : Int32) : Option (Int32) :=
  (FX0_hasPlace o S a1).bind fun x1 => if x1 = 0 then (FX0_hasValue_J26 o S) else (if a2 < 0 then (FX0_hasValue_J26 o S) else (kgd (kin a1 5) <| kb (kA S o 2 a1) fun x2 => if x2 ≤ a2 then (FX0_hasValue_J26 o S) else (FX0_hasValue_J27 o S (1 : Int32))))
theorem TX0_hasValue_J27 {G : kG} {n : Nat} {d : Nat} {X : kX} (hG : kg_N G = 55 + 14 * n) {o : Nat} (ho_o : kfm n o = true) {S : kS} {s0 : Int32} {res : Int32} (h : FX0_hasValue_J27 o S s0 = some res) : kV (X, RX0, 3, (some .boolean), G, krm (d + 1), (0, 0), kQ X G (some (.int res)) (kgl G n S)) cX0_hasValue (kgl G n S) [none, none, none] [.int s0] 27 := by
  have hO_o := kOk_fm hG ho_o
  have hc_o := kci_fm ho_o
  unfold FX0_hasValue_J27 at h
  obtain ⟨hz, h⟩ := kgd_ex h
  cases h
  exact kV_zret dX0_hasValue_27 (of_decide_eq_true hz)
theorem TX0_hasValue_J26 {G : kG} {n : Nat} {d : Nat} {X : kX} (hG : kg_N G = 55 + 14 * n) {o : Nat} (ho_o : kfm n o = true) {S : kS} {res : Int32} (h : FX0_hasValue_J26 o S = some res) : kV (X, RX0, 3, (some .boolean), G, krm (d + 1), (0, 0), kQ X G (some (.int res)) (kgl G n S)) cX0_hasValue (kgl G n S) [none, none, none] [] 26 := by
  have hO_o := kOk_fm hG ho_o
  have hc_o := kci_fm ho_o
  unfold FX0_hasValue_J26 at h
  refine kV_iconst 27 dX0_hasValue_26 ic_0 rfl ?_
  refine kV_drop [false, false, false] rfl ?_
  exact TX0_hasValue_J27 hG ho_o h
theorem okX0_hasValue {l : Launch} {G : kG} {n : Nat} (hG : kg_N G = 55 + 14 * n) (d : Nat) {o : Nat} (ho_o : kfm n o = true) {S : kS} {a1 : Int32} {a2 : Int32} {res : Int32} (h : FX0_hasValue o S a1 a2 = some res) : kEv l G (d + 1) mX0_hasValue [.ref (kg_ad G (kbo o)), .int a1, .int a2] (kgl G n S) (some (.int res)) (kgl G n S) := by
  refine kEv_of RX0 [some (.ref (kg_ad G (kbo o))), some (.int a1), some (.int a2)] rfl (by decide +kernel) rfl rfl rfl rfl (fun X hX => ?_)
  subst hX
  have hO_o := kOk_fm hG ho_o
  have hc_o := kci_fm ho_o
  unfold FX0_hasValue at h
  refine kV_aloadn 1 dX0_hasValue_0 rfl rfl ?_
  refine kV_iloadn 2 dX0_hasValue_1 rfl rfl ?_
  obtain ⟨x1, hx, h⟩ := kbi_ex h
  refine kC_V 5 [] [.int x1] dX0_hasValue_2 (okX0_hasPlace hG d ho_o hx) kmvX0_hasPlace (wi_r9 _ (List.mem_of_getElem? (i := 6) rfl)) hO_o hc_o rfl rfl rfl rfl rfl ?_
  clear hx
  rcases kif_ex h with ⟨hc, h⟩ | ⟨hc, h⟩
  · refine kV_if_eq_t 26 dX0_hasValue_5 (by decide) hc ?_
    clear hc
    refine kV_drop [false, false, false] rfl ?_
    exact TX0_hasValue_J26 hG ho_o h
  · refine kV_if_eq_f 26 8 dX0_hasValue_5 (by decide) hc rfl ?_
    clear hc
    refine kV_iloadn 9 dX0_hasValue_8 rfl rfl ?_
    rcases kif_ex h with ⟨hc, h⟩ | ⟨hc, h⟩
    · refine kV_if_lt_t 26 dX0_hasValue_9 (by decide) hc ?_
      clear hc
      refine kV_drop [false, false, false] rfl ?_
      exact TX0_hasValue_J26 hG ho_o h
    · refine kV_if_lt_f 26 12 dX0_hasValue_9 (by decide) hc rfl ?_
      clear hc
      refine kV_iloadn 13 dX0_hasValue_12 rfl rfl ?_
      refine kV_aloadn 14 dX0_hasValue_13 rfl rfl ?_
      refine rg0_19 17 dX0_hasValue_14 hO_o hc_o rfl ?_
      refine kV_iloadn 18 dX0_hasValue_17 rfl rfl ?_
      obtain ⟨hi, h⟩ := kgd_ex h
      obtain ⟨x2, hx, h⟩ := kb_ex h
      refine rl0_2 19 dX0_hasValue_18 hO_o hc_o hi hx rfl ?_
      clear hi hx
      rcases kif_ex h with ⟨hc, h⟩ | ⟨hc, h⟩
      · refine kV_icmp_ge_t 26 dX0_hasValue_19 (by decide) hc ?_
        clear hc
        refine kV_drop [false, false, false] rfl ?_
        exact TX0_hasValue_J26 hG ho_o h
      · refine kV_icmp_ge_f 26 22 dX0_hasValue_19 (by decide) hc rfl ?_
        clear hc
        refine kV_iconst 23 dX0_hasValue_22 ic_1 rfl ?_
        refine kV_goto 27 dX0_hasValue_23 (by decide) ?_
        refine kV_drop [false, false, false] rfl ?_
        exact TX0_hasValue_J27 hG ho_o h
abbrev mX0_isWorked : kM := (yX0_isWorked, cX0_isWorked, 2, (some .boolean))
theorem kmvX0_isWorked : kMv mX0_isWorked 1 0 := ⟨⟨(wi_r9 _ (List.mem_of_getElem? (i := 5) rfl)), (wi_r6 _ (List.mem_of_getElem? (i := 1) rfl)), ⟨by decide +kernel, by decide +kernel, by decide +kernel⟩, by decide⟩, (wi_r9 _ (List.mem_of_getElem? (i := 3) rfl)), (wi_r9 _ (List.mem_of_getElem? (i := 4) rfl)), rfl⟩
def FX0_isWorked_J23 (o : Nat) (S : kS) (s0 : Int32) : Option (Int32) :=
  kgd (kz s0) <| some s0
def FX0_isWorked_J22 (o : Nat) (S : kS) : Option (Int32) :=
  FX0_isWorked_J23 o S (0 : Int32)
def FX0_isWorked (o : Nat) (S : kS) (a1 : Int32) : Option (Int32) :=
  (FX0_hasPlace o S a1).bind fun x1 => if x1 = 0 then (FX0_isWorked_J22 o S) else (kgd (kin a1 5) <| kb (kA S o 1 a1) fun x2 => if x2 = (1 : Int32) then (FX0_isWorked_J23 o S (1 : Int32)) else (FX0_isWorked_J22 o S))
theorem TX0_isWorked_J23 {G : kG} {n : Nat} {d : Nat} {X : kX} (hG : kg_N G = 55 + 14 * n) {o : Nat} (ho_o : kfm n o = true) {S : kS} {s0 : Int32} {res : Int32} (h : FX0_isWorked_J23 o S s0 = some res) : kV (X, RX0, 2, (some .boolean), G, krm (d + 1), (0, 0), kQ X G (some (.int res)) (kgl G n S)) cX0_isWorked (kgl G n S) [none, none] [.int s0] 23 := by
  have hO_o := kOk_fm hG ho_o
  have hc_o := kci_fm ho_o
  unfold FX0_isWorked_J23 at h
  obtain ⟨hz, h⟩ := kgd_ex h
  cases h
  exact kV_zret dX0_isWorked_23 (of_decide_eq_true hz)
theorem TX0_isWorked_J22 {G : kG} {n : Nat} {d : Nat} {X : kX} (hG : kg_N G = 55 + 14 * n) {o : Nat} (ho_o : kfm n o = true) {S : kS} {res : Int32} (h : FX0_isWorked_J22 o S = some res) : kV (X, RX0, 2, (some .boolean), G, krm (d + 1), (0, 0), kQ X G (some (.int res)) (kgl G n S)) cX0_isWorked (kgl G n S) [none, none] [] 22 := by
  have hO_o := kOk_fm hG ho_o
  have hc_o := kci_fm ho_o
  unfold FX0_isWorked_J22 at h
  refine kV_iconst 23 dX0_isWorked_22 ic_0 rfl ?_
  refine kV_drop [false, false] rfl ?_
  exact TX0_isWorked_J23 hG ho_o h
theorem okX0_isWorked {l : Launch} {G : kG} {n : Nat} (hG : kg_N G = 55 + 14 * n) (d : Nat) {o : Nat} (ho_o : kfm n o = true) {S : kS} {a1 : Int32} {res : Int32} (h : FX0_isWorked o S a1 = some res) : kEv l G (d + 1) mX0_isWorked [.ref (kg_ad G (kbo o)), .int a1] (kgl G n S) (some (.int res)) (kgl G n S) := by
  refine kEv_of RX0 [some (.ref (kg_ad G (kbo o))), some (.int a1)] rfl (by decide +kernel) rfl rfl rfl rfl (fun X hX => ?_)
  subst hX
  have hO_o := kOk_fm hG ho_o
  have hc_o := kci_fm ho_o
  unfold FX0_isWorked at h
  refine kV_aloadn 1 dX0_isWorked_0 rfl rfl ?_
  refine kV_iloadn 2 dX0_isWorked_1 rfl rfl ?_
  obtain ⟨x1, hx, h⟩ := kbi_ex h
  refine kC_V 5 [] [.int x1] dX0_isWorked_2 (okX0_hasPlace hG d ho_o hx) kmvX0_hasPlace (wi_r9 _ (List.mem_of_getElem? (i := 6) rfl)) hO_o hc_o rfl rfl rfl rfl rfl ?_
  clear hx
  rcases kif_ex h with ⟨hc, h⟩ | ⟨hc, h⟩
  · refine kV_if_eq_t 22 dX0_isWorked_5 (by decide) hc ?_
    clear hc
    refine kV_drop [false, false] rfl ?_
    exact TX0_isWorked_J22 hG ho_o h
  · refine kV_if_eq_f 22 8 dX0_isWorked_5 (by decide) hc rfl ?_
    clear hc
    refine kV_aloadn 9 dX0_isWorked_8 rfl rfl ?_
    refine rg0_15 12 dX0_isWorked_9 hO_o hc_o rfl ?_
    refine kV_iloadn 13 dX0_isWorked_12 rfl rfl ?_
    obtain ⟨hi, h⟩ := kgd_ex h
    obtain ⟨x2, hx, h⟩ := kb_ex h
    refine rl0_1 14 dX0_isWorked_13 hO_o hc_o hi hx rfl ?_
    clear hi hx
    refine kV_iconst 15 dX0_isWorked_14 ic_1 rfl ?_
    rcases kif_ex h with ⟨hc, h⟩ | ⟨hc, h⟩
    · refine kV_icmp_ne_f 22 18 dX0_isWorked_15 (by decide) hc rfl ?_
      clear hc
      refine kV_iconst 19 dX0_isWorked_18 ic_1 rfl ?_
      refine kV_goto 23 dX0_isWorked_19 (by decide) ?_
      refine kV_drop [false, false] rfl ?_
      exact TX0_isWorked_J23 hG ho_o h
    · refine kV_icmp_ne_t 22 dX0_isWorked_15 (by decide) hc ?_
      clear hc
      refine kV_drop [false, false] rfl ?_
      exact TX0_isWorked_J22 hG ho_o h
abbrev mX0_kindOf : kM := (yX0_kindOf, cX0_kindOf, 2, (some .int))
theorem kmvX0_kindOf : kMv mX0_kindOf 1 0 := ⟨⟨(wi_r30 _ (List.mem_of_getElem? (i := 17) rfl)), (wi_r6 _ (List.mem_of_getElem? (i := 1) rfl)), ⟨by decide +kernel, by decide +kernel, by decide +kernel⟩, by decide⟩, (wi_r30 _ (List.mem_of_getElem? (i := 15) rfl)), (wi_r30 _ (List.mem_of_getElem? (i := 16) rfl)), rfl⟩
def FX0_kindOf_J18 (o : Nat) (S : kS) (s0 : Int32) : Option (Int32) :=
  some s0
def FX0_kindOf (o : Nat) (S : kS) (a1 : Int32) : Option (Int32) :=
  (FX0_hasPlace o S a1).bind fun x1 => if x1 = 0 then (FX0_kindOf_J18 o S (-1 : Int32)) else (kgd (kin a1 5) <| kb (kA S o 1 a1) fun x2 => FX0_kindOf_J18 o S x2)
theorem TX0_kindOf_J18 {G : kG} {n : Nat} {d : Nat} {X : kX} (hG : kg_N G = 55 + 14 * n) {o : Nat} (ho_o : kfm n o = true) {S : kS} {s0 : Int32} {res : Int32} (h : FX0_kindOf_J18 o S s0 = some res) : kV (X, RX0, 2, (some .int), G, krm (d + 1), (0, 0), kQ X G (some (.int res)) (kgl G n S)) cX0_kindOf (kgl G n S) [none, none] [.int s0] 18 := by
  have hO_o := kOk_fm hG ho_o
  have hc_o := kci_fm ho_o
  unfold FX0_kindOf_J18 at h
  cases h
  exact kV_iret dX0_kindOf_18
theorem okX0_kindOf {l : Launch} {G : kG} {n : Nat} (hG : kg_N G = 55 + 14 * n) (d : Nat) {o : Nat} (ho_o : kfm n o = true) {S : kS} {a1 : Int32} {res : Int32} (h : FX0_kindOf o S a1 = some res) : kEv l G (d + 1) mX0_kindOf [.ref (kg_ad G (kbo o)), .int a1] (kgl G n S) (some (.int res)) (kgl G n S) := by
  refine kEv_of RX0 [some (.ref (kg_ad G (kbo o))), some (.int a1)] rfl (by decide +kernel) rfl rfl rfl rfl (fun X hX => ?_)
  subst hX
  have hO_o := kOk_fm hG ho_o
  have hc_o := kci_fm ho_o
  unfold FX0_kindOf at h
  refine kV_aloadn 1 dX0_kindOf_0 rfl rfl ?_
  refine kV_iloadn 2 dX0_kindOf_1 rfl rfl ?_
  obtain ⟨x1, hx, h⟩ := kbi_ex h
  refine kC_V 5 [] [.int x1] dX0_kindOf_2 (okX0_hasPlace hG d ho_o hx) kmvX0_hasPlace (wi_r9 _ (List.mem_of_getElem? (i := 6) rfl)) hO_o hc_o rfl rfl rfl rfl rfl ?_
  clear hx
  rcases kif_ex h with ⟨hc, h⟩ | ⟨hc, h⟩
  · refine kV_if_eq_t 17 dX0_kindOf_5 (by decide) hc ?_
    clear hc
    refine kV_iconst 18 dX0_kindOf_17 ic_m1 rfl ?_
    refine kV_drop [false, false] rfl ?_
    exact TX0_kindOf_J18 hG ho_o h
  · refine kV_if_eq_f 17 8 dX0_kindOf_5 (by decide) hc rfl ?_
    clear hc
    refine kV_aloadn 9 dX0_kindOf_8 rfl rfl ?_
    refine rg0_15 12 dX0_kindOf_9 hO_o hc_o rfl ?_
    refine kV_iloadn 13 dX0_kindOf_12 rfl rfl ?_
    obtain ⟨hi, h⟩ := kgd_ex h
    obtain ⟨x2, hx, h⟩ := kb_ex h
    refine rl0_1 14 dX0_kindOf_13 hO_o hc_o hi hx rfl ?_
    clear hi hx
    refine kV_goto 18 dX0_kindOf_14 (by decide) ?_
    refine kV_drop [false, false] rfl ?_
    exact TX0_kindOf_J18 hG ho_o h
abbrev mX0_sizeOf : kM := (yX0_sizeOf, cX0_sizeOf, 2, (some .int))
theorem kmvX0_sizeOf : kMv mX0_sizeOf 1 0 := ⟨⟨(wi_r27 _ (List.mem_of_getElem? (i := 19) rfl)), (wi_r6 _ (List.mem_of_getElem? (i := 1) rfl)), ⟨by decide +kernel, by decide +kernel, by decide +kernel⟩, by decide⟩, (wi_r27 _ (List.mem_of_getElem? (i := 17) rfl)), (wi_r27 _ (List.mem_of_getElem? (i := 18) rfl)), rfl⟩
def FX0_sizeOf_J18 (o : Nat) (S : kS) (s0 : Int32) : Option (Int32) :=
  some s0
def FX0_sizeOf (o : Nat) (S : kS) (a1 : Int32) : Option (Int32) :=
  (FX0_hasPlace o S a1).bind fun x1 => if x1 = 0 then (FX0_sizeOf_J18 o S (0 : Int32)) else (kgd (kin a1 5) <| kb (kA S o 2 a1) fun x2 => FX0_sizeOf_J18 o S x2)
theorem TX0_sizeOf_J18 {G : kG} {n : Nat} {d : Nat} {X : kX} (hG : kg_N G = 55 + 14 * n) {o : Nat} (ho_o : kfm n o = true) {S : kS} {s0 : Int32} {res : Int32} (h : FX0_sizeOf_J18 o S s0 = some res) : kV (X, RX0, 2, (some .int), G, krm (d + 1), (0, 0), kQ X G (some (.int res)) (kgl G n S)) cX0_sizeOf (kgl G n S) [none, none] [.int s0] 18 := by
  have hO_o := kOk_fm hG ho_o
  have hc_o := kci_fm ho_o
  unfold FX0_sizeOf_J18 at h
  cases h
  exact kV_iret dX0_sizeOf_18
theorem okX0_sizeOf {l : Launch} {G : kG} {n : Nat} (hG : kg_N G = 55 + 14 * n) (d : Nat) {o : Nat} (ho_o : kfm n o = true) {S : kS} {a1 : Int32} {res : Int32} (h : FX0_sizeOf o S a1 = some res) : kEv l G (d + 1) mX0_sizeOf [.ref (kg_ad G (kbo o)), .int a1] (kgl G n S) (some (.int res)) (kgl G n S) := by
  refine kEv_of RX0 [some (.ref (kg_ad G (kbo o))), some (.int a1)] rfl (by decide +kernel) rfl rfl rfl rfl (fun X hX => ?_)
  subst hX
  have hO_o := kOk_fm hG ho_o
  have hc_o := kci_fm ho_o
  unfold FX0_sizeOf at h
  refine kV_aloadn 1 dX0_sizeOf_0 rfl rfl ?_
  refine kV_iloadn 2 dX0_sizeOf_1 rfl rfl ?_
  obtain ⟨x1, hx, h⟩ := kbi_ex h
  refine kC_V 5 [] [.int x1] dX0_sizeOf_2 (okX0_hasPlace hG d ho_o hx) kmvX0_hasPlace (wi_r9 _ (List.mem_of_getElem? (i := 6) rfl)) hO_o hc_o rfl rfl rfl rfl rfl ?_
  clear hx
  rcases kif_ex h with ⟨hc, h⟩ | ⟨hc, h⟩
  · refine kV_if_eq_t 17 dX0_sizeOf_5 (by decide) hc ?_
    clear hc
    refine kV_iconst 18 dX0_sizeOf_17 ic_0 rfl ?_
    refine kV_drop [false, false] rfl ?_
    exact TX0_sizeOf_J18 hG ho_o h
  · refine kV_if_eq_f 17 8 dX0_sizeOf_5 (by decide) hc rfl ?_
    clear hc
    refine kV_aloadn 9 dX0_sizeOf_8 rfl rfl ?_
    refine rg0_19 12 dX0_sizeOf_9 hO_o hc_o rfl ?_
    refine kV_iloadn 13 dX0_sizeOf_12 rfl rfl ?_
    obtain ⟨hi, h⟩ := kgd_ex h
    obtain ⟨x2, hx, h⟩ := kb_ex h
    refine rl0_2 14 dX0_sizeOf_13 hO_o hc_o hi hx rfl ?_
    clear hi hx
    refine kV_goto 18 dX0_sizeOf_14 (by decide) ?_
    refine kV_drop [false, false] rfl ?_
    exact TX0_sizeOf_J18 hG ho_o h
abbrev mX0_addPlace : kM := (yX0_addPlace, cX0_addPlace, 5, (some .int))
theorem kmvX0_addPlace : kMv mX0_addPlace 4 0 := ⟨⟨(wi_r7 _ (List.mem_of_getElem? (i := 21) rfl)), (wi_r6 _ (List.mem_of_getElem? (i := 1) rfl)), ⟨by decide +kernel, by decide +kernel, by decide +kernel⟩, by decide⟩, (wi_r7 _ (List.mem_of_getElem? (i := 19) rfl)), (wi_r7 _ (List.mem_of_getElem? (i := 20) rfl)), rfl⟩
def FX0_addPlace (o : Nat) (S : kS) (a1 : Int32) (a2 : Int32) (a3 : Int32) (a4 : Int32) : Option (Int32 × kS) :=
  kb (kI S o 0) fun x1 => if x1 < (5 : Int32) then (kb (kI S o 0) fun x2 => kgd (kin x2 5) <| kb (kpA S o 1 x2 a1) fun S1 => kb (kI S1 o 0) fun x3 => kgd (kin x3 5) <| kb (kpA S1 o 2 x3 a2) fun S2 => kb (kI S2 o 0) fun x4 => kgd (kin x4 5) <| kb (kpA S2 o 3 x4 a3) fun S3 => kb (kI S3 o 0) fun x5 => kgd (kin x5 5) <| kb (kpA S3 o 4 x5 a4) fun S4 => kb (kI S4 o 0) fun x6 => kb (kpI S4 o 0 (x6 + (1 : Int32))) fun S5 => kb (kI S5 o 0) fun x7 => some ((x7 - (1 : Int32)), S5)) else (some ((-4 : Int32), S))
theorem okX0_addPlace {l : Launch} {G : kG} {n : Nat} (hG : kg_N G = 55 + 14 * n) (d : Nat) {o : Nat} (ho_o : kfm n o = true) {S : kS} {a1 : Int32} {a2 : Int32} {a3 : Int32} {a4 : Int32} {res : Int32 × kS} (h : FX0_addPlace o S a1 a2 a3 a4 = some res) : kEv l G (d + 0) mX0_addPlace [.ref (kg_ad G (kbo o)), .int a1, .int a2, .int a3, .int a4] (kgl G n S) (some (.int res.1)) (kgl G n res.2) := by
  refine kEv_of RX0 [some (.ref (kg_ad G (kbo o))), some (.int a1), some (.int a2), some (.int a3), some (.int a4)] rfl (by decide +kernel) rfl rfl rfl rfl (fun X hX => ?_)
  subst hX
  have hO_o := kOk_fm hG ho_o
  have hc_o := kci_fm ho_o
  unfold FX0_addPlace at h
  refine kV_aloadn 1 dX0_addPlace_0 rfl rfl ?_
  obtain ⟨x1, hx, h⟩ := kb_ex h
  refine rg0_9 4 dX0_addPlace_1 hO_o hc_o hx rfl ?_
  clear hx
  refine kV_iconst 5 dX0_addPlace_4 ic_5 rfl ?_
  rcases kif_ex h with ⟨hc, h⟩ | ⟨hc, h⟩
  · refine kV_icmp_lt_t 11 dX0_addPlace_5 (by decide) hc ?_
    clear hc
    refine kV_aloadn 12 dX0_addPlace_11 rfl rfl ?_
    refine rg0_15 15 dX0_addPlace_12 hO_o hc_o rfl ?_
    refine kV_aloadn 16 dX0_addPlace_15 rfl rfl ?_
    obtain ⟨x2, hx, h⟩ := kb_ex h
    refine rg0_9 19 dX0_addPlace_16 hO_o hc_o hx rfl ?_
    clear hx
    refine kV_iloadn 20 dX0_addPlace_19 rfl rfl ?_
    obtain ⟨hi, h⟩ := kgd_ex h
    obtain ⟨S1, hx, h⟩ := kb_ex h
    refine rs0_1 21 dX0_addPlace_20 hO_o hc_o hi hx rfl ?_
    clear hi hx
    refine kV_aloadn 22 dX0_addPlace_21 rfl rfl ?_
    refine rg0_19 25 dX0_addPlace_22 hO_o hc_o rfl ?_
    refine kV_aloadn 26 dX0_addPlace_25 rfl rfl ?_
    obtain ⟨x3, hx, h⟩ := kb_ex h
    refine rg0_9 29 dX0_addPlace_26 hO_o hc_o hx rfl ?_
    clear hx
    refine kV_iloadn 30 dX0_addPlace_29 rfl rfl ?_
    obtain ⟨hi, h⟩ := kgd_ex h
    obtain ⟨S2, hx, h⟩ := kb_ex h
    refine rs0_2 31 dX0_addPlace_30 hO_o hc_o hi hx rfl ?_
    clear hi hx
    refine kV_aloadn 32 dX0_addPlace_31 rfl rfl ?_
    refine rg0_22 35 dX0_addPlace_32 hO_o hc_o rfl ?_
    refine kV_aloadn 36 dX0_addPlace_35 rfl rfl ?_
    obtain ⟨x4, hx, h⟩ := kb_ex h
    refine rg0_9 39 dX0_addPlace_36 hO_o hc_o hx rfl ?_
    clear hx
    refine kV_iloadn 40 dX0_addPlace_39 rfl rfl ?_
    obtain ⟨hi, h⟩ := kgd_ex h
    obtain ⟨S3, hx, h⟩ := kb_ex h
    refine rs0_3 41 dX0_addPlace_40 hO_o hc_o hi hx rfl ?_
    clear hi hx
    refine kV_aloadn 42 dX0_addPlace_41 rfl rfl ?_
    refine rg0_25 45 dX0_addPlace_42 hO_o hc_o rfl ?_
    refine kV_aloadn 46 dX0_addPlace_45 rfl rfl ?_
    obtain ⟨x5, hx, h⟩ := kb_ex h
    refine rg0_9 49 dX0_addPlace_46 hO_o hc_o hx rfl ?_
    clear hx
    refine kV_iload 51 dX0_addPlace_49 rfl rfl ?_
    obtain ⟨hi, h⟩ := kgd_ex h
    obtain ⟨S4, hx, h⟩ := kb_ex h
    refine rs0_4 52 dX0_addPlace_51 hO_o hc_o hi hx rfl ?_
    clear hi hx
    refine kV_aloadn 53 dX0_addPlace_52 rfl rfl ?_
    refine kV_dup 54 dX0_addPlace_53 rfl rfl ?_
    obtain ⟨x6, hx, h⟩ := kb_ex h
    refine rg0_9 57 dX0_addPlace_54 hO_o hc_o hx rfl ?_
    clear hx
    refine kV_iconst 58 dX0_addPlace_57 ic_1 rfl ?_
    refine kV_iadd 59 dX0_addPlace_58 rfl ?_
    obtain ⟨S5, hx, h⟩ := kb_ex h
    refine rp0_9 62 dX0_addPlace_59 hO_o hc_o hx rfl ?_
    clear hx
    refine kV_aloadn 63 dX0_addPlace_62 rfl rfl ?_
    obtain ⟨x7, hx, h⟩ := kb_ex h
    refine rg0_9 66 dX0_addPlace_63 hO_o hc_o hx rfl ?_
    clear hx
    refine kV_iconst 67 dX0_addPlace_66 ic_1 rfl ?_
    refine kV_isub 68 dX0_addPlace_67 rfl ?_
    cases h
    exact kV_iret dX0_addPlace_68
  · refine kV_icmp_lt_f 11 8 dX0_addPlace_5 (by decide) hc rfl ?_
    clear hc
    refine kV_bipush 10 dX0_addPlace_8 bp_m4 rfl ?_
    cases h
    exact kV_iret dX0_addPlace_10
abbrev mX0_addRule : kM := (yX0_addRule, cX0_addRule, 6, (some .int))
theorem kmvX0_addRule : kMv mX0_addRule 5 0 := ⟨⟨(wi_r10 _ (List.mem_of_getElem? (i := 2) rfl)), (wi_r6 _ (List.mem_of_getElem? (i := 1) rfl)), ⟨by decide +kernel, by decide +kernel, by decide +kernel⟩, by decide⟩, (wi_r10 _ (List.mem_of_getElem? (i := 0) rfl)), (wi_r10 _ (List.mem_of_getElem? (i := 1) rfl)), rfl⟩
def FX0_addRule (o : Nat) (S : kS) (a1 : Int32) (a2 : Int32) (a3 : Int32) (a4 : Int32) (a5 : Int32) : Option (Int32 × kS) :=
  kb (kI S o 7) fun x1 => if x1 < (6 : Int32) then (kb (kI S o 7) fun x2 => kgd (kin x2 6) <| kb (kpA S o 8 x2 a1) fun S1 => kb (kI S1 o 7) fun x3 => kgd (kin x3 6) <| kb (kpA S1 o 9 x3 a2) fun S2 => kb (kI S2 o 7) fun x4 => kgd (kin x4 6) <| kb (kpA S2 o 10 x4 a3) fun S3 => kb (kI S3 o 7) fun x5 => kgd (kin x5 6) <| kb (kpA S3 o 11 x5 a4) fun S4 => kb (kI S4 o 7) fun x6 => kgd (kin x6 6) <| kb (kpA S4 o 12 x6 a5) fun S5 => kb (kI S5 o 7) fun x7 => kb (kpI S5 o 7 (x7 + (1 : Int32))) fun S6 => kb (kI S6 o 7) fun x8 => some ((x8 - (1 : Int32)), S6)) else (some ((-4 : Int32), S))
theorem okX0_addRule {l : Launch} {G : kG} {n : Nat} (hG : kg_N G = 55 + 14 * n) (d : Nat) {o : Nat} (ho_o : kfm n o = true) {S : kS} {a1 : Int32} {a2 : Int32} {a3 : Int32} {a4 : Int32} {a5 : Int32} {res : Int32 × kS} (h : FX0_addRule o S a1 a2 a3 a4 a5 = some res) : kEv l G (d + 0) mX0_addRule [.ref (kg_ad G (kbo o)), .int a1, .int a2, .int a3, .int a4, .int a5] (kgl G n S) (some (.int res.1)) (kgl G n res.2) := by
  refine kEv_of RX0 [some (.ref (kg_ad G (kbo o))), some (.int a1), some (.int a2), some (.int a3), some (.int a4), some (.int a5)] rfl (by decide +kernel) rfl rfl rfl rfl (fun X hX => ?_)
  subst hX
  have hO_o := kOk_fm hG ho_o
  have hc_o := kci_fm ho_o
  unfold FX0_addRule at h
  refine kV_aloadn 1 dX0_addRule_0 rfl rfl ?_
  obtain ⟨x1, hx, h⟩ := kb_ex h
  refine rg0_34 4 dX0_addRule_1 hO_o hc_o hx rfl ?_
  clear hx
  refine kV_bipush 6 dX0_addRule_4 bp_6 rfl ?_
  rcases kif_ex h with ⟨hc, h⟩ | ⟨hc, h⟩
  · refine kV_icmp_lt_t 12 dX0_addRule_6 (by decide) hc ?_
    clear hc
    refine kV_aloadn 13 dX0_addRule_12 rfl rfl ?_
    refine rg0_37 16 dX0_addRule_13 hO_o hc_o rfl ?_
    refine kV_aloadn 17 dX0_addRule_16 rfl rfl ?_
    obtain ⟨x2, hx, h⟩ := kb_ex h
    refine rg0_34 20 dX0_addRule_17 hO_o hc_o hx rfl ?_
    clear hx
    refine kV_iloadn 21 dX0_addRule_20 rfl rfl ?_
    obtain ⟨hi, h⟩ := kgd_ex h
    obtain ⟨S1, hx, h⟩ := kb_ex h
    refine rs0_8 22 dX0_addRule_21 hO_o hc_o hi hx rfl ?_
    clear hi hx
    refine kV_aloadn 23 dX0_addRule_22 rfl rfl ?_
    refine rg0_40 26 dX0_addRule_23 hO_o hc_o rfl ?_
    refine kV_aloadn 27 dX0_addRule_26 rfl rfl ?_
    obtain ⟨x3, hx, h⟩ := kb_ex h
    refine rg0_34 30 dX0_addRule_27 hO_o hc_o hx rfl ?_
    clear hx
    refine kV_iloadn 31 dX0_addRule_30 rfl rfl ?_
    obtain ⟨hi, h⟩ := kgd_ex h
    obtain ⟨S2, hx, h⟩ := kb_ex h
    refine rs0_9 32 dX0_addRule_31 hO_o hc_o hi hx rfl ?_
    clear hi hx
    refine kV_aloadn 33 dX0_addRule_32 rfl rfl ?_
    refine rg0_43 36 dX0_addRule_33 hO_o hc_o rfl ?_
    refine kV_aloadn 37 dX0_addRule_36 rfl rfl ?_
    obtain ⟨x4, hx, h⟩ := kb_ex h
    refine rg0_34 40 dX0_addRule_37 hO_o hc_o hx rfl ?_
    clear hx
    refine kV_iloadn 41 dX0_addRule_40 rfl rfl ?_
    obtain ⟨hi, h⟩ := kgd_ex h
    obtain ⟨S3, hx, h⟩ := kb_ex h
    refine rs0_10 42 dX0_addRule_41 hO_o hc_o hi hx rfl ?_
    clear hi hx
    refine kV_aloadn 43 dX0_addRule_42 rfl rfl ?_
    refine rg0_46 46 dX0_addRule_43 hO_o hc_o rfl ?_
    refine kV_aloadn 47 dX0_addRule_46 rfl rfl ?_
    obtain ⟨x5, hx, h⟩ := kb_ex h
    refine rg0_34 50 dX0_addRule_47 hO_o hc_o hx rfl ?_
    clear hx
    refine kV_iload 52 dX0_addRule_50 rfl rfl ?_
    obtain ⟨hi, h⟩ := kgd_ex h
    obtain ⟨S4, hx, h⟩ := kb_ex h
    refine rs0_11 53 dX0_addRule_52 hO_o hc_o hi hx rfl ?_
    clear hi hx
    refine kV_aloadn 54 dX0_addRule_53 rfl rfl ?_
    refine rg0_49 57 dX0_addRule_54 hO_o hc_o rfl ?_
    refine kV_aloadn 58 dX0_addRule_57 rfl rfl ?_
    obtain ⟨x6, hx, h⟩ := kb_ex h
    refine rg0_34 61 dX0_addRule_58 hO_o hc_o hx rfl ?_
    clear hx
    refine kV_iload 63 dX0_addRule_61 rfl rfl ?_
    obtain ⟨hi, h⟩ := kgd_ex h
    obtain ⟨S5, hx, h⟩ := kb_ex h
    refine rs0_12 64 dX0_addRule_63 hO_o hc_o hi hx rfl ?_
    clear hi hx
    refine kV_aloadn 65 dX0_addRule_64 rfl rfl ?_
    refine kV_dup 66 dX0_addRule_65 rfl rfl ?_
    obtain ⟨x7, hx, h⟩ := kb_ex h
    refine rg0_34 69 dX0_addRule_66 hO_o hc_o hx rfl ?_
    clear hx
    refine kV_iconst 70 dX0_addRule_69 ic_1 rfl ?_
    refine kV_iadd 71 dX0_addRule_70 rfl ?_
    obtain ⟨S6, hx, h⟩ := kb_ex h
    refine rp0_34 74 dX0_addRule_71 hO_o hc_o hx rfl ?_
    clear hx
    refine kV_aloadn 75 dX0_addRule_74 rfl rfl ?_
    obtain ⟨x8, hx, h⟩ := kb_ex h
    refine rg0_34 78 dX0_addRule_75 hO_o hc_o hx rfl ?_
    clear hx
    refine kV_iconst 79 dX0_addRule_78 ic_1 rfl ?_
    refine kV_isub 80 dX0_addRule_79 rfl ?_
    cases h
    exact kV_iret dX0_addRule_80
  · refine kV_icmp_lt_f 12 9 dX0_addRule_6 (by decide) hc rfl ?_
    clear hc
    refine kV_bipush 11 dX0_addRule_9 bp_m4 rfl ?_
    cases h
    exact kV_iret dX0_addRule_11
abbrev mX0_teach : kM := (yX0_teach, cX0_teach, 4, none)
theorem kmvX0_teach : kMv mX0_teach 3 0 := ⟨⟨(wi_r11 _ (List.mem_of_getElem? (i := 13) rfl)), (wi_r6 _ (List.mem_of_getElem? (i := 1) rfl)), ⟨by decide +kernel, by decide +kernel, by decide +kernel⟩, by decide⟩, (wi_r11 _ (List.mem_of_getElem? (i := 11) rfl)), (wi_r11 _ (List.mem_of_getElem? (i := 12) rfl)), rfl⟩
def FX0_teach_J21 (o : Nat) (S : kS) : Option (kS) :=
  some S
def FX0_teach (o : Nat) (S : kS) (a1 : Int32) (a2 : Int32) (a3 : Int32) : Option (kS) :=
  (FX5_isWord S a1).bind fun x1 => if x1 = 0 then (FX0_teach_J21 o S) else (kgd (kin a1 64) <| kb (kpA S o 13 a1 a2) fun S1 => kgd (kin a1 64) <| kb (kpA S1 o 14 a1 a3) fun S2 => FX0_teach_J21 o S2)
theorem TX0_teach_J21 {G : kG} {n : Nat} {d : Nat} {X : kX} (hG : kg_N G = 55 + 14 * n) {o : Nat} (ho_o : kfm n o = true) {S : kS} {res : kS} (h : FX0_teach_J21 o S = some res) : kV (X, RX0, 4, none, G, krm (d + 1), (0, 0), kQ X G none (kgl G n res)) cX0_teach (kgl G n S) [none, none, none, none] [] 21 := by
  have hO_o := kOk_fm hG ho_o
  have hc_o := kci_fm ho_o
  unfold FX0_teach_J21 at h
  cases h
  exact kV_vret dX0_teach_21
theorem okX0_teach {l : Launch} {G : kG} {n : Nat} (hG : kg_N G = 55 + 14 * n) (d : Nat) {o : Nat} (ho_o : kfm n o = true) {S : kS} {a1 : Int32} {a2 : Int32} {a3 : Int32} {res : kS} (h : FX0_teach o S a1 a2 a3 = some res) : kEv l G (d + 1) mX0_teach [.ref (kg_ad G (kbo o)), .int a1, .int a2, .int a3] (kgl G n S) none (kgl G n res) := by
  refine kEv_of RX0 [some (.ref (kg_ad G (kbo o))), some (.int a1), some (.int a2), some (.int a3)] rfl (by decide +kernel) rfl rfl rfl rfl (fun X hX => ?_)
  subst hX
  have hO_o := kOk_fm hG ho_o
  have hc_o := kci_fm ho_o
  unfold FX0_teach at h
  refine kV_iloadn 1 dX0_teach_0 rfl rfl ?_
  obtain ⟨x1, hx, h⟩ := kbi_ex h
  refine kC_SN 4 [] [.int x1] dX0_teach_1 (okX5_isWord hG d  hx) kmtX5_isWord (fun _ h => h.2.2.2) rfl rfl rfl rfl rfl ?_
  clear hx
  rcases kif_ex h with ⟨hc, h⟩ | ⟨hc, h⟩
  · refine kV_if_eq_t 21 dX0_teach_4 (by decide) hc ?_
    clear hc
    refine kV_drop [false, false, false, false] rfl ?_
    exact TX0_teach_J21 hG ho_o h
  · refine kV_if_eq_f 21 7 dX0_teach_4 (by decide) hc rfl ?_
    clear hc
    refine kV_aloadn 8 dX0_teach_7 rfl rfl ?_
    refine rg0_52 11 dX0_teach_8 hO_o hc_o rfl ?_
    refine kV_iloadn 12 dX0_teach_11 rfl rfl ?_
    refine kV_iloadn 13 dX0_teach_12 rfl rfl ?_
    obtain ⟨hi, h⟩ := kgd_ex h
    obtain ⟨S1, hx, h⟩ := kb_ex h
    refine rs0_13 14 dX0_teach_13 hO_o hc_o hi hx rfl ?_
    clear hi hx
    refine kV_aloadn 15 dX0_teach_14 rfl rfl ?_
    refine rg0_55 18 dX0_teach_15 hO_o hc_o rfl ?_
    refine kV_iloadn 19 dX0_teach_18 rfl rfl ?_
    refine kV_iloadn 20 dX0_teach_19 rfl rfl ?_
    obtain ⟨hi, h⟩ := kgd_ex h
    obtain ⟨S2, hx, h⟩ := kb_ex h
    refine rs0_14 21 dX0_teach_20 hO_o hc_o hi hx rfl ?_
    clear hi hx
    refine kV_drop [false, false, false, false] rfl ?_
    exact TX0_teach_J21 hG ho_o h
abbrev mX0_placeSaidBy : kM := (yX0_placeSaidBy, cX0_placeSaidBy, 2, (some .int))
theorem kmvX0_placeSaidBy : kMv mX0_placeSaidBy 1 0 := ⟨⟨(wi_r11 _ (List.mem_of_getElem? (i := 9) rfl)), (wi_r6 _ (List.mem_of_getElem? (i := 1) rfl)), ⟨by decide +kernel, by decide +kernel, by decide +kernel⟩, by decide⟩, (wi_r11 _ (List.mem_of_getElem? (i := 7) rfl)), (wi_r11 _ (List.mem_of_getElem? (i := 8) rfl)), rfl⟩
def FX0_placeSaidBy_J17 (o : Nat) (S : kS) (s0 : Int32) : Option (Int32) :=
  some s0
def FX0_placeSaidBy (o : Nat) (S : kS) (a1 : Int32) : Option (Int32) :=
  (FX5_isWord S a1).bind fun x1 => if x1 = 0 then (FX0_placeSaidBy_J17 o S (-1 : Int32)) else (kgd (kin a1 64) <| kb (kA S o 13 a1) fun x2 => FX0_placeSaidBy_J17 o S x2)
theorem TX0_placeSaidBy_J17 {G : kG} {n : Nat} {d : Nat} {X : kX} (hG : kg_N G = 55 + 14 * n) {o : Nat} (ho_o : kfm n o = true) {S : kS} {s0 : Int32} {res : Int32} (h : FX0_placeSaidBy_J17 o S s0 = some res) : kV (X, RX0, 2, (some .int), G, krm (d + 1), (0, 0), kQ X G (some (.int res)) (kgl G n S)) cX0_placeSaidBy (kgl G n S) [none, none] [.int s0] 17 := by
  have hO_o := kOk_fm hG ho_o
  have hc_o := kci_fm ho_o
  unfold FX0_placeSaidBy_J17 at h
  cases h
  exact kV_iret dX0_placeSaidBy_17
theorem okX0_placeSaidBy {l : Launch} {G : kG} {n : Nat} (hG : kg_N G = 55 + 14 * n) (d : Nat) {o : Nat} (ho_o : kfm n o = true) {S : kS} {a1 : Int32} {res : Int32} (h : FX0_placeSaidBy o S a1 = some res) : kEv l G (d + 1) mX0_placeSaidBy [.ref (kg_ad G (kbo o)), .int a1] (kgl G n S) (some (.int res)) (kgl G n S) := by
  refine kEv_of RX0 [some (.ref (kg_ad G (kbo o))), some (.int a1)] rfl (by decide +kernel) rfl rfl rfl rfl (fun X hX => ?_)
  subst hX
  have hO_o := kOk_fm hG ho_o
  have hc_o := kci_fm ho_o
  unfold FX0_placeSaidBy at h
  refine kV_iloadn 1 dX0_placeSaidBy_0 rfl rfl ?_
  obtain ⟨x1, hx, h⟩ := kbi_ex h
  refine kC_SN 4 [] [.int x1] dX0_placeSaidBy_1 (okX5_isWord hG d  hx) kmtX5_isWord (fun _ h => h.2.2.2) rfl rfl rfl rfl rfl ?_
  clear hx
  rcases kif_ex h with ⟨hc, h⟩ | ⟨hc, h⟩
  · refine kV_if_eq_t 16 dX0_placeSaidBy_4 (by decide) hc ?_
    clear hc
    refine kV_iconst 17 dX0_placeSaidBy_16 ic_m1 rfl ?_
    refine kV_drop [false, false] rfl ?_
    exact TX0_placeSaidBy_J17 hG ho_o h
  · refine kV_if_eq_f 16 7 dX0_placeSaidBy_4 (by decide) hc rfl ?_
    clear hc
    refine kV_aloadn 8 dX0_placeSaidBy_7 rfl rfl ?_
    refine rg0_52 11 dX0_placeSaidBy_8 hO_o hc_o rfl ?_
    refine kV_iloadn 12 dX0_placeSaidBy_11 rfl rfl ?_
    obtain ⟨hi, h⟩ := kgd_ex h
    obtain ⟨x2, hx, h⟩ := kb_ex h
    refine rl0_13 13 dX0_placeSaidBy_12 hO_o hc_o hi hx rfl ?_
    clear hi hx
    refine kV_goto 17 dX0_placeSaidBy_13 (by decide) ?_
    refine kV_drop [false, false] rfl ?_
    exact TX0_placeSaidBy_J17 hG ho_o h
abbrev mX0_valueSaidBy : kM := (yX0_valueSaidBy, cX0_valueSaidBy, 2, (some .int))
theorem kmvX0_valueSaidBy : kMv mX0_valueSaidBy 1 0 := ⟨⟨(wi_r18 _ (List.mem_of_getElem? (i := 19) rfl)), (wi_r6 _ (List.mem_of_getElem? (i := 1) rfl)), ⟨by decide +kernel, by decide +kernel, by decide +kernel⟩, by decide⟩, (wi_r18 _ (List.mem_of_getElem? (i := 17) rfl)), (wi_r18 _ (List.mem_of_getElem? (i := 18) rfl)), rfl⟩
def FX0_valueSaidBy_J17 (o : Nat) (S : kS) (s0 : Int32) : Option (Int32) :=
  some s0
def FX0_valueSaidBy (o : Nat) (S : kS) (a1 : Int32) : Option (Int32) :=
  (FX5_isWord S a1).bind fun x1 => if x1 = 0 then (FX0_valueSaidBy_J17 o S (-1 : Int32)) else (kgd (kin a1 64) <| kb (kA S o 14 a1) fun x2 => FX0_valueSaidBy_J17 o S x2)
theorem TX0_valueSaidBy_J17 {G : kG} {n : Nat} {d : Nat} {X : kX} (hG : kg_N G = 55 + 14 * n) {o : Nat} (ho_o : kfm n o = true) {S : kS} {s0 : Int32} {res : Int32} (h : FX0_valueSaidBy_J17 o S s0 = some res) : kV (X, RX0, 2, (some .int), G, krm (d + 1), (0, 0), kQ X G (some (.int res)) (kgl G n S)) cX0_valueSaidBy (kgl G n S) [none, none] [.int s0] 17 := by
  have hO_o := kOk_fm hG ho_o
  have hc_o := kci_fm ho_o
  unfold FX0_valueSaidBy_J17 at h
  cases h
  exact kV_iret dX0_valueSaidBy_17
theorem okX0_valueSaidBy {l : Launch} {G : kG} {n : Nat} (hG : kg_N G = 55 + 14 * n) (d : Nat) {o : Nat} (ho_o : kfm n o = true) {S : kS} {a1 : Int32} {res : Int32} (h : FX0_valueSaidBy o S a1 = some res) : kEv l G (d + 1) mX0_valueSaidBy [.ref (kg_ad G (kbo o)), .int a1] (kgl G n S) (some (.int res)) (kgl G n S) := by
  refine kEv_of RX0 [some (.ref (kg_ad G (kbo o))), some (.int a1)] rfl (by decide +kernel) rfl rfl rfl rfl (fun X hX => ?_)
  subst hX
  have hO_o := kOk_fm hG ho_o
  have hc_o := kci_fm ho_o
  unfold FX0_valueSaidBy at h
  refine kV_iloadn 1 dX0_valueSaidBy_0 rfl rfl ?_
  obtain ⟨x1, hx, h⟩ := kbi_ex h
  refine kC_SN 4 [] [.int x1] dX0_valueSaidBy_1 (okX5_isWord hG d  hx) kmtX5_isWord (fun _ h => h.2.2.2) rfl rfl rfl rfl rfl ?_
  clear hx
  rcases kif_ex h with ⟨hc, h⟩ | ⟨hc, h⟩
  · refine kV_if_eq_t 16 dX0_valueSaidBy_4 (by decide) hc ?_
    clear hc
    refine kV_iconst 17 dX0_valueSaidBy_16 ic_m1 rfl ?_
    refine kV_drop [false, false] rfl ?_
    exact TX0_valueSaidBy_J17 hG ho_o h
  · refine kV_if_eq_f 16 7 dX0_valueSaidBy_4 (by decide) hc rfl ?_
    clear hc
    refine kV_aloadn 8 dX0_valueSaidBy_7 rfl rfl ?_
    refine rg0_55 11 dX0_valueSaidBy_8 hO_o hc_o rfl ?_
    refine kV_iloadn 12 dX0_valueSaidBy_11 rfl rfl ?_
    obtain ⟨hi, h⟩ := kgd_ex h
    obtain ⟨x2, hx, h⟩ := kb_ex h
    refine rl0_14 13 dX0_valueSaidBy_12 hO_o hc_o hi hx rfl ?_
    clear hi hx
    refine kV_goto 17 dX0_valueSaidBy_13 (by decide) ?_
    refine kV_drop [false, false] rfl ?_
    exact TX0_valueSaidBy_J17 hG ho_o h
abbrev mX0_leastWord : kM := (yX0_leastWord, cX0_leastWord, 4, (some .int))
theorem kmvX0_leastWord : kMv mX0_leastWord 2 0 := ⟨⟨(wi_r31 _ (List.mem_of_getElem? (i := 6) rfl)), (wi_r6 _ (List.mem_of_getElem? (i := 1) rfl)), ⟨by decide +kernel, by decide +kernel, by decide +kernel⟩, by decide⟩, (wi_r31 _ (List.mem_of_getElem? (i := 4) rfl)), (wi_r31 _ (List.mem_of_getElem? (i := 5) rfl)), rfl⟩
def FX0_leastWord_J30 (o : Nat) (c2 : Int32 × Int32 × Int32 → Option (Int32)) (S : kS) (v1 : Int32) (v2 : Int32) (v3 : Int32) : Option (Int32) :=
  c2 (v1, v2, (v3 + (1 : Int32)))
def FX0_leastWord_B2 (o : Nat) (c2 : Int32 × Int32 × Int32 → Option (Int32)) (S : kS) (v1 : Int32) (v2 : Int32) (v3 : Int32) : Option (Int32) :=
  if (64 : Int32) ≤ v3 then (some (-1 : Int32)) else (kgd (kin v3 64) <| kb (kA S o 13 v3) fun x1 => if x1 = v1 then (kgd (kin v3 64) <| kb (kA S o 14 v3) fun x2 => if x2 = v2 then (some v3) else (FX0_leastWord_J30 o c2 S v1 v2 v3)) else (FX0_leastWord_J30 o c2 S v1 v2 v3))
def FX0_leastWord_L2 (o : Nat) (S : kS) (v1 : Int32) (v2 : Int32) (v3 : Int32) : Option (Int32) :=
  kfix (fun rec (q : Int32 × Int32 × Int32) => FX0_leastWord_B2 o rec S q.1 q.2.1 q.2.2) kfuel (v1, v2, v3)
def FX0_leastWord (o : Nat) (S : kS) (a1 : Int32) (a2 : Int32) : Option (Int32) :=
  FX0_leastWord_L2 o S a1 a2 (0 : Int32)
theorem TX0_leastWord_J30 {G : kG} {n : Nat} {d : Nat} {X : kX} (hG : kg_N G = 55 + 14 * n) {o : Nat} (ho_o : kfm n o = true) {c2 : Int32 × Int32 × Int32 → Option (Int32)} {S : kS} (hc2 : ∀ (q : Int32 × Int32 × Int32) (res : Int32), c2 q = some res → kV (X, RX0, 4, (some .int), G, krm (d + 0), (0, 0), kQ X G (some (.int res)) (kgl G n S)) cX0_leastWord (kgl G n S) [some (.ref (kg_ad G (kbo o))), some (.int (q.1)), some (.int (q.2.1)), some (.int (q.2.2))] [] 2) {v1 : Int32} {v2 : Int32} {v3 : Int32} {res : Int32} (h : FX0_leastWord_J30 o c2 S v1 v2 v3 = some res) : kV (X, RX0, 4, (some .int), G, krm (d + 0), (0, 0), kQ X G (some (.int res)) (kgl G n S)) cX0_leastWord (kgl G n S) [some (.ref (kg_ad G (kbo o))), some (.int v1), some (.int v2), some (.int v3)] [] 30 := by
  have hO_o := kOk_fm hG ho_o
  have hc_o := kci_fm ho_o
  unfold FX0_leastWord_J30 at h
  refine kV_iinc 33 [some (.ref (kg_ad G (kbo o))), some (.int v1), some (.int v2), some (.int (v3 + (1 : Int32)))] dX0_leastWord_30 rfl (kinc_1 _) rfl rfl rfl ?_
  refine kV_goto 2 dX0_leastWord_33 (by decide) ?_
  refine kV_drop [true, true, true, true] rfl ?_
  exact hc2 _ _ h
theorem TX0_leastWord_B2 {G : kG} {n : Nat} {d : Nat} {X : kX} (hG : kg_N G = 55 + 14 * n) {o : Nat} (ho_o : kfm n o = true) {S : kS} {c2 : Int32 × Int32 × Int32 → Option (Int32)} (hc2 : ∀ (q : Int32 × Int32 × Int32) (res : Int32), c2 q = some res → kV (X, RX0, 4, (some .int), G, krm (d + 0), (0, 0), kQ X G (some (.int res)) (kgl G n S)) cX0_leastWord (kgl G n S) [some (.ref (kg_ad G (kbo o))), some (.int (q.1)), some (.int (q.2.1)), some (.int (q.2.2))] [] 2) {v1 : Int32} {v2 : Int32} {v3 : Int32} {res : Int32} (h : FX0_leastWord_B2 o c2 S v1 v2 v3 = some res) : kV (X, RX0, 4, (some .int), G, krm (d + 0), (0, 0), kQ X G (some (.int res)) (kgl G n S)) cX0_leastWord (kgl G n S) [some (.ref (kg_ad G (kbo o))), some (.int v1), some (.int v2), some (.int v3)] [] 2 := by
  have hO_o := kOk_fm hG ho_o
  have hc_o := kci_fm ho_o
  unfold FX0_leastWord_B2 at h
  refine kV_iloadn 3 dX0_leastWord_2 rfl rfl ?_
  refine kV_bipush 5 dX0_leastWord_3 bp_64 rfl ?_
  rcases kif_ex h with ⟨hc, h⟩ | ⟨hc, h⟩
  · refine kV_icmp_ge_t 36 dX0_leastWord_5 (by decide) hc ?_
    clear hc
    refine kV_iconst 37 dX0_leastWord_36 ic_m1 rfl ?_
    cases h
    exact kV_iret dX0_leastWord_37
  · refine kV_icmp_ge_f 36 8 dX0_leastWord_5 (by decide) hc rfl ?_
    clear hc
    refine kV_aloadn 9 dX0_leastWord_8 rfl rfl ?_
    refine rg0_52 12 dX0_leastWord_9 hO_o hc_o rfl ?_
    refine kV_iloadn 13 dX0_leastWord_12 rfl rfl ?_
    obtain ⟨hi, h⟩ := kgd_ex h
    obtain ⟨x1, hx, h⟩ := kb_ex h
    refine rl0_13 14 dX0_leastWord_13 hO_o hc_o hi hx rfl ?_
    clear hi hx
    refine kV_iloadn 15 dX0_leastWord_14 rfl rfl ?_
    rcases kif_ex h with ⟨hc, h⟩ | ⟨hc, h⟩
    · refine kV_icmp_ne_f 30 18 dX0_leastWord_15 (by decide) hc rfl ?_
      clear hc
      refine kV_aloadn 19 dX0_leastWord_18 rfl rfl ?_
      refine rg0_55 22 dX0_leastWord_19 hO_o hc_o rfl ?_
      refine kV_iloadn 23 dX0_leastWord_22 rfl rfl ?_
      obtain ⟨hi, h⟩ := kgd_ex h
      obtain ⟨x2, hx, h⟩ := kb_ex h
      refine rl0_14 24 dX0_leastWord_23 hO_o hc_o hi hx rfl ?_
      clear hi hx
      refine kV_iloadn 25 dX0_leastWord_24 rfl rfl ?_
      rcases kif_ex h with ⟨hc, h⟩ | ⟨hc, h⟩
      · refine kV_icmp_ne_f 30 28 dX0_leastWord_25 (by decide) hc rfl ?_
        clear hc
        refine kV_iloadn 29 dX0_leastWord_28 rfl rfl ?_
        cases h
        exact kV_iret dX0_leastWord_29
      · refine kV_icmp_ne_t 30 dX0_leastWord_25 (by decide) hc ?_
        clear hc
        refine kV_drop [true, true, true, true] rfl ?_
        exact TX0_leastWord_J30 hG ho_o hc2 h
    · refine kV_icmp_ne_t 30 dX0_leastWord_15 (by decide) hc ?_
      clear hc
      refine kV_drop [true, true, true, true] rfl ?_
      exact TX0_leastWord_J30 hG ho_o hc2 h
theorem TX0_leastWord_L2 {G : kG} {n : Nat} {d : Nat} {X : kX} (hG : kg_N G = 55 + 14 * n) {o : Nat} (ho_o : kfm n o = true) {S : kS} {v1 : Int32} {v2 : Int32} {v3 : Int32} {res : Int32} (h : FX0_leastWord_L2 o S v1 v2 v3 = some res) : kV (X, RX0, 4, (some .int), G, krm (d + 0), (0, 0), kQ X G (some (.int res)) (kgl G n S)) cX0_leastWord (kgl G n S) [some (.ref (kg_ad G (kbo o))), some (.int v1), some (.int v2), some (.int v3)] [] 2 := by
  unfold FX0_leastWord_L2 at h
  exact kfix_ok (P := fun (q : Int32 × Int32 × Int32) (res : Int32) => kV (X, RX0, 4, (some .int), G, krm (d + 0), (0, 0), kQ X G (some (.int res)) (kgl G n S)) cX0_leastWord (kgl G n S) [some (.ref (kg_ad G (kbo o))), some (.int (q.1)), some (.int (q.2.1)), some (.int (q.2.2))] [] 2) (fun rec hrec q res hq => TX0_leastWord_B2 hG ho_o hrec hq) kfuel _ _ h
theorem okX0_leastWord {l : Launch} {G : kG} {n : Nat} (hG : kg_N G = 55 + 14 * n) (d : Nat) {o : Nat} (ho_o : kfm n o = true) {S : kS} {a1 : Int32} {a2 : Int32} {res : Int32} (h : FX0_leastWord o S a1 a2 = some res) : kEv l G (d + 0) mX0_leastWord [.ref (kg_ad G (kbo o)), .int a1, .int a2] (kgl G n S) (some (.int res)) (kgl G n S) := by
  refine kEv_of RX0 [some (.ref (kg_ad G (kbo o))), some (.int a1), some (.int a2), none] rfl (by decide +kernel) rfl rfl rfl rfl (fun X hX => ?_)
  subst hX
  have hO_o := kOk_fm hG ho_o
  have hc_o := kci_fm ho_o
  unfold FX0_leastWord at h
  refine kV_iconst 1 dX0_leastWord_0 ic_0 rfl ?_
  refine kV_istoren 2 [some (.ref (kg_ad G (kbo o))), some (.int a1), some (.int a2), some (.int (0 : Int32))] dX0_leastWord_1 rfl rfl rfl ?_
  refine kV_drop [true, true, true, true] rfl ?_
  exact TX0_leastWord_L2 hG ho_o h
abbrev mX0_empty : kM := (yX0_empty, cX0_empty, 1, none)
theorem kmvX0_empty : kMv mX0_empty 0 0 := ⟨⟨(wi_r13 _ (List.mem_of_getElem? (i := 20) rfl)), (wi_r6 _ (List.mem_of_getElem? (i := 1) rfl)), ⟨by decide +kernel, by decide +kernel, by decide +kernel⟩, by decide⟩, (wi_r13 _ (List.mem_of_getElem? (i := 18) rfl)), (wi_r13 _ (List.mem_of_getElem? (i := 19) rfl)), rfl⟩
def FX0_empty (o : Nat) (S : kS) : Option (kS) :=
  kb (kpR S o 5 (kfill 5 (0 : Int32) ((S o).2 5))) fun S1 => kb (kpR S1 o 6 (kfill 5 (-1 : Int32) ((S1 o).2 6))) fun S2 => some S2
theorem okX0_empty {l : Launch} {G : kG} {n : Nat} (hG : kg_N G = 55 + 14 * n) (d : Nat) {o : Nat} (ho_o : kfm n o = true) {S : kS} {res : kS} (h : FX0_empty o S = some res) : kEv l G (d + 1) mX0_empty [.ref (kg_ad G (kbo o))] (kgl G n S) none (kgl G n res) := by
  refine kEv_of RX0 [some (.ref (kg_ad G (kbo o)))] rfl (by decide +kernel) rfl rfl rfl rfl (fun X hX => ?_)
  subst hX
  have hO_o := kOk_fm hG ho_o
  have hc_o := kci_fm ho_o
  unfold FX0_empty at h
  refine kV_aloadn 1 dX0_empty_0 rfl rfl ?_
  refine rg0_28 4 dX0_empty_1 hO_o hc_o rfl ?_
  refine kV_iconst 5 dX0_empty_4 ic_0 rfl ?_
  obtain ⟨S1, hx, h⟩ := kb_ex h
  subst hx
  refine kC_S 8 [] [] dX0_empty_5 (okJ7_fill (k := 5) (len := 5) hG d hO_o hc_o (fun h => absurd h.2 (by decide)) rfl rfl rfl (by decide)) kmtJ7_fill_53178 (wi_r6 _ (List.mem_of_getElem? (i := 21) rfl)) rfl rfl rfl rfl rfl ?_
  generalize kpR S o 5 (kfill 5 (0 : Int32) ((S o).2 5)) = S1 at h ⊢
  refine kV_aloadn 9 dX0_empty_8 rfl rfl ?_
  refine rg0_31 12 dX0_empty_9 hO_o hc_o rfl ?_
  refine kV_iconst 13 dX0_empty_12 ic_m1 rfl ?_
  obtain ⟨S2, hx, h⟩ := kb_ex h
  subst hx
  refine kC_S 16 [] [] dX0_empty_13 (okJ7_fill (k := 6) (len := 5) hG d hO_o hc_o (fun h => absurd h.2 (by decide)) rfl rfl rfl (by decide)) kmtJ7_fill_53178 (wi_r6 _ (List.mem_of_getElem? (i := 21) rfl)) rfl rfl rfl rfl rfl ?_
  generalize kpR S1 o 6 (kfill 5 (-1 : Int32) ((S1 o).2 6)) = S2 at h ⊢
  cases h
  exact kV_vret dX0_empty_16
abbrev mX0_sureValue : kM := (yX0_sureValue, cX0_sureValue, 4, (some .int))
theorem kmvX0_sureValue : kMv mX0_sureValue 1 0 := ⟨⟨(wi_r21 _ (List.mem_of_getElem? (i := 16) rfl)), (wi_r6 _ (List.mem_of_getElem? (i := 1) rfl)), ⟨by decide +kernel, by decide +kernel, by decide +kernel⟩, by decide⟩, (wi_r21 _ (List.mem_of_getElem? (i := 14) rfl)), (wi_r21 _ (List.mem_of_getElem? (i := 15) rfl)), rfl⟩
def FX0_sureValue_J88 (o : Nat) (S : kS) : Option (Int32) :=
  some (-1 : Int32)
def FX0_sureValue_J66 (o : Nat) (S : kS) : Option (Int32) :=
  some (-1 : Int32)
def FX0_sureValue (o : Nat) (S : kS) (a1 : Int32) : Option (Int32) :=
  (FX0_hasPlace o S a1).bind fun x1 => if x1 = 0 then (some (-1 : Int32)) else (kgd (kin a1 5) <| kb (kA S o 1 a1) fun x2 => if x2 = (1 : Int32) then (kgd (kin a1 5) <| kb (kA S o 3 a1) fun x3 => kgd (kin a1 5) <| kb (kA S o 4 a1) fun x4 => (FX0_hasPlace o S x3).bind fun x5 => if x5 = 0 then (FX0_sureValue_J66 o S) else ((FX0_hasPlace o S x4).bind fun x6 => if x6 = 0 then (FX0_sureValue_J66 o S) else (kgd (kin a1 5) <| kb (kA S o 2 a1) fun x7 => if 0 < x7 then (kgd (kin x3 5) <| kb (kA S o 6 x3) fun x8 => if x8 = (-1 : Int32) then (FX0_sureValue_J88 o S) else (kgd (kin x4 5) <| kb (kA S o 6 x4) fun x9 => if x9 = (-1 : Int32) then (FX0_sureValue_J88 o S) else (kgd (kin x3 5) <| kb (kA S o 6 x3) fun x10 => kgd (kin x4 5) <| kb (kA S o 6 x4) fun x11 => kgd (kin a1 5) <| kb (kA S o 2 a1) fun x12 => kgd (knz x12) <| some ((x10 + x11) - (x10 + x11) / x12 * x12)))) else (FX0_sureValue_J66 o S)))) else (kgd (kin a1 5) <| kb (kA S o 6 a1) fun x13 => some x13))
theorem TX0_sureValue_J88 {G : kG} {n : Nat} {d : Nat} {X : kX} (hG : kg_N G = 55 + 14 * n) {o : Nat} (ho_o : kfm n o = true) {S : kS} {res : Int32} (h : FX0_sureValue_J88 o S = some res) : kV (X, RX0, 4, (some .int), G, krm (d + 1), (0, 0), kQ X G (some (.int res)) (kgl G n S)) cX0_sureValue (kgl G n S) [none, none, none, none] [] 88 := by
  have hO_o := kOk_fm hG ho_o
  have hc_o := kci_fm ho_o
  unfold FX0_sureValue_J88 at h
  refine kV_iconst 89 dX0_sureValue_88 ic_m1 rfl ?_
  cases h
  exact kV_iret dX0_sureValue_89
theorem TX0_sureValue_J66 {G : kG} {n : Nat} {d : Nat} {X : kX} (hG : kg_N G = 55 + 14 * n) {o : Nat} (ho_o : kfm n o = true) {S : kS} {res : Int32} (h : FX0_sureValue_J66 o S = some res) : kV (X, RX0, 4, (some .int), G, krm (d + 1), (0, 0), kQ X G (some (.int res)) (kgl G n S)) cX0_sureValue (kgl G n S) [none, none, none, none] [] 66 := by
  have hO_o := kOk_fm hG ho_o
  have hc_o := kci_fm ho_o
  unfold FX0_sureValue_J66 at h
  refine kV_iconst 67 dX0_sureValue_66 ic_m1 rfl ?_
  cases h
  exact kV_iret dX0_sureValue_67
theorem okX0_sureValue {l : Launch} {G : kG} {n : Nat} (hG : kg_N G = 55 + 14 * n) (d : Nat) {o : Nat} (ho_o : kfm n o = true) {S : kS} {a1 : Int32} {res : Int32} (h : FX0_sureValue o S a1 = some res) : kEv l G (d + 1) mX0_sureValue [.ref (kg_ad G (kbo o)), .int a1] (kgl G n S) (some (.int res)) (kgl G n S) := by
  refine kEv_of RX0 [some (.ref (kg_ad G (kbo o))), some (.int a1), none, none] rfl (by decide +kernel) rfl rfl rfl rfl (fun X hX => ?_)
  subst hX
  have hO_o := kOk_fm hG ho_o
  have hc_o := kci_fm ho_o
  unfold FX0_sureValue at h
  refine kV_aloadn 1 dX0_sureValue_0 rfl rfl ?_
  refine kV_iloadn 2 dX0_sureValue_1 rfl rfl ?_
  obtain ⟨x1, hx, h⟩ := kbi_ex h
  refine kC_V 5 [] [.int x1] dX0_sureValue_2 (okX0_hasPlace hG d ho_o hx) kmvX0_hasPlace (wi_r9 _ (List.mem_of_getElem? (i := 6) rfl)) hO_o hc_o rfl rfl rfl rfl rfl ?_
  clear hx
  rcases kif_ex h with ⟨hc, h⟩ | ⟨hc, h⟩
  · refine kV_if_ne_f 10 8 dX0_sureValue_5 (by decide) hc rfl ?_
    clear hc
    refine kV_iconst 9 dX0_sureValue_8 ic_m1 rfl ?_
    cases h
    exact kV_iret dX0_sureValue_9
  · refine kV_if_ne_t 10 dX0_sureValue_5 (by decide) hc ?_
    clear hc
    refine kV_aloadn 11 dX0_sureValue_10 rfl rfl ?_
    refine rg0_15 14 dX0_sureValue_11 hO_o hc_o rfl ?_
    refine kV_iloadn 15 dX0_sureValue_14 rfl rfl ?_
    obtain ⟨hi, h⟩ := kgd_ex h
    obtain ⟨x2, hx, h⟩ := kb_ex h
    refine rl0_1 16 dX0_sureValue_15 hO_o hc_o hi hx rfl ?_
    clear hi hx
    refine kV_iconst 17 dX0_sureValue_16 ic_1 rfl ?_
    rcases kif_ex h with ⟨hc, h⟩ | ⟨hc, h⟩
    · refine kV_icmp_eq_t 27 dX0_sureValue_17 (by decide) hc ?_
      clear hc
      refine kV_aloadn 28 dX0_sureValue_27 rfl rfl ?_
      refine rg0_22 31 dX0_sureValue_28 hO_o hc_o rfl ?_
      refine kV_iloadn 32 dX0_sureValue_31 rfl rfl ?_
      obtain ⟨hi, h⟩ := kgd_ex h
      obtain ⟨x3, hx, h⟩ := kb_ex h
      refine rl0_3 33 dX0_sureValue_32 hO_o hc_o hi hx rfl ?_
      clear hi hx
      refine kV_istoren 34 [some (.ref (kg_ad G (kbo o))), some (.int a1), some (.int x3), none] dX0_sureValue_33 rfl rfl rfl ?_
      refine kV_aloadn 35 dX0_sureValue_34 rfl rfl ?_
      refine rg0_25 38 dX0_sureValue_35 hO_o hc_o rfl ?_
      refine kV_iloadn 39 dX0_sureValue_38 rfl rfl ?_
      obtain ⟨hi, h⟩ := kgd_ex h
      obtain ⟨x4, hx, h⟩ := kb_ex h
      refine rl0_4 40 dX0_sureValue_39 hO_o hc_o hi hx rfl ?_
      clear hi hx
      refine kV_istoren 41 [some (.ref (kg_ad G (kbo o))), some (.int a1), some (.int x3), some (.int x4)] dX0_sureValue_40 rfl rfl rfl ?_
      refine kV_aloadn 42 dX0_sureValue_41 rfl rfl ?_
      refine kV_iloadn 43 dX0_sureValue_42 rfl rfl ?_
      obtain ⟨x5, hx, h⟩ := kbi_ex h
      refine kC_V 46 [] [.int x5] dX0_sureValue_43 (okX0_hasPlace hG d ho_o hx) kmvX0_hasPlace (wi_r9 _ (List.mem_of_getElem? (i := 6) rfl)) hO_o hc_o rfl rfl rfl rfl rfl ?_
      clear hx
      rcases kif_ex h with ⟨hc, h⟩ | ⟨hc, h⟩
      · refine kV_if_eq_t 66 dX0_sureValue_46 (by decide) hc ?_
        clear hc
        refine kV_drop [false, false, false, false] rfl ?_
        exact TX0_sureValue_J66 hG ho_o h
      · refine kV_if_eq_f 66 49 dX0_sureValue_46 (by decide) hc rfl ?_
        clear hc
        refine kV_aloadn 50 dX0_sureValue_49 rfl rfl ?_
        refine kV_iloadn 51 dX0_sureValue_50 rfl rfl ?_
        obtain ⟨x6, hx, h⟩ := kbi_ex h
        refine kC_V 54 [] [.int x6] dX0_sureValue_51 (okX0_hasPlace hG d ho_o hx) kmvX0_hasPlace (wi_r9 _ (List.mem_of_getElem? (i := 6) rfl)) hO_o hc_o rfl rfl rfl rfl rfl ?_
        clear hx
        rcases kif_ex h with ⟨hc, h⟩ | ⟨hc, h⟩
        · refine kV_if_eq_t 66 dX0_sureValue_54 (by decide) hc ?_
          clear hc
          refine kV_drop [false, false, false, false] rfl ?_
          exact TX0_sureValue_J66 hG ho_o h
        · refine kV_if_eq_f 66 57 dX0_sureValue_54 (by decide) hc rfl ?_
          clear hc
          refine kV_aloadn 58 dX0_sureValue_57 rfl rfl ?_
          refine rg0_19 61 dX0_sureValue_58 hO_o hc_o rfl ?_
          refine kV_iloadn 62 dX0_sureValue_61 rfl rfl ?_
          obtain ⟨hi, h⟩ := kgd_ex h
          obtain ⟨x7, hx, h⟩ := kb_ex h
          refine rl0_2 63 dX0_sureValue_62 hO_o hc_o hi hx rfl ?_
          clear hi hx
          rcases kif_ex h with ⟨hc, h⟩ | ⟨hc, h⟩
          · refine kV_if_gt_t 68 dX0_sureValue_63 (by decide) hc ?_
            clear hc
            refine kV_aloadn 69 dX0_sureValue_68 rfl rfl ?_
            refine rg0_31 72 dX0_sureValue_69 hO_o hc_o rfl ?_
            refine kV_iloadn 73 dX0_sureValue_72 rfl rfl ?_
            obtain ⟨hi, h⟩ := kgd_ex h
            obtain ⟨x8, hx, h⟩ := kb_ex h
            refine rl0_6 74 dX0_sureValue_73 hO_o hc_o hi hx rfl ?_
            clear hi hx
            refine kV_iconst 75 dX0_sureValue_74 ic_m1 rfl ?_
            rcases kif_ex h with ⟨hc, h⟩ | ⟨hc, h⟩
            · refine kV_icmp_eq_t 88 dX0_sureValue_75 (by decide) hc ?_
              clear hc
              refine kV_drop [false, false, false, false] rfl ?_
              exact TX0_sureValue_J88 hG ho_o h
            · refine kV_icmp_eq_f 88 78 dX0_sureValue_75 (by decide) hc rfl ?_
              clear hc
              refine kV_aloadn 79 dX0_sureValue_78 rfl rfl ?_
              refine rg0_31 82 dX0_sureValue_79 hO_o hc_o rfl ?_
              refine kV_iloadn 83 dX0_sureValue_82 rfl rfl ?_
              obtain ⟨hi, h⟩ := kgd_ex h
              obtain ⟨x9, hx, h⟩ := kb_ex h
              refine rl0_6 84 dX0_sureValue_83 hO_o hc_o hi hx rfl ?_
              clear hi hx
              refine kV_iconst 85 dX0_sureValue_84 ic_m1 rfl ?_
              rcases kif_ex h with ⟨hc, h⟩ | ⟨hc, h⟩
              · refine kV_icmp_ne_f 90 88 dX0_sureValue_85 (by decide) hc rfl ?_
                clear hc
                refine kV_drop [false, false, false, false] rfl ?_
                exact TX0_sureValue_J88 hG ho_o h
              · refine kV_icmp_ne_t 90 dX0_sureValue_85 (by decide) hc ?_
                clear hc
                refine kV_aloadn 91 dX0_sureValue_90 rfl rfl ?_
                refine rg0_31 94 dX0_sureValue_91 hO_o hc_o rfl ?_
                refine kV_iloadn 95 dX0_sureValue_94 rfl rfl ?_
                obtain ⟨hi, h⟩ := kgd_ex h
                obtain ⟨x10, hx, h⟩ := kb_ex h
                refine rl0_6 96 dX0_sureValue_95 hO_o hc_o hi hx rfl ?_
                clear hi hx
                refine kV_aloadn 97 dX0_sureValue_96 rfl rfl ?_
                refine rg0_31 100 dX0_sureValue_97 hO_o hc_o rfl ?_
                refine kV_iloadn 101 dX0_sureValue_100 rfl rfl ?_
                obtain ⟨hi, h⟩ := kgd_ex h
                obtain ⟨x11, hx, h⟩ := kb_ex h
                refine rl0_6 102 dX0_sureValue_101 hO_o hc_o hi hx rfl ?_
                clear hi hx
                refine kV_iadd 103 dX0_sureValue_102 rfl ?_
                refine kV_aloadn 104 dX0_sureValue_103 rfl rfl ?_
                refine rg0_19 107 dX0_sureValue_104 hO_o hc_o rfl ?_
                refine kV_iloadn 108 dX0_sureValue_107 rfl rfl ?_
                obtain ⟨hi, h⟩ := kgd_ex h
                obtain ⟨x12, hx, h⟩ := kb_ex h
                refine rl0_2 109 dX0_sureValue_108 hO_o hc_o hi hx rfl ?_
                clear hi hx
                obtain ⟨hn, h⟩ := kgd2_ex h
                refine kV_irem 110 dX0_sureValue_109 hn rfl ?_
                cases h
                exact kV_iret dX0_sureValue_110
          · refine kV_if_gt_f 68 66 dX0_sureValue_63 (by decide) hc rfl ?_
            clear hc
            refine kV_drop [false, false, false, false] rfl ?_
            exact TX0_sureValue_J66 hG ho_o h
    · refine kV_icmp_eq_f 27 20 dX0_sureValue_17 (by decide) hc rfl ?_
      clear hc
      refine kV_aloadn 21 dX0_sureValue_20 rfl rfl ?_
      refine rg0_31 24 dX0_sureValue_21 hO_o hc_o rfl ?_
      refine kV_iloadn 25 dX0_sureValue_24 rfl rfl ?_
      obtain ⟨hi, h⟩ := kgd_ex h
      obtain ⟨x13, hx, h⟩ := kb_ex h
      refine rl0_6 26 dX0_sureValue_25 hO_o hc_o hi hx rfl ?_
      clear hi hx
      cases h
      exact kV_iret dX0_sureValue_26
abbrev mX0_setOf : kM := (yX0_setOf, cX0_setOf, 3, (some .int))
theorem kmvX0_setOf : kMv mX0_setOf 1 0 := ⟨⟨(wi_r21 _ (List.mem_of_getElem? (i := 11) rfl)), (wi_r6 _ (List.mem_of_getElem? (i := 1) rfl)), ⟨by decide +kernel, by decide +kernel, by decide +kernel⟩, by decide⟩, (wi_r21 _ (List.mem_of_getElem? (i := 9) rfl)), (wi_r21 _ (List.mem_of_getElem? (i := 10) rfl)), rfl⟩
def FX0_setOf_J26 (o : Nat) (S : kS) (s0 : Int32) : Option (Int32) :=
  some s0
def FX0_setOf_J45 (o : Nat) (S : kS) (s0 : Int32) : Option (Int32) :=
  some s0
def FX0_setOf (o : Nat) (S : kS) (a1 : Int32) : Option (Int32) :=
  (FX0_isWorked o S a1).bind fun x1 => if x1 = 0 then ((FX0_hasPlace o S a1).bind fun x3 => if x3 = 0 then (FX0_setOf_J26 o S (0 : Int32)) else (kgd (kin a1 5) <| kb (kA S o 5 a1) fun x4 => FX0_setOf_J26 o S x4)) else ((FX0_sureValue o S a1).bind fun x2 => if x2 = (-1 : Int32) then (FX0_setOf_J45 o S (0 : Int32)) else (FX0_setOf_J45 o S ((1 : Int32) <<< (x2 &&& 31))))
theorem TX0_setOf_J26 {G : kG} {n : Nat} {d : Nat} {X : kX} (hG : kg_N G = 55 + 14 * n) {o : Nat} (ho_o : kfm n o = true) {S : kS} {s0 : Int32} {res : Int32} (h : FX0_setOf_J26 o S s0 = some res) : kV (X, RX0, 3, (some .int), G, krm (d + 2), (0, 0), kQ X G (some (.int res)) (kgl G n S)) cX0_setOf (kgl G n S) [none, none, none] [.int s0] 26 := by
  have hO_o := kOk_fm hG ho_o
  have hc_o := kci_fm ho_o
  unfold FX0_setOf_J26 at h
  cases h
  exact kV_iret dX0_setOf_26
theorem TX0_setOf_J45 {G : kG} {n : Nat} {d : Nat} {X : kX} (hG : kg_N G = 55 + 14 * n) {o : Nat} (ho_o : kfm n o = true) {S : kS} {s0 : Int32} {res : Int32} (h : FX0_setOf_J45 o S s0 = some res) : kV (X, RX0, 3, (some .int), G, krm (d + 2), (0, 0), kQ X G (some (.int res)) (kgl G n S)) cX0_setOf (kgl G n S) [none, none, none] [.int s0] 45 := by
  have hO_o := kOk_fm hG ho_o
  have hc_o := kci_fm ho_o
  unfold FX0_setOf_J45 at h
  cases h
  exact kV_iret dX0_setOf_45
theorem okX0_setOf {l : Launch} {G : kG} {n : Nat} (hG : kg_N G = 55 + 14 * n) (d : Nat) {o : Nat} (ho_o : kfm n o = true) {S : kS} {a1 : Int32} {res : Int32} (h : FX0_setOf o S a1 = some res) : kEv l G (d + 2) mX0_setOf [.ref (kg_ad G (kbo o)), .int a1] (kgl G n S) (some (.int res)) (kgl G n S) := by
  refine kEv_of RX0 [some (.ref (kg_ad G (kbo o))), some (.int a1), none] rfl (by decide +kernel) rfl rfl rfl rfl (fun X hX => ?_)
  subst hX
  have hO_o := kOk_fm hG ho_o
  have hc_o := kci_fm ho_o
  unfold FX0_setOf at h
  refine kV_aloadn 1 dX0_setOf_0 rfl rfl ?_
  refine kV_iloadn 2 dX0_setOf_1 rfl rfl ?_
  obtain ⟨x1, hx, h⟩ := kbi_ex h
  refine kC_V 5 [] [.int x1] dX0_setOf_2 (okX0_isWorked hG d ho_o hx) kmvX0_isWorked (wi_r21 _ (List.mem_of_getElem? (i := 12) rfl)) hO_o hc_o rfl rfl rfl rfl rfl ?_
  clear hx
  rcases kif_ex h with ⟨hc, h⟩ | ⟨hc, h⟩
  · refine kV_if_ne_f 27 8 dX0_setOf_5 (by decide) hc rfl ?_
    clear hc
    refine kV_aloadn 9 dX0_setOf_8 rfl rfl ?_
    refine kV_iloadn 10 dX0_setOf_9 rfl rfl ?_
    obtain ⟨x3, hx, h⟩ := kbi_ex h
    refine kC_V 13 [] [.int x3] dX0_setOf_10 (okX0_hasPlace hG (d + 1) ho_o hx) kmvX0_hasPlace (wi_r9 _ (List.mem_of_getElem? (i := 6) rfl)) hO_o hc_o rfl rfl rfl rfl rfl ?_
    clear hx
    rcases kif_ex h with ⟨hc, h⟩ | ⟨hc, h⟩
    · refine kV_if_eq_t 25 dX0_setOf_13 (by decide) hc ?_
      clear hc
      refine kV_iconst 26 dX0_setOf_25 ic_0 rfl ?_
      refine kV_drop [false, false, false] rfl ?_
      exact TX0_setOf_J26 hG ho_o h
    · refine kV_if_eq_f 25 16 dX0_setOf_13 (by decide) hc rfl ?_
      clear hc
      refine kV_aloadn 17 dX0_setOf_16 rfl rfl ?_
      refine rg0_28 20 dX0_setOf_17 hO_o hc_o rfl ?_
      refine kV_iloadn 21 dX0_setOf_20 rfl rfl ?_
      obtain ⟨hi, h⟩ := kgd_ex h
      obtain ⟨x4, hx, h⟩ := kb_ex h
      refine rl0_5 22 dX0_setOf_21 hO_o hc_o hi hx rfl ?_
      clear hi hx
      refine kV_goto 26 dX0_setOf_22 (by decide) ?_
      refine kV_drop [false, false, false] rfl ?_
      exact TX0_setOf_J26 hG ho_o h
  · refine kV_if_ne_t 27 dX0_setOf_5 (by decide) hc ?_
    clear hc
    refine kV_aloadn 28 dX0_setOf_27 rfl rfl ?_
    refine kV_iloadn 29 dX0_setOf_28 rfl rfl ?_
    obtain ⟨x2, hx, h⟩ := kbi_ex h
    refine kC_V 32 [] [.int x2] dX0_setOf_29 (okX0_sureValue hG d ho_o hx) kmvX0_sureValue (wi_r21 _ (List.mem_of_getElem? (i := 13) rfl)) hO_o hc_o rfl rfl rfl rfl rfl ?_
    clear hx
    refine kV_istoren 33 [some (.ref (kg_ad G (kbo o))), some (.int a1), some (.int x2)] dX0_setOf_32 rfl rfl rfl ?_
    refine kV_iloadn 34 dX0_setOf_33 rfl rfl ?_
    refine kV_iconst 35 dX0_setOf_34 ic_m1 rfl ?_
    rcases kif_ex h with ⟨hc, h⟩ | ⟨hc, h⟩
    · refine kV_icmp_ne_f 42 38 dX0_setOf_35 (by decide) hc rfl ?_
      clear hc
      refine kV_iconst 39 dX0_setOf_38 ic_0 rfl ?_
      refine kV_goto 45 dX0_setOf_39 (by decide) ?_
      refine kV_drop [false, false, false] rfl ?_
      exact TX0_setOf_J45 hG ho_o h
    · refine kV_icmp_ne_t 42 dX0_setOf_35 (by decide) hc ?_
      clear hc
      refine kV_iconst 43 dX0_setOf_42 ic_1 rfl ?_
      refine kV_iloadn 44 dX0_setOf_43 rfl rfl ?_
      refine kV_ishl 45 dX0_setOf_44 rfl ?_
      refine kV_drop [false, false, false] rfl ?_
      exact TX0_setOf_J45 hG ho_o h
abbrev mX0_leastValue : kM := (yX0_leastValue, cX0_leastValue, 4, (some .int))
theorem kmvX0_leastValue : kMv mX0_leastValue 1 0 := ⟨⟨(wi_r27 _ (List.mem_of_getElem? (i := 4) rfl)), (wi_r6 _ (List.mem_of_getElem? (i := 1) rfl)), ⟨by decide +kernel, by decide +kernel, by decide +kernel⟩, by decide⟩, (wi_r27 _ (List.mem_of_getElem? (i := 2) rfl)), (wi_r27 _ (List.mem_of_getElem? (i := 3) rfl)), rfl⟩
def FX0_leastValue_B8 (o : Nat) (c8 : Int32 × Int32 → Option (Int32)) (S : kS) (v2 : Int32) (v3 : Int32) : Option (Int32) :=
  if (4 : Int32) ≤ v3 then (some (-1 : Int32)) else (if ((v2 >>> (v3 &&& 31)) &&& (1 : Int32)) = 0 then (c8 (v2, (v3 + (1 : Int32)))) else (some v3))
def FX0_leastValue_L8 (o : Nat) (S : kS) (v2 : Int32) (v3 : Int32) : Option (Int32) :=
  kfix (fun rec (q : Int32 × Int32) => FX0_leastValue_B8 o rec S q.1 q.2) kfuel (v2, v3)
def FX0_leastValue (o : Nat) (S : kS) (a1 : Int32) : Option (Int32) :=
  (FX0_setOf o S a1).bind fun x1 => FX0_leastValue_L8 o S x1 (0 : Int32)
theorem TX0_leastValue_B8 {G : kG} {n : Nat} {d : Nat} {X : kX} (hG : kg_N G = 55 + 14 * n) {o : Nat} (ho_o : kfm n o = true) {S : kS} {c8 : Int32 × Int32 → Option (Int32)} (hc8 : ∀ (q : Int32 × Int32) (res : Int32), c8 q = some res → kV (X, RX0, 4, (some .int), G, krm (d + 3), (0, 0), kQ X G (some (.int res)) (kgl G n S)) cX0_leastValue (kgl G n S) [none, none, some (.int (q.1)), some (.int (q.2))] [] 8) {v2 : Int32} {v3 : Int32} {res : Int32} (h : FX0_leastValue_B8 o c8 S v2 v3 = some res) : kV (X, RX0, 4, (some .int), G, krm (d + 3), (0, 0), kQ X G (some (.int res)) (kgl G n S)) cX0_leastValue (kgl G n S) [none, none, some (.int v2), some (.int v3)] [] 8 := by
  have hO_o := kOk_fm hG ho_o
  have hc_o := kci_fm ho_o
  unfold FX0_leastValue_B8 at h
  refine kV_iloadn 9 dX0_leastValue_8 rfl rfl ?_
  refine kV_iconst 10 dX0_leastValue_9 ic_4 rfl ?_
  rcases kif_ex h with ⟨hc, h⟩ | ⟨hc, h⟩
  · refine kV_icmp_ge_t 29 dX0_leastValue_10 (by decide) hc ?_
    clear hc
    refine kV_iconst 30 dX0_leastValue_29 ic_m1 rfl ?_
    cases h
    exact kV_iret dX0_leastValue_30
  · refine kV_icmp_ge_f 29 13 dX0_leastValue_10 (by decide) hc rfl ?_
    clear hc
    refine kV_iloadn 14 dX0_leastValue_13 rfl rfl ?_
    refine kV_iloadn 15 dX0_leastValue_14 rfl rfl ?_
    refine kV_ishr 16 dX0_leastValue_15 rfl ?_
    refine kV_iconst 17 dX0_leastValue_16 ic_1 rfl ?_
    refine kV_iand 18 dX0_leastValue_17 rfl ?_
    rcases kif_ex h with ⟨hc, h⟩ | ⟨hc, h⟩
    · refine kV_if_eq_t 23 dX0_leastValue_18 (by decide) hc ?_
      clear hc
      refine kV_iinc 26 [none, none, some (.int v2), some (.int (v3 + (1 : Int32)))] dX0_leastValue_23 rfl (kinc_1 _) rfl rfl rfl ?_
      refine kV_goto 8 dX0_leastValue_26 (by decide) ?_
      refine kV_drop [false, false, true, true] rfl ?_
      exact hc8 _ _ h
    · refine kV_if_eq_f 23 21 dX0_leastValue_18 (by decide) hc rfl ?_
      clear hc
      refine kV_iloadn 22 dX0_leastValue_21 rfl rfl ?_
      cases h
      exact kV_iret dX0_leastValue_22
theorem TX0_leastValue_L8 {G : kG} {n : Nat} {d : Nat} {X : kX} (hG : kg_N G = 55 + 14 * n) {o : Nat} (ho_o : kfm n o = true) {S : kS} {v2 : Int32} {v3 : Int32} {res : Int32} (h : FX0_leastValue_L8 o S v2 v3 = some res) : kV (X, RX0, 4, (some .int), G, krm (d + 3), (0, 0), kQ X G (some (.int res)) (kgl G n S)) cX0_leastValue (kgl G n S) [none, none, some (.int v2), some (.int v3)] [] 8 := by
  unfold FX0_leastValue_L8 at h
  exact kfix_ok (P := fun (q : Int32 × Int32) (res : Int32) => kV (X, RX0, 4, (some .int), G, krm (d + 3), (0, 0), kQ X G (some (.int res)) (kgl G n S)) cX0_leastValue (kgl G n S) [none, none, some (.int (q.1)), some (.int (q.2))] [] 8) (fun rec hrec q res hq => TX0_leastValue_B8 hG ho_o hrec hq) kfuel _ _ h
theorem okX0_leastValue {l : Launch} {G : kG} {n : Nat} (hG : kg_N G = 55 + 14 * n) (d : Nat) {o : Nat} (ho_o : kfm n o = true) {S : kS} {a1 : Int32} {res : Int32} (h : FX0_leastValue o S a1 = some res) : kEv l G (d + 3) mX0_leastValue [.ref (kg_ad G (kbo o)), .int a1] (kgl G n S) (some (.int res)) (kgl G n S) := by
  refine kEv_of RX0 [some (.ref (kg_ad G (kbo o))), some (.int a1), none, none] rfl (by decide +kernel) rfl rfl rfl rfl (fun X hX => ?_)
  subst hX
  have hO_o := kOk_fm hG ho_o
  have hc_o := kci_fm ho_o
  unfold FX0_leastValue at h
  refine kV_aloadn 1 dX0_leastValue_0 rfl rfl ?_
  refine kV_iloadn 2 dX0_leastValue_1 rfl rfl ?_
  obtain ⟨x1, hx, h⟩ := kbi_ex h
  refine kC_V 5 [] [.int x1] dX0_leastValue_2 (okX0_setOf hG d ho_o hx) kmvX0_setOf (wi_r21 _ (List.mem_of_getElem? (i := 21) rfl)) hO_o hc_o rfl rfl rfl rfl rfl ?_
  clear hx
  refine kV_istoren 6 [some (.ref (kg_ad G (kbo o))), some (.int a1), some (.int x1), none] dX0_leastValue_5 rfl rfl rfl ?_
  refine kV_iconst 7 dX0_leastValue_6 ic_0 rfl ?_
  refine kV_istoren 8 [some (.ref (kg_ad G (kbo o))), some (.int a1), some (.int x1), some (.int (0 : Int32))] dX0_leastValue_7 rfl rfl rfl ?_
  refine kV_drop [false, false, true, true] rfl ?_
  exact TX0_leastValue_L8 hG ho_o h
abbrev mX0_isWanted : kM := (yX0_isWanted, cX0_isWanted, 4, (some .boolean))
theorem kmvX0_isWanted : kMv mX0_isWanted 1 0 := ⟨⟨(wi_r26 _ (List.mem_of_getElem? (i := 19) rfl)), (wi_r6 _ (List.mem_of_getElem? (i := 1) rfl)), ⟨by decide +kernel, by decide +kernel, by decide +kernel⟩, by decide⟩, (wi_r26 _ (List.mem_of_getElem? (i := 17) rfl)), (wi_r26 _ (List.mem_of_getElem? (i := 18) rfl)), rfl⟩
def FX0_isWanted_J75 (o : Nat) (c24 : Int32 × Int32 × Int32 → Option (Int32)) (S : kS) (v1 : Int32) (v2 : Int32) (v3 : Int32) : Option (Int32) :=
  c24 (v1, v2, (v3 + (1 : Int32)))
def FX0_isWanted_B24 (o : Nat) (c24 : Int32 × Int32 × Int32 → Option (Int32)) (S : kS) (v1 : Int32) (v2 : Int32) (v3 : Int32) : Option (Int32) :=
  kb (kI S o 7) fun x1 => if x1 ≤ v3 then (kgd (kz v2) <| some v2) else (kgd (kin v3 6) <| kb (kA S o 8 v3) fun x2 => if x2 = (1 : Int32) then (kgd (kin v3 6) <| kb (kA S o 11 v3) fun x3 => if x3 = v1 then (kgd (kin v3 6) <| kb (kA S o 9 v3) fun x4 => (FX0_sureValue o S x4).bind fun x5 => kgd (kin v3 6) <| kb (kA S o 10 v3) fun x6 => if x5 = x6 then (some (1 : Int32)) else (FX0_isWanted_J75 o c24 S v1 (0 : Int32) v3)) else (FX0_isWanted_J75 o c24 S v1 v2 v3)) else (FX0_isWanted_J75 o c24 S v1 v2 v3))
def FX0_isWanted_L24 (o : Nat) (S : kS) (v1 : Int32) (v2 : Int32) (v3 : Int32) : Option (Int32) :=
  kfix (fun rec (q : Int32 × Int32 × Int32) => FX0_isWanted_B24 o rec S q.1 q.2.1 q.2.2) kfuel (v1, v2, v3)
def FX0_isWanted_J18 (o : Nat) (S : kS) : Option (Int32) :=
  some (0 : Int32)
def FX0_isWanted (o : Nat) (S : kS) (a1 : Int32) : Option (Int32) :=
  (FX0_hasPlace o S a1).bind fun x1 => if x1 = 0 then (FX0_isWanted_J18 o S) else (kgd (kin a1 5) <| kb (kA S o 1 a1) fun x2 => if x2 = (1 : Int32) then (FX0_isWanted_J18 o S) else (FX0_isWanted_L24 o S a1 (1 : Int32) (0 : Int32)))
theorem TX0_isWanted_J75 {G : kG} {n : Nat} {d : Nat} {X : kX} (hG : kg_N G = 55 + 14 * n) {o : Nat} (ho_o : kfm n o = true) {c24 : Int32 × Int32 × Int32 → Option (Int32)} {S : kS} (hc24 : ∀ (q : Int32 × Int32 × Int32) (res : Int32), c24 q = some res → kV (X, RX0, 4, (some .boolean), G, krm (d + 2), (0, 0), kQ X G (some (.int res)) (kgl G n S)) cX0_isWanted (kgl G n S) [some (.ref (kg_ad G (kbo o))), some (.int (q.1)), some (.int (q.2.1)), some (.int (q.2.2))] [] 24) {v1 : Int32} {v2 : Int32} {v3 : Int32} {res : Int32} (h : FX0_isWanted_J75 o c24 S v1 v2 v3 = some res) : kV (X, RX0, 4, (some .boolean), G, krm (d + 2), (0, 0), kQ X G (some (.int res)) (kgl G n S)) cX0_isWanted (kgl G n S) [some (.ref (kg_ad G (kbo o))), some (.int v1), some (.int v2), some (.int v3)] [] 75 := by
  have hO_o := kOk_fm hG ho_o
  have hc_o := kci_fm ho_o
  unfold FX0_isWanted_J75 at h
  refine kV_iinc 78 [some (.ref (kg_ad G (kbo o))), some (.int v1), some (.int v2), some (.int (v3 + (1 : Int32)))] dX0_isWanted_75 rfl (kinc_1 _) rfl rfl rfl ?_
  refine kV_goto 24 dX0_isWanted_78 (by decide) ?_
  refine kV_drop [true, true, true, true] rfl ?_
  exact hc24 _ _ h
theorem TX0_isWanted_B24 {G : kG} {n : Nat} {d : Nat} {X : kX} (hG : kg_N G = 55 + 14 * n) {o : Nat} (ho_o : kfm n o = true) {S : kS} {c24 : Int32 × Int32 × Int32 → Option (Int32)} (hc24 : ∀ (q : Int32 × Int32 × Int32) (res : Int32), c24 q = some res → kV (X, RX0, 4, (some .boolean), G, krm (d + 2), (0, 0), kQ X G (some (.int res)) (kgl G n S)) cX0_isWanted (kgl G n S) [some (.ref (kg_ad G (kbo o))), some (.int (q.1)), some (.int (q.2.1)), some (.int (q.2.2))] [] 24) {v1 : Int32} {v2 : Int32} {v3 : Int32} {res : Int32} (h : FX0_isWanted_B24 o c24 S v1 v2 v3 = some res) : kV (X, RX0, 4, (some .boolean), G, krm (d + 2), (0, 0), kQ X G (some (.int res)) (kgl G n S)) cX0_isWanted (kgl G n S) [some (.ref (kg_ad G (kbo o))), some (.int v1), some (.int v2), some (.int v3)] [] 24 := by
  have hO_o := kOk_fm hG ho_o
  have hc_o := kci_fm ho_o
  unfold FX0_isWanted_B24 at h
  refine kV_iloadn 25 dX0_isWanted_24 rfl rfl ?_
  refine kV_aloadn 26 dX0_isWanted_25 rfl rfl ?_
  obtain ⟨x1, hx, h⟩ := kb_ex h
  refine rg0_34 29 dX0_isWanted_26 hO_o hc_o hx rfl ?_
  clear hx
  rcases kif_ex h with ⟨hc, h⟩ | ⟨hc, h⟩
  · refine kV_icmp_ge_t 81 dX0_isWanted_29 (by decide) hc ?_
    clear hc
    refine kV_iloadn 82 dX0_isWanted_81 rfl rfl ?_
    obtain ⟨hz, h⟩ := kgd_ex h
    cases h
    exact kV_zret dX0_isWanted_82 (of_decide_eq_true hz)
  · refine kV_icmp_ge_f 81 32 dX0_isWanted_29 (by decide) hc rfl ?_
    clear hc
    refine kV_aloadn 33 dX0_isWanted_32 rfl rfl ?_
    refine rg0_37 36 dX0_isWanted_33 hO_o hc_o rfl ?_
    refine kV_iloadn 37 dX0_isWanted_36 rfl rfl ?_
    obtain ⟨hi, h⟩ := kgd_ex h
    obtain ⟨x2, hx, h⟩ := kb_ex h
    refine rl0_8 38 dX0_isWanted_37 hO_o hc_o hi hx rfl ?_
    clear hi hx
    refine kV_iconst 39 dX0_isWanted_38 ic_1 rfl ?_
    rcases kif_ex h with ⟨hc, h⟩ | ⟨hc, h⟩
    · refine kV_icmp_ne_f 75 42 dX0_isWanted_39 (by decide) hc rfl ?_
      clear hc
      refine kV_aloadn 43 dX0_isWanted_42 rfl rfl ?_
      refine rg0_46 46 dX0_isWanted_43 hO_o hc_o rfl ?_
      refine kV_iloadn 47 dX0_isWanted_46 rfl rfl ?_
      obtain ⟨hi, h⟩ := kgd_ex h
      obtain ⟨x3, hx, h⟩ := kb_ex h
      refine rl0_11 48 dX0_isWanted_47 hO_o hc_o hi hx rfl ?_
      clear hi hx
      refine kV_iloadn 49 dX0_isWanted_48 rfl rfl ?_
      rcases kif_ex h with ⟨hc, h⟩ | ⟨hc, h⟩
      · refine kV_icmp_ne_f 75 52 dX0_isWanted_49 (by decide) hc rfl ?_
        clear hc
        refine kV_aloadn 53 dX0_isWanted_52 rfl rfl ?_
        refine kV_aloadn 54 dX0_isWanted_53 rfl rfl ?_
        refine rg0_40 57 dX0_isWanted_54 hO_o hc_o rfl ?_
        refine kV_iloadn 58 dX0_isWanted_57 rfl rfl ?_
        obtain ⟨hi, h⟩ := kgd_ex h
        obtain ⟨x4, hx, h⟩ := kb_ex h
        refine rl0_9 59 dX0_isWanted_58 hO_o hc_o hi hx rfl ?_
        clear hi hx
        obtain ⟨x5, hx, h⟩ := kbi_ex h
        refine kC_V 62 [] [.int x5] dX0_isWanted_59 (okX0_sureValue hG d ho_o hx) kmvX0_sureValue (wi_r21 _ (List.mem_of_getElem? (i := 13) rfl)) hO_o hc_o rfl rfl rfl rfl rfl ?_
        clear hx
        refine kV_aloadn 63 dX0_isWanted_62 rfl rfl ?_
        refine rg0_43 66 dX0_isWanted_63 hO_o hc_o rfl ?_
        refine kV_iloadn 67 dX0_isWanted_66 rfl rfl ?_
        obtain ⟨hi, h⟩ := kgd_ex h
        obtain ⟨x6, hx, h⟩ := kb_ex h
        refine rl0_10 68 dX0_isWanted_67 hO_o hc_o hi hx rfl ?_
        clear hi hx
        rcases kif_ex h with ⟨hc, h⟩ | ⟨hc, h⟩
        · refine kV_icmp_ne_f 73 71 dX0_isWanted_68 (by decide) hc rfl ?_
          clear hc
          refine kV_iconst 72 dX0_isWanted_71 ic_1 rfl ?_
          cases h
          exact kV_zret dX0_isWanted_72 (by decide)
        · refine kV_icmp_ne_t 73 dX0_isWanted_68 (by decide) hc ?_
          clear hc
          refine kV_iconst 74 dX0_isWanted_73 ic_0 rfl ?_
          refine kV_istoren 75 [some (.ref (kg_ad G (kbo o))), some (.int v1), some (.int (0 : Int32)), some (.int v3)] dX0_isWanted_74 rfl rfl rfl ?_
          refine kV_drop [true, true, true, true] rfl ?_
          exact TX0_isWanted_J75 hG ho_o hc24 h
      · refine kV_icmp_ne_t 75 dX0_isWanted_49 (by decide) hc ?_
        clear hc
        refine kV_drop [true, true, true, true] rfl ?_
        exact TX0_isWanted_J75 hG ho_o hc24 h
    · refine kV_icmp_ne_t 75 dX0_isWanted_39 (by decide) hc ?_
      clear hc
      refine kV_drop [true, true, true, true] rfl ?_
      exact TX0_isWanted_J75 hG ho_o hc24 h
theorem TX0_isWanted_L24 {G : kG} {n : Nat} {d : Nat} {X : kX} (hG : kg_N G = 55 + 14 * n) {o : Nat} (ho_o : kfm n o = true) {S : kS} {v1 : Int32} {v2 : Int32} {v3 : Int32} {res : Int32} (h : FX0_isWanted_L24 o S v1 v2 v3 = some res) : kV (X, RX0, 4, (some .boolean), G, krm (d + 2), (0, 0), kQ X G (some (.int res)) (kgl G n S)) cX0_isWanted (kgl G n S) [some (.ref (kg_ad G (kbo o))), some (.int v1), some (.int v2), some (.int v3)] [] 24 := by
  unfold FX0_isWanted_L24 at h
  exact kfix_ok (P := fun (q : Int32 × Int32 × Int32) (res : Int32) => kV (X, RX0, 4, (some .boolean), G, krm (d + 2), (0, 0), kQ X G (some (.int res)) (kgl G n S)) cX0_isWanted (kgl G n S) [some (.ref (kg_ad G (kbo o))), some (.int (q.1)), some (.int (q.2.1)), some (.int (q.2.2))] [] 24) (fun rec hrec q res hq => TX0_isWanted_B24 hG ho_o hrec hq) kfuel _ _ h
theorem TX0_isWanted_J18 {G : kG} {n : Nat} {d : Nat} {X : kX} (hG : kg_N G = 55 + 14 * n) {o : Nat} (ho_o : kfm n o = true) {S : kS} {res : Int32} (h : FX0_isWanted_J18 o S = some res) : kV (X, RX0, 4, (some .boolean), G, krm (d + 2), (0, 0), kQ X G (some (.int res)) (kgl G n S)) cX0_isWanted (kgl G n S) [none, none, none, none] [] 18 := by
  have hO_o := kOk_fm hG ho_o
  have hc_o := kci_fm ho_o
  unfold FX0_isWanted_J18 at h
  refine kV_iconst 19 dX0_isWanted_18 ic_0 rfl ?_
  cases h
  exact kV_zret dX0_isWanted_19 (by decide)
theorem okX0_isWanted {l : Launch} {G : kG} {n : Nat} (hG : kg_N G = 55 + 14 * n) (d : Nat) {o : Nat} (ho_o : kfm n o = true) {S : kS} {a1 : Int32} {res : Int32} (h : FX0_isWanted o S a1 = some res) : kEv l G (d + 2) mX0_isWanted [.ref (kg_ad G (kbo o)), .int a1] (kgl G n S) (some (.int res)) (kgl G n S) := by
  refine kEv_of RX0 [some (.ref (kg_ad G (kbo o))), some (.int a1), none, none] rfl (by decide +kernel) rfl rfl rfl rfl (fun X hX => ?_)
  subst hX
  have hO_o := kOk_fm hG ho_o
  have hc_o := kci_fm ho_o
  unfold FX0_isWanted at h
  refine kV_aloadn 1 dX0_isWanted_0 rfl rfl ?_
  refine kV_iloadn 2 dX0_isWanted_1 rfl rfl ?_
  obtain ⟨x1, hx, h⟩ := kbi_ex h
  refine kC_V 5 [] [.int x1] dX0_isWanted_2 (okX0_hasPlace hG (d + 1) ho_o hx) kmvX0_hasPlace (wi_r9 _ (List.mem_of_getElem? (i := 6) rfl)) hO_o hc_o rfl rfl rfl rfl rfl ?_
  clear hx
  rcases kif_ex h with ⟨hc, h⟩ | ⟨hc, h⟩
  · refine kV_if_eq_t 18 dX0_isWanted_5 (by decide) hc ?_
    clear hc
    refine kV_drop [false, false, false, false] rfl ?_
    exact TX0_isWanted_J18 hG ho_o h
  · refine kV_if_eq_f 18 8 dX0_isWanted_5 (by decide) hc rfl ?_
    clear hc
    refine kV_aloadn 9 dX0_isWanted_8 rfl rfl ?_
    refine rg0_15 12 dX0_isWanted_9 hO_o hc_o rfl ?_
    refine kV_iloadn 13 dX0_isWanted_12 rfl rfl ?_
    obtain ⟨hi, h⟩ := kgd_ex h
    obtain ⟨x2, hx, h⟩ := kb_ex h
    refine rl0_1 14 dX0_isWanted_13 hO_o hc_o hi hx rfl ?_
    clear hi hx
    refine kV_iconst 15 dX0_isWanted_14 ic_1 rfl ?_
    rcases kif_ex h with ⟨hc, h⟩ | ⟨hc, h⟩
    · refine kV_icmp_ne_f 20 18 dX0_isWanted_15 (by decide) hc rfl ?_
      clear hc
      refine kV_drop [false, false, false, false] rfl ?_
      exact TX0_isWanted_J18 hG ho_o h
    · refine kV_icmp_ne_t 20 dX0_isWanted_15 (by decide) hc ?_
      clear hc
      refine kV_iconst 21 dX0_isWanted_20 ic_1 rfl ?_
      refine kV_istoren 22 [some (.ref (kg_ad G (kbo o))), some (.int a1), some (.int (1 : Int32)), none] dX0_isWanted_21 rfl rfl rfl ?_
      refine kV_iconst 23 dX0_isWanted_22 ic_0 rfl ?_
      refine kV_istoren 24 [some (.ref (kg_ad G (kbo o))), some (.int a1), some (.int (1 : Int32)), some (.int (0 : Int32))] dX0_isWanted_23 rfl rfl rfl ?_
      refine kV_drop [true, true, true, true] rfl ?_
      exact TX0_isWanted_L24 hG ho_o h
abbrev mX0_questions : kM := (yX0_questions, cX0_questions, 3, (some .int))
theorem kmvX0_questions : kMv mX0_questions 0 0 := ⟨⟨(wi_r26 _ (List.mem_of_getElem? (i := 15) rfl)), (wi_r6 _ (List.mem_of_getElem? (i := 1) rfl)), ⟨by decide +kernel, by decide +kernel, by decide +kernel⟩, by decide⟩, (wi_r26 _ (List.mem_of_getElem? (i := 13) rfl)), (wi_r26 _ (List.mem_of_getElem? (i := 14) rfl)), rfl⟩
def FX0_questions_J35 (o : Nat) (c4 : Int32 × Int32 → Option (Int32)) (S : kS) (v1 : Int32) (v2 : Int32) : Option (Int32) :=
  c4 (v1, (v2 + (1 : Int32)))
def FX0_questions_B4 (o : Nat) (c4 : Int32 × Int32 → Option (Int32)) (S : kS) (v1 : Int32) (v2 : Int32) : Option (Int32) :=
  kb (kI S o 0) fun x1 => if x1 ≤ v2 then (some v1) else ((FX0_sureValue o S v2).bind fun x2 => if x2 = (-1 : Int32) then ((FX0_isWanted o S v2).bind fun x3 => if x3 = 0 then (FX0_questions_J35 o c4 S v1 v2) else (FX0_questions_J35 o c4 S (v1 ||| ((1 : Int32) <<< (v2 &&& 31))) v2)) else (FX0_questions_J35 o c4 S v1 v2))
def FX0_questions_L4 (o : Nat) (S : kS) (v1 : Int32) (v2 : Int32) : Option (Int32) :=
  kfix (fun rec (q : Int32 × Int32) => FX0_questions_B4 o rec S q.1 q.2) kfuel (v1, v2)
def FX0_questions (o : Nat) (S : kS) : Option (Int32) :=
  FX0_questions_L4 o S (0 : Int32) (0 : Int32)
theorem TX0_questions_J35 {G : kG} {n : Nat} {d : Nat} {X : kX} (hG : kg_N G = 55 + 14 * n) {o : Nat} (ho_o : kfm n o = true) {c4 : Int32 × Int32 → Option (Int32)} {S : kS} (hc4 : ∀ (q : Int32 × Int32) (res : Int32), c4 q = some res → kV (X, RX0, 3, (some .int), G, krm (d + 3), (0, 0), kQ X G (some (.int res)) (kgl G n S)) cX0_questions (kgl G n S) [some (.ref (kg_ad G (kbo o))), some (.int (q.1)), some (.int (q.2))] [] 4) {v1 : Int32} {v2 : Int32} {res : Int32} (h : FX0_questions_J35 o c4 S v1 v2 = some res) : kV (X, RX0, 3, (some .int), G, krm (d + 3), (0, 0), kQ X G (some (.int res)) (kgl G n S)) cX0_questions (kgl G n S) [some (.ref (kg_ad G (kbo o))), some (.int v1), some (.int v2)] [] 35 := by
  have hO_o := kOk_fm hG ho_o
  have hc_o := kci_fm ho_o
  unfold FX0_questions_J35 at h
  refine kV_iinc 38 [some (.ref (kg_ad G (kbo o))), some (.int v1), some (.int (v2 + (1 : Int32)))] dX0_questions_35 rfl (kinc_1 _) rfl rfl rfl ?_
  refine kV_goto 4 dX0_questions_38 (by decide) ?_
  refine kV_drop [true, true, true] rfl ?_
  exact hc4 _ _ h
theorem TX0_questions_B4 {G : kG} {n : Nat} {d : Nat} {X : kX} (hG : kg_N G = 55 + 14 * n) {o : Nat} (ho_o : kfm n o = true) {S : kS} {c4 : Int32 × Int32 → Option (Int32)} (hc4 : ∀ (q : Int32 × Int32) (res : Int32), c4 q = some res → kV (X, RX0, 3, (some .int), G, krm (d + 3), (0, 0), kQ X G (some (.int res)) (kgl G n S)) cX0_questions (kgl G n S) [some (.ref (kg_ad G (kbo o))), some (.int (q.1)), some (.int (q.2))] [] 4) {v1 : Int32} {v2 : Int32} {res : Int32} (h : FX0_questions_B4 o c4 S v1 v2 = some res) : kV (X, RX0, 3, (some .int), G, krm (d + 3), (0, 0), kQ X G (some (.int res)) (kgl G n S)) cX0_questions (kgl G n S) [some (.ref (kg_ad G (kbo o))), some (.int v1), some (.int v2)] [] 4 := by
  have hO_o := kOk_fm hG ho_o
  have hc_o := kci_fm ho_o
  unfold FX0_questions_B4 at h
  refine kV_iloadn 5 dX0_questions_4 rfl rfl ?_
  refine kV_aloadn 6 dX0_questions_5 rfl rfl ?_
  obtain ⟨x1, hx, h⟩ := kb_ex h
  refine rg0_9 9 dX0_questions_6 hO_o hc_o hx rfl ?_
  clear hx
  rcases kif_ex h with ⟨hc, h⟩ | ⟨hc, h⟩
  · refine kV_icmp_ge_t 41 dX0_questions_9 (by decide) hc ?_
    clear hc
    refine kV_iloadn 42 dX0_questions_41 rfl rfl ?_
    cases h
    exact kV_iret dX0_questions_42
  · refine kV_icmp_ge_f 41 12 dX0_questions_9 (by decide) hc rfl ?_
    clear hc
    refine kV_aloadn 13 dX0_questions_12 rfl rfl ?_
    refine kV_iloadn 14 dX0_questions_13 rfl rfl ?_
    obtain ⟨x2, hx, h⟩ := kbi_ex h
    refine kC_V 17 [] [.int x2] dX0_questions_14 (okX0_sureValue hG (d + 1) ho_o hx) kmvX0_sureValue (wi_r21 _ (List.mem_of_getElem? (i := 13) rfl)) hO_o hc_o rfl rfl rfl rfl rfl ?_
    clear hx
    refine kV_iconst 18 dX0_questions_17 ic_m1 rfl ?_
    rcases kif_ex h with ⟨hc, h⟩ | ⟨hc, h⟩
    · refine kV_icmp_ne_f 35 21 dX0_questions_18 (by decide) hc rfl ?_
      clear hc
      refine kV_aloadn 22 dX0_questions_21 rfl rfl ?_
      refine kV_iloadn 23 dX0_questions_22 rfl rfl ?_
      obtain ⟨x3, hx, h⟩ := kbi_ex h
      refine kC_V 26 [] [.int x3] dX0_questions_23 (okX0_isWanted hG d ho_o hx) kmvX0_isWanted (wi_r26 _ (List.mem_of_getElem? (i := 16) rfl)) hO_o hc_o rfl rfl rfl rfl rfl ?_
      clear hx
      rcases kif_ex h with ⟨hc, h⟩ | ⟨hc, h⟩
      · refine kV_if_eq_t 35 dX0_questions_26 (by decide) hc ?_
        clear hc
        refine kV_drop [true, true, true] rfl ?_
        exact TX0_questions_J35 hG ho_o hc4 h
      · refine kV_if_eq_f 35 29 dX0_questions_26 (by decide) hc rfl ?_
        clear hc
        refine kV_iloadn 30 dX0_questions_29 rfl rfl ?_
        refine kV_iconst 31 dX0_questions_30 ic_1 rfl ?_
        refine kV_iloadn 32 dX0_questions_31 rfl rfl ?_
        refine kV_ishl 33 dX0_questions_32 rfl ?_
        refine kV_ior 34 dX0_questions_33 rfl ?_
        refine kV_istoren 35 [some (.ref (kg_ad G (kbo o))), some (.int (v1 ||| ((1 : Int32) <<< (v2 &&& 31)))), some (.int v2)] dX0_questions_34 rfl rfl rfl ?_
        refine kV_drop [true, true, true] rfl ?_
        exact TX0_questions_J35 hG ho_o hc4 h
    · refine kV_icmp_ne_t 35 dX0_questions_18 (by decide) hc ?_
      clear hc
      refine kV_drop [true, true, true] rfl ?_
      exact TX0_questions_J35 hG ho_o hc4 h
theorem TX0_questions_L4 {G : kG} {n : Nat} {d : Nat} {X : kX} (hG : kg_N G = 55 + 14 * n) {o : Nat} (ho_o : kfm n o = true) {S : kS} {v1 : Int32} {v2 : Int32} {res : Int32} (h : FX0_questions_L4 o S v1 v2 = some res) : kV (X, RX0, 3, (some .int), G, krm (d + 3), (0, 0), kQ X G (some (.int res)) (kgl G n S)) cX0_questions (kgl G n S) [some (.ref (kg_ad G (kbo o))), some (.int v1), some (.int v2)] [] 4 := by
  unfold FX0_questions_L4 at h
  exact kfix_ok (P := fun (q : Int32 × Int32) (res : Int32) => kV (X, RX0, 3, (some .int), G, krm (d + 3), (0, 0), kQ X G (some (.int res)) (kgl G n S)) cX0_questions (kgl G n S) [some (.ref (kg_ad G (kbo o))), some (.int (q.1)), some (.int (q.2))] [] 4) (fun rec hrec q res hq => TX0_questions_B4 hG ho_o hrec hq) kfuel _ _ h
theorem okX0_questions {l : Launch} {G : kG} {n : Nat} (hG : kg_N G = 55 + 14 * n) (d : Nat) {o : Nat} (ho_o : kfm n o = true) {S : kS} {res : Int32} (h : FX0_questions o S = some res) : kEv l G (d + 3) mX0_questions [.ref (kg_ad G (kbo o))] (kgl G n S) (some (.int res)) (kgl G n S) := by
  refine kEv_of RX0 [some (.ref (kg_ad G (kbo o))), none, none] rfl (by decide +kernel) rfl rfl rfl rfl (fun X hX => ?_)
  subst hX
  have hO_o := kOk_fm hG ho_o
  have hc_o := kci_fm ho_o
  unfold FX0_questions at h
  refine kV_iconst 1 dX0_questions_0 ic_0 rfl ?_
  refine kV_istoren 2 [some (.ref (kg_ad G (kbo o))), some (.int (0 : Int32)), none] dX0_questions_1 rfl rfl rfl ?_
  refine kV_iconst 3 dX0_questions_2 ic_0 rfl ?_
  refine kV_istoren 4 [some (.ref (kg_ad G (kbo o))), some (.int (0 : Int32)), some (.int (0 : Int32))] dX0_questions_3 rfl rfl rfl ?_
  refine kV_drop [true, true, true] rfl ?_
  exact TX0_questions_L4 hG ho_o h
abbrev mX0_placeToConfirm : kM := (yX0_placeToConfirm, cX0_placeToConfirm, 3, (some .int))
theorem kmvX0_placeToConfirm : kMv mX0_placeToConfirm 0 0 := ⟨⟨(wi_r26 _ (List.mem_of_getElem? (i := 23) rfl)), (wi_r6 _ (List.mem_of_getElem? (i := 1) rfl)), ⟨by decide +kernel, by decide +kernel, by decide +kernel⟩, by decide⟩, (wi_r26 _ (List.mem_of_getElem? (i := 21) rfl)), (wi_r26 _ (List.mem_of_getElem? (i := 22) rfl)), rfl⟩
def FX0_placeToConfirm_J44 (o : Nat) (c7 : Int32 × Int32 → Option (Int32)) (S : kS) (v1 : Int32) (v2 : Int32) : Option (Int32) :=
  c7 (v1, (v2 + (1 : Int32)))
def FX0_placeToConfirm_B7 (o : Nat) (c7 : Int32 × Int32 → Option (Int32)) (S : kS) (v1 : Int32) (v2 : Int32) : Option (Int32) :=
  kb (kI S o 0) fun x1 => if x1 ≤ v2 then (some (-1 : Int32)) else (if ((v1 >>> (v2 &&& 31)) &&& (1 : Int32)) = 0 then (FX0_placeToConfirm_J44 o c7 S v1 v2) else (kgd (kin v2 5) <| kb (kA S o 5 v2) fun x2 => if x2 = 0 then (FX0_placeToConfirm_J44 o c7 S v1 v2) else (kgd (kin v2 5) <| kb (kA S o 1 v2) fun x3 => if x3 = (2 : Int32) then (FX0_placeToConfirm_J44 o c7 S v1 v2) else (some v2))))
def FX0_placeToConfirm_L7 (o : Nat) (S : kS) (v1 : Int32) (v2 : Int32) : Option (Int32) :=
  kfix (fun rec (q : Int32 × Int32) => FX0_placeToConfirm_B7 o rec S q.1 q.2) kfuel (v1, v2)
def FX0_placeToConfirm (o : Nat) (S : kS) : Option (Int32) :=
  (FX0_questions o S).bind fun x1 => FX0_placeToConfirm_L7 o S x1 (0 : Int32)
theorem TX0_placeToConfirm_J44 {G : kG} {n : Nat} {d : Nat} {X : kX} (hG : kg_N G = 55 + 14 * n) {o : Nat} (ho_o : kfm n o = true) {c7 : Int32 × Int32 → Option (Int32)} {S : kS} (hc7 : ∀ (q : Int32 × Int32) (res : Int32), c7 q = some res → kV (X, RX0, 3, (some .int), G, krm (d + 4), (0, 0), kQ X G (some (.int res)) (kgl G n S)) cX0_placeToConfirm (kgl G n S) [some (.ref (kg_ad G (kbo o))), some (.int (q.1)), some (.int (q.2))] [] 7) {v1 : Int32} {v2 : Int32} {res : Int32} (h : FX0_placeToConfirm_J44 o c7 S v1 v2 = some res) : kV (X, RX0, 3, (some .int), G, krm (d + 4), (0, 0), kQ X G (some (.int res)) (kgl G n S)) cX0_placeToConfirm (kgl G n S) [some (.ref (kg_ad G (kbo o))), some (.int v1), some (.int v2)] [] 44 := by
  have hO_o := kOk_fm hG ho_o
  have hc_o := kci_fm ho_o
  unfold FX0_placeToConfirm_J44 at h
  refine kV_iinc 47 [some (.ref (kg_ad G (kbo o))), some (.int v1), some (.int (v2 + (1 : Int32)))] dX0_placeToConfirm_44 rfl (kinc_1 _) rfl rfl rfl ?_
  refine kV_goto 7 dX0_placeToConfirm_47 (by decide) ?_
  refine kV_drop [true, true, true] rfl ?_
  exact hc7 _ _ h
theorem TX0_placeToConfirm_B7 {G : kG} {n : Nat} {d : Nat} {X : kX} (hG : kg_N G = 55 + 14 * n) {o : Nat} (ho_o : kfm n o = true) {S : kS} {c7 : Int32 × Int32 → Option (Int32)} (hc7 : ∀ (q : Int32 × Int32) (res : Int32), c7 q = some res → kV (X, RX0, 3, (some .int), G, krm (d + 4), (0, 0), kQ X G (some (.int res)) (kgl G n S)) cX0_placeToConfirm (kgl G n S) [some (.ref (kg_ad G (kbo o))), some (.int (q.1)), some (.int (q.2))] [] 7) {v1 : Int32} {v2 : Int32} {res : Int32} (h : FX0_placeToConfirm_B7 o c7 S v1 v2 = some res) : kV (X, RX0, 3, (some .int), G, krm (d + 4), (0, 0), kQ X G (some (.int res)) (kgl G n S)) cX0_placeToConfirm (kgl G n S) [some (.ref (kg_ad G (kbo o))), some (.int v1), some (.int v2)] [] 7 := by
  have hO_o := kOk_fm hG ho_o
  have hc_o := kci_fm ho_o
  unfold FX0_placeToConfirm_B7 at h
  refine kV_iloadn 8 dX0_placeToConfirm_7 rfl rfl ?_
  refine kV_aloadn 9 dX0_placeToConfirm_8 rfl rfl ?_
  obtain ⟨x1, hx, h⟩ := kb_ex h
  refine rg0_9 12 dX0_placeToConfirm_9 hO_o hc_o hx rfl ?_
  clear hx
  rcases kif_ex h with ⟨hc, h⟩ | ⟨hc, h⟩
  · refine kV_icmp_ge_t 50 dX0_placeToConfirm_12 (by decide) hc ?_
    clear hc
    refine kV_iconst 51 dX0_placeToConfirm_50 ic_m1 rfl ?_
    cases h
    exact kV_iret dX0_placeToConfirm_51
  · refine kV_icmp_ge_f 50 15 dX0_placeToConfirm_12 (by decide) hc rfl ?_
    clear hc
    refine kV_iloadn 16 dX0_placeToConfirm_15 rfl rfl ?_
    refine kV_iloadn 17 dX0_placeToConfirm_16 rfl rfl ?_
    refine kV_ishr 18 dX0_placeToConfirm_17 rfl ?_
    refine kV_iconst 19 dX0_placeToConfirm_18 ic_1 rfl ?_
    refine kV_iand 20 dX0_placeToConfirm_19 rfl ?_
    rcases kif_ex h with ⟨hc, h⟩ | ⟨hc, h⟩
    · refine kV_if_eq_t 44 dX0_placeToConfirm_20 (by decide) hc ?_
      clear hc
      refine kV_drop [true, true, true] rfl ?_
      exact TX0_placeToConfirm_J44 hG ho_o hc7 h
    · refine kV_if_eq_f 44 23 dX0_placeToConfirm_20 (by decide) hc rfl ?_
      clear hc
      refine kV_aloadn 24 dX0_placeToConfirm_23 rfl rfl ?_
      refine rg0_28 27 dX0_placeToConfirm_24 hO_o hc_o rfl ?_
      refine kV_iloadn 28 dX0_placeToConfirm_27 rfl rfl ?_
      obtain ⟨hi, h⟩ := kgd_ex h
      obtain ⟨x2, hx, h⟩ := kb_ex h
      refine rl0_5 29 dX0_placeToConfirm_28 hO_o hc_o hi hx rfl ?_
      clear hi hx
      rcases kif_ex h with ⟨hc, h⟩ | ⟨hc, h⟩
      · refine kV_if_eq_t 44 dX0_placeToConfirm_29 (by decide) hc ?_
        clear hc
        refine kV_drop [true, true, true] rfl ?_
        exact TX0_placeToConfirm_J44 hG ho_o hc7 h
      · refine kV_if_eq_f 44 32 dX0_placeToConfirm_29 (by decide) hc rfl ?_
        clear hc
        refine kV_aloadn 33 dX0_placeToConfirm_32 rfl rfl ?_
        refine rg0_15 36 dX0_placeToConfirm_33 hO_o hc_o rfl ?_
        refine kV_iloadn 37 dX0_placeToConfirm_36 rfl rfl ?_
        obtain ⟨hi, h⟩ := kgd_ex h
        obtain ⟨x3, hx, h⟩ := kb_ex h
        refine rl0_1 38 dX0_placeToConfirm_37 hO_o hc_o hi hx rfl ?_
        clear hi hx
        refine kV_iconst 39 dX0_placeToConfirm_38 ic_2 rfl ?_
        rcases kif_ex h with ⟨hc, h⟩ | ⟨hc, h⟩
        · refine kV_icmp_eq_t 44 dX0_placeToConfirm_39 (by decide) hc ?_
          clear hc
          refine kV_drop [true, true, true] rfl ?_
          exact TX0_placeToConfirm_J44 hG ho_o hc7 h
        · refine kV_icmp_eq_f 44 42 dX0_placeToConfirm_39 (by decide) hc rfl ?_
          clear hc
          refine kV_iloadn 43 dX0_placeToConfirm_42 rfl rfl ?_
          cases h
          exact kV_iret dX0_placeToConfirm_43
theorem TX0_placeToConfirm_L7 {G : kG} {n : Nat} {d : Nat} {X : kX} (hG : kg_N G = 55 + 14 * n) {o : Nat} (ho_o : kfm n o = true) {S : kS} {v1 : Int32} {v2 : Int32} {res : Int32} (h : FX0_placeToConfirm_L7 o S v1 v2 = some res) : kV (X, RX0, 3, (some .int), G, krm (d + 4), (0, 0), kQ X G (some (.int res)) (kgl G n S)) cX0_placeToConfirm (kgl G n S) [some (.ref (kg_ad G (kbo o))), some (.int v1), some (.int v2)] [] 7 := by
  unfold FX0_placeToConfirm_L7 at h
  exact kfix_ok (P := fun (q : Int32 × Int32) (res : Int32) => kV (X, RX0, 3, (some .int), G, krm (d + 4), (0, 0), kQ X G (some (.int res)) (kgl G n S)) cX0_placeToConfirm (kgl G n S) [some (.ref (kg_ad G (kbo o))), some (.int (q.1)), some (.int (q.2))] [] 7) (fun rec hrec q res hq => TX0_placeToConfirm_B7 hG ho_o hrec hq) kfuel _ _ h
theorem okX0_placeToConfirm {l : Launch} {G : kG} {n : Nat} (hG : kg_N G = 55 + 14 * n) (d : Nat) {o : Nat} (ho_o : kfm n o = true) {S : kS} {res : Int32} (h : FX0_placeToConfirm o S = some res) : kEv l G (d + 4) mX0_placeToConfirm [.ref (kg_ad G (kbo o))] (kgl G n S) (some (.int res)) (kgl G n S) := by
  refine kEv_of RX0 [some (.ref (kg_ad G (kbo o))), none, none] rfl (by decide +kernel) rfl rfl rfl rfl (fun X hX => ?_)
  subst hX
  have hO_o := kOk_fm hG ho_o
  have hc_o := kci_fm ho_o
  unfold FX0_placeToConfirm at h
  refine kV_aloadn 1 dX0_placeToConfirm_0 rfl rfl ?_
  obtain ⟨x1, hx, h⟩ := kbi_ex h
  refine kC_V 4 [] [.int x1] dX0_placeToConfirm_1 (okX0_questions hG d ho_o hx) kmvX0_questions (wi_r27 _ (List.mem_of_getElem? (i := 0) rfl)) hO_o hc_o rfl rfl rfl rfl rfl ?_
  clear hx
  refine kV_istoren 5 [some (.ref (kg_ad G (kbo o))), some (.int x1), none] dX0_placeToConfirm_4 rfl rfl rfl ?_
  refine kV_iconst 6 dX0_placeToConfirm_5 ic_0 rfl ?_
  refine kV_istoren 7 [some (.ref (kg_ad G (kbo o))), some (.int x1), some (.int (0 : Int32))] dX0_placeToConfirm_6 rfl rfl rfl ?_
  refine kV_drop [true, true, true] rfl ?_
  exact TX0_placeToConfirm_L7 hG ho_o h
abbrev mX0_firstBrokenBar : kM := (yX0_firstBrokenBar, cX0_firstBrokenBar, 2, (some .int))
theorem kmvX0_firstBrokenBar : kMv mX0_firstBrokenBar 0 0 := ⟨⟨(wi_r22 _ (List.mem_of_getElem? (i := 5) rfl)), (wi_r6 _ (List.mem_of_getElem? (i := 1) rfl)), ⟨by decide +kernel, by decide +kernel, by decide +kernel⟩, by decide⟩, (wi_r22 _ (List.mem_of_getElem? (i := 3) rfl)), (wi_r22 _ (List.mem_of_getElem? (i := 4) rfl)), rfl⟩
def FX0_firstBrokenBar_J59 (o : Nat) (c2 : Int32 → Option (Int32)) (S : kS) (v1 : Int32) : Option (Int32) :=
  c2 (v1 + (1 : Int32))
def FX0_firstBrokenBar_B2 (o : Nat) (c2 : Int32 → Option (Int32)) (S : kS) (v1 : Int32) : Option (Int32) :=
  kb (kI S o 7) fun x1 => if x1 ≤ v1 then (some (-1 : Int32)) else (kgd (kin v1 6) <| kb (kA S o 8 v1) fun x2 => if x2 = 0 then (kgd (kin v1 6) <| kb (kA S o 9 v1) fun x3 => (FX0_sureValue o S x3).bind fun x4 => kgd (kin v1 6) <| kb (kA S o 10 v1) fun x5 => if x4 = x5 then (kgd (kin v1 6) <| kb (kA S o 11 v1) fun x6 => (FX0_sureValue o S x6).bind fun x7 => kgd (kin v1 6) <| kb (kA S o 12 v1) fun x8 => if x7 = x8 then (some v1) else (FX0_firstBrokenBar_J59 o c2 S v1)) else (FX0_firstBrokenBar_J59 o c2 S v1)) else (FX0_firstBrokenBar_J59 o c2 S v1))
def FX0_firstBrokenBar_L2 (o : Nat) (S : kS) (v1 : Int32) : Option (Int32) :=
  kfix (fun rec (q : Int32) => FX0_firstBrokenBar_B2 o rec S q) kfuel v1
def FX0_firstBrokenBar (o : Nat) (S : kS) : Option (Int32) :=
  FX0_firstBrokenBar_L2 o S (0 : Int32)
theorem TX0_firstBrokenBar_J59 {G : kG} {n : Nat} {d : Nat} {X : kX} (hG : kg_N G = 55 + 14 * n) {o : Nat} (ho_o : kfm n o = true) {c2 : Int32 → Option (Int32)} {S : kS} (hc2 : ∀ (q : Int32) (res : Int32), c2 q = some res → kV (X, RX0, 2, (some .int), G, krm (d + 2), (0, 0), kQ X G (some (.int res)) (kgl G n S)) cX0_firstBrokenBar (kgl G n S) [some (.ref (kg_ad G (kbo o))), some (.int (q))] [] 2) {v1 : Int32} {res : Int32} (h : FX0_firstBrokenBar_J59 o c2 S v1 = some res) : kV (X, RX0, 2, (some .int), G, krm (d + 2), (0, 0), kQ X G (some (.int res)) (kgl G n S)) cX0_firstBrokenBar (kgl G n S) [some (.ref (kg_ad G (kbo o))), some (.int v1)] [] 59 := by
  have hO_o := kOk_fm hG ho_o
  have hc_o := kci_fm ho_o
  unfold FX0_firstBrokenBar_J59 at h
  refine kV_iinc 62 [some (.ref (kg_ad G (kbo o))), some (.int (v1 + (1 : Int32)))] dX0_firstBrokenBar_59 rfl (kinc_1 _) rfl rfl rfl ?_
  refine kV_goto 2 dX0_firstBrokenBar_62 (by decide) ?_
  refine kV_drop [true, true] rfl ?_
  exact hc2 _ _ h
theorem TX0_firstBrokenBar_B2 {G : kG} {n : Nat} {d : Nat} {X : kX} (hG : kg_N G = 55 + 14 * n) {o : Nat} (ho_o : kfm n o = true) {S : kS} {c2 : Int32 → Option (Int32)} (hc2 : ∀ (q : Int32) (res : Int32), c2 q = some res → kV (X, RX0, 2, (some .int), G, krm (d + 2), (0, 0), kQ X G (some (.int res)) (kgl G n S)) cX0_firstBrokenBar (kgl G n S) [some (.ref (kg_ad G (kbo o))), some (.int (q))] [] 2) {v1 : Int32} {res : Int32} (h : FX0_firstBrokenBar_B2 o c2 S v1 = some res) : kV (X, RX0, 2, (some .int), G, krm (d + 2), (0, 0), kQ X G (some (.int res)) (kgl G n S)) cX0_firstBrokenBar (kgl G n S) [some (.ref (kg_ad G (kbo o))), some (.int v1)] [] 2 := by
  have hO_o := kOk_fm hG ho_o
  have hc_o := kci_fm ho_o
  unfold FX0_firstBrokenBar_B2 at h
  refine kV_iloadn 3 dX0_firstBrokenBar_2 rfl rfl ?_
  refine kV_aloadn 4 dX0_firstBrokenBar_3 rfl rfl ?_
  obtain ⟨x1, hx, h⟩ := kb_ex h
  refine rg0_34 7 dX0_firstBrokenBar_4 hO_o hc_o hx rfl ?_
  clear hx
  rcases kif_ex h with ⟨hc, h⟩ | ⟨hc, h⟩
  · refine kV_icmp_ge_t 65 dX0_firstBrokenBar_7 (by decide) hc ?_
    clear hc
    refine kV_iconst 66 dX0_firstBrokenBar_65 ic_m1 rfl ?_
    cases h
    exact kV_iret dX0_firstBrokenBar_66
  · refine kV_icmp_ge_f 65 10 dX0_firstBrokenBar_7 (by decide) hc rfl ?_
    clear hc
    refine kV_aloadn 11 dX0_firstBrokenBar_10 rfl rfl ?_
    refine rg0_37 14 dX0_firstBrokenBar_11 hO_o hc_o rfl ?_
    refine kV_iloadn 15 dX0_firstBrokenBar_14 rfl rfl ?_
    obtain ⟨hi, h⟩ := kgd_ex h
    obtain ⟨x2, hx, h⟩ := kb_ex h
    refine rl0_8 16 dX0_firstBrokenBar_15 hO_o hc_o hi hx rfl ?_
    clear hi hx
    rcases kif_ex h with ⟨hc, h⟩ | ⟨hc, h⟩
    · refine kV_if_ne_f 59 19 dX0_firstBrokenBar_16 (by decide) hc rfl ?_
      clear hc
      refine kV_aloadn 20 dX0_firstBrokenBar_19 rfl rfl ?_
      refine kV_aloadn 21 dX0_firstBrokenBar_20 rfl rfl ?_
      refine rg0_40 24 dX0_firstBrokenBar_21 hO_o hc_o rfl ?_
      refine kV_iloadn 25 dX0_firstBrokenBar_24 rfl rfl ?_
      obtain ⟨hi, h⟩ := kgd_ex h
      obtain ⟨x3, hx, h⟩ := kb_ex h
      refine rl0_9 26 dX0_firstBrokenBar_25 hO_o hc_o hi hx rfl ?_
      clear hi hx
      obtain ⟨x4, hx, h⟩ := kbi_ex h
      refine kC_V 29 [] [.int x4] dX0_firstBrokenBar_26 (okX0_sureValue hG d ho_o hx) kmvX0_sureValue (wi_r21 _ (List.mem_of_getElem? (i := 13) rfl)) hO_o hc_o rfl rfl rfl rfl rfl ?_
      clear hx
      refine kV_aloadn 30 dX0_firstBrokenBar_29 rfl rfl ?_
      refine rg0_43 33 dX0_firstBrokenBar_30 hO_o hc_o rfl ?_
      refine kV_iloadn 34 dX0_firstBrokenBar_33 rfl rfl ?_
      obtain ⟨hi, h⟩ := kgd_ex h
      obtain ⟨x5, hx, h⟩ := kb_ex h
      refine rl0_10 35 dX0_firstBrokenBar_34 hO_o hc_o hi hx rfl ?_
      clear hi hx
      rcases kif_ex h with ⟨hc, h⟩ | ⟨hc, h⟩
      · refine kV_icmp_ne_f 59 38 dX0_firstBrokenBar_35 (by decide) hc rfl ?_
        clear hc
        refine kV_aloadn 39 dX0_firstBrokenBar_38 rfl rfl ?_
        refine kV_aloadn 40 dX0_firstBrokenBar_39 rfl rfl ?_
        refine rg0_46 43 dX0_firstBrokenBar_40 hO_o hc_o rfl ?_
        refine kV_iloadn 44 dX0_firstBrokenBar_43 rfl rfl ?_
        obtain ⟨hi, h⟩ := kgd_ex h
        obtain ⟨x6, hx, h⟩ := kb_ex h
        refine rl0_11 45 dX0_firstBrokenBar_44 hO_o hc_o hi hx rfl ?_
        clear hi hx
        obtain ⟨x7, hx, h⟩ := kbi_ex h
        refine kC_V 48 [] [.int x7] dX0_firstBrokenBar_45 (okX0_sureValue hG d ho_o hx) kmvX0_sureValue (wi_r21 _ (List.mem_of_getElem? (i := 13) rfl)) hO_o hc_o rfl rfl rfl rfl rfl ?_
        clear hx
        refine kV_aloadn 49 dX0_firstBrokenBar_48 rfl rfl ?_
        refine rg0_49 52 dX0_firstBrokenBar_49 hO_o hc_o rfl ?_
        refine kV_iloadn 53 dX0_firstBrokenBar_52 rfl rfl ?_
        obtain ⟨hi, h⟩ := kgd_ex h
        obtain ⟨x8, hx, h⟩ := kb_ex h
        refine rl0_12 54 dX0_firstBrokenBar_53 hO_o hc_o hi hx rfl ?_
        clear hi hx
        rcases kif_ex h with ⟨hc, h⟩ | ⟨hc, h⟩
        · refine kV_icmp_ne_f 59 57 dX0_firstBrokenBar_54 (by decide) hc rfl ?_
          clear hc
          refine kV_iloadn 58 dX0_firstBrokenBar_57 rfl rfl ?_
          cases h
          exact kV_iret dX0_firstBrokenBar_58
        · refine kV_icmp_ne_t 59 dX0_firstBrokenBar_54 (by decide) hc ?_
          clear hc
          refine kV_drop [true, true] rfl ?_
          exact TX0_firstBrokenBar_J59 hG ho_o hc2 h
      · refine kV_icmp_ne_t 59 dX0_firstBrokenBar_35 (by decide) hc ?_
        clear hc
        refine kV_drop [true, true] rfl ?_
        exact TX0_firstBrokenBar_J59 hG ho_o hc2 h
    · refine kV_if_ne_t 59 dX0_firstBrokenBar_16 (by decide) hc ?_
      clear hc
      refine kV_drop [true, true] rfl ?_
      exact TX0_firstBrokenBar_J59 hG ho_o hc2 h
theorem TX0_firstBrokenBar_L2 {G : kG} {n : Nat} {d : Nat} {X : kX} (hG : kg_N G = 55 + 14 * n) {o : Nat} (ho_o : kfm n o = true) {S : kS} {v1 : Int32} {res : Int32} (h : FX0_firstBrokenBar_L2 o S v1 = some res) : kV (X, RX0, 2, (some .int), G, krm (d + 2), (0, 0), kQ X G (some (.int res)) (kgl G n S)) cX0_firstBrokenBar (kgl G n S) [some (.ref (kg_ad G (kbo o))), some (.int v1)] [] 2 := by
  unfold FX0_firstBrokenBar_L2 at h
  exact kfix_ok (P := fun (q : Int32) (res : Int32) => kV (X, RX0, 2, (some .int), G, krm (d + 2), (0, 0), kQ X G (some (.int res)) (kgl G n S)) cX0_firstBrokenBar (kgl G n S) [some (.ref (kg_ad G (kbo o))), some (.int (q))] [] 2) (fun rec hrec q res hq => TX0_firstBrokenBar_B2 hG ho_o hrec hq) kfuel _ _ h
theorem okX0_firstBrokenBar {l : Launch} {G : kG} {n : Nat} (hG : kg_N G = 55 + 14 * n) (d : Nat) {o : Nat} (ho_o : kfm n o = true) {S : kS} {res : Int32} (h : FX0_firstBrokenBar o S = some res) : kEv l G (d + 2) mX0_firstBrokenBar [.ref (kg_ad G (kbo o))] (kgl G n S) (some (.int res)) (kgl G n S) := by
  refine kEv_of RX0 [some (.ref (kg_ad G (kbo o))), none] rfl (by decide +kernel) rfl rfl rfl rfl (fun X hX => ?_)
  subst hX
  have hO_o := kOk_fm hG ho_o
  have hc_o := kci_fm ho_o
  unfold FX0_firstBrokenBar at h
  refine kV_iconst 1 dX0_firstBrokenBar_0 ic_0 rfl ?_
  refine kV_istoren 2 [some (.ref (kg_ad G (kbo o))), some (.int (0 : Int32))] dX0_firstBrokenBar_1 rfl rfl rfl ?_
  refine kV_drop [true, true] rfl ?_
  exact TX0_firstBrokenBar_L2 hG ho_o h
abbrev mX0_put : kM := (yX0_put, cX0_put, 4, none)
theorem kmvX0_put : kMv mX0_put 3 0 := ⟨⟨(wi_r22 _ (List.mem_of_getElem? (i := 1) rfl)), (wi_r6 _ (List.mem_of_getElem? (i := 1) rfl)), ⟨by decide +kernel, by decide +kernel, by decide +kernel⟩, by decide⟩, (wi_r21 _ (List.mem_of_getElem? (i := 23) rfl)), (wi_r22 _ (List.mem_of_getElem? (i := 0) rfl)), rfl⟩
def FX0_put_J22 (o : Nat) (S : kS) : Option (kS) :=
  some S
def FX0_put (o : Nat) (S : kS) (a1 : Int32) (a2 : Int32) (a3 : Int32) : Option (kS) :=
  (FX0_hasPlace o S a1).bind fun x1 => if x1 = 0 then (FX0_put_J22 o S) else (kgd (kin a1 5) <| kb (kpA S o 5 a1 a2) fun S1 => kgd (kin a1 5) <| kb (kpA S1 o 6 a1 a3) fun S2 => FX0_put_J22 o S2)
theorem TX0_put_J22 {G : kG} {n : Nat} {d : Nat} {X : kX} (hG : kg_N G = 55 + 14 * n) {o : Nat} (ho_o : kfm n o = true) {S : kS} {res : kS} (h : FX0_put_J22 o S = some res) : kV (X, RX0, 4, none, G, krm (d + 1), (0, 0), kQ X G none (kgl G n res)) cX0_put (kgl G n S) [none, none, none, none] [] 22 := by
  have hO_o := kOk_fm hG ho_o
  have hc_o := kci_fm ho_o
  unfold FX0_put_J22 at h
  cases h
  exact kV_vret dX0_put_22
theorem okX0_put {l : Launch} {G : kG} {n : Nat} (hG : kg_N G = 55 + 14 * n) (d : Nat) {o : Nat} (ho_o : kfm n o = true) {S : kS} {a1 : Int32} {a2 : Int32} {a3 : Int32} {res : kS} (h : FX0_put o S a1 a2 a3 = some res) : kEv l G (d + 1) mX0_put [.ref (kg_ad G (kbo o)), .int a1, .int a2, .int a3] (kgl G n S) none (kgl G n res) := by
  refine kEv_of RX0 [some (.ref (kg_ad G (kbo o))), some (.int a1), some (.int a2), some (.int a3)] rfl (by decide +kernel) rfl rfl rfl rfl (fun X hX => ?_)
  subst hX
  have hO_o := kOk_fm hG ho_o
  have hc_o := kci_fm ho_o
  unfold FX0_put at h
  refine kV_aloadn 1 dX0_put_0 rfl rfl ?_
  refine kV_iloadn 2 dX0_put_1 rfl rfl ?_
  obtain ⟨x1, hx, h⟩ := kbi_ex h
  refine kC_V 5 [] [.int x1] dX0_put_2 (okX0_hasPlace hG d ho_o hx) kmvX0_hasPlace (wi_r9 _ (List.mem_of_getElem? (i := 6) rfl)) hO_o hc_o rfl rfl rfl rfl rfl ?_
  clear hx
  rcases kif_ex h with ⟨hc, h⟩ | ⟨hc, h⟩
  · refine kV_if_eq_t 22 dX0_put_5 (by decide) hc ?_
    clear hc
    refine kV_drop [false, false, false, false] rfl ?_
    exact TX0_put_J22 hG ho_o h
  · refine kV_if_eq_f 22 8 dX0_put_5 (by decide) hc rfl ?_
    clear hc
    refine kV_aloadn 9 dX0_put_8 rfl rfl ?_
    refine rg0_28 12 dX0_put_9 hO_o hc_o rfl ?_
    refine kV_iloadn 13 dX0_put_12 rfl rfl ?_
    refine kV_iloadn 14 dX0_put_13 rfl rfl ?_
    obtain ⟨hi, h⟩ := kgd_ex h
    obtain ⟨S1, hx, h⟩ := kb_ex h
    refine rs0_5 15 dX0_put_14 hO_o hc_o hi hx rfl ?_
    clear hi hx
    refine kV_aloadn 16 dX0_put_15 rfl rfl ?_
    refine rg0_31 19 dX0_put_16 hO_o hc_o rfl ?_
    refine kV_iloadn 20 dX0_put_19 rfl rfl ?_
    refine kV_iloadn 21 dX0_put_20 rfl rfl ?_
    obtain ⟨hi, h⟩ := kgd_ex h
    obtain ⟨S2, hx, h⟩ := kb_ex h
    refine rs0_6 22 dX0_put_21 hO_o hc_o hi hx rfl ?_
    clear hi hx
    refine kV_drop [false, false, false, false] rfl ?_
    exact TX0_put_J22 hG ho_o h
abbrev mX0_settle : kM := (yX0_settle, cX0_settle, 7, (some .int))
theorem kmvX0_settle : kMv mX0_settle 3 0 := ⟨⟨(wi_r21 _ (List.mem_of_getElem? (i := 20) rfl)), (wi_r6 _ (List.mem_of_getElem? (i := 1) rfl)), ⟨by decide +kernel, by decide +kernel, by decide +kernel⟩, by decide⟩, (wi_r21 _ (List.mem_of_getElem? (i := 18) rfl)), (wi_r21 _ (List.mem_of_getElem? (i := 19) rfl)), rfl⟩
def FX0_settle_J42 (o : Nat) (S : kS) (v6 : Int32) : Option (Int32 × kS) :=
  some (v6, S)
def FX0_settle (o : Nat) (S : kS) (a1 : Int32) (a2 : Int32) (a3 : Int32) : Option (Int32 × kS) :=
  (FX0_setOf o S a1).bind fun x1 => (FX0_sureValue o S a1).bind fun x2 => (FX0_put o S a1 a2 a3).bind fun S1 => (FX0_firstBrokenBar o S1).bind fun x3 => if x3 = (-1 : Int32) then (FX0_settle_J42 o S1 x3) else ((FX0_put o S1 a1 x1 x2).bind fun S2 => FX0_settle_J42 o S2 x3)
theorem TX0_settle_J42 {G : kG} {n : Nat} {d : Nat} {X : kX} (hG : kg_N G = 55 + 14 * n) {o : Nat} (ho_o : kfm n o = true) {S : kS} {v6 : Int32} {res : Int32 × kS} (h : FX0_settle_J42 o S v6 = some res) : kV (X, RX0, 7, (some .int), G, krm (d + 3), (0, 0), kQ X G (some (.int res.1)) (kgl G n res.2)) cX0_settle (kgl G n S) [none, none, none, none, none, none, some (.int v6)] [] 42 := by
  have hO_o := kOk_fm hG ho_o
  have hc_o := kci_fm ho_o
  unfold FX0_settle_J42 at h
  refine kV_iload 44 dX0_settle_42 rfl rfl ?_
  cases h
  exact kV_iret dX0_settle_44
theorem okX0_settle {l : Launch} {G : kG} {n : Nat} (hG : kg_N G = 55 + 14 * n) (d : Nat) {o : Nat} (ho_o : kfm n o = true) {S : kS} {a1 : Int32} {a2 : Int32} {a3 : Int32} {res : Int32 × kS} (h : FX0_settle o S a1 a2 a3 = some res) : kEv l G (d + 3) mX0_settle [.ref (kg_ad G (kbo o)), .int a1, .int a2, .int a3] (kgl G n S) (some (.int res.1)) (kgl G n res.2) := by
  refine kEv_of RX0 [some (.ref (kg_ad G (kbo o))), some (.int a1), some (.int a2), some (.int a3), none, none, none] rfl (by decide +kernel) rfl rfl rfl rfl (fun X hX => ?_)
  subst hX
  have hO_o := kOk_fm hG ho_o
  have hc_o := kci_fm ho_o
  unfold FX0_settle at h
  refine kV_aloadn 1 dX0_settle_0 rfl rfl ?_
  refine kV_iloadn 2 dX0_settle_1 rfl rfl ?_
  obtain ⟨x1, hx, h⟩ := kbi_ex h
  refine kC_V 5 [] [.int x1] dX0_settle_2 (okX0_setOf hG d ho_o hx) kmvX0_setOf (wi_r21 _ (List.mem_of_getElem? (i := 21) rfl)) hO_o hc_o rfl rfl rfl rfl rfl ?_
  clear hx
  refine kV_istore 7 [some (.ref (kg_ad G (kbo o))), some (.int a1), some (.int a2), some (.int a3), some (.int x1), none, none] dX0_settle_5 rfl rfl rfl ?_
  refine kV_aloadn 8 dX0_settle_7 rfl rfl ?_
  refine kV_iloadn 9 dX0_settle_8 rfl rfl ?_
  obtain ⟨x2, hx, h⟩ := kbi_ex h
  refine kC_V 12 [] [.int x2] dX0_settle_9 (okX0_sureValue hG (d + 1) ho_o hx) kmvX0_sureValue (wi_r21 _ (List.mem_of_getElem? (i := 13) rfl)) hO_o hc_o rfl rfl rfl rfl rfl ?_
  clear hx
  refine kV_istore 14 [some (.ref (kg_ad G (kbo o))), some (.int a1), some (.int a2), some (.int a3), some (.int x1), some (.int x2), none] dX0_settle_12 rfl rfl rfl ?_
  refine kV_aloadn 15 dX0_settle_14 rfl rfl ?_
  refine kV_iloadn 16 dX0_settle_15 rfl rfl ?_
  refine kV_iloadn 17 dX0_settle_16 rfl rfl ?_
  refine kV_iloadn 18 dX0_settle_17 rfl rfl ?_
  obtain ⟨S1, hx, h⟩ := kbi_ex h
  refine kC_V 21 [] [] dX0_settle_18 (okX0_put hG (d + 1) ho_o hx) kmvX0_put (wi_r21 _ (List.mem_of_getElem? (i := 22) rfl)) hO_o hc_o rfl rfl rfl rfl rfl ?_
  clear hx
  refine kV_aloadn 22 dX0_settle_21 rfl rfl ?_
  obtain ⟨x3, hx, h⟩ := kbi_ex h
  refine kC_V 25 [] [.int x3] dX0_settle_22 (okX0_firstBrokenBar hG d ho_o hx) kmvX0_firstBrokenBar (wi_r22 _ (List.mem_of_getElem? (i := 2) rfl)) hO_o hc_o rfl rfl rfl rfl rfl ?_
  clear hx
  refine kV_istore 27 [some (.ref (kg_ad G (kbo o))), some (.int a1), some (.int a2), some (.int a3), some (.int x1), some (.int x2), some (.int x3)] dX0_settle_25 rfl rfl rfl ?_
  refine kV_iload 29 dX0_settle_27 rfl rfl ?_
  refine kV_iconst 30 dX0_settle_29 ic_m1 rfl ?_
  rcases kif_ex h with ⟨hc, h⟩ | ⟨hc, h⟩
  · refine kV_icmp_eq_t 42 dX0_settle_30 (by decide) hc ?_
    clear hc
    refine kV_drop [false, false, false, false, false, false, true] rfl ?_
    exact TX0_settle_J42 hG ho_o h
  · refine kV_icmp_eq_f 42 33 dX0_settle_30 (by decide) hc rfl ?_
    clear hc
    refine kV_aloadn 34 dX0_settle_33 rfl rfl ?_
    refine kV_iloadn 35 dX0_settle_34 rfl rfl ?_
    refine kV_iload 37 dX0_settle_35 rfl rfl ?_
    refine kV_iload 39 dX0_settle_37 rfl rfl ?_
    obtain ⟨S2, hx, h⟩ := kbi_ex h
    refine kC_V 42 [] [] dX0_settle_39 (okX0_put hG (d + 1) ho_o hx) kmvX0_put (wi_r21 _ (List.mem_of_getElem? (i := 22) rfl)) hO_o hc_o rfl rfl rfl rfl rfl ?_
    clear hx
    refine kV_drop [false, false, false, false, false, false, true] rfl ?_
    exact TX0_settle_J42 hG ho_o h
abbrev mX0_strike : kM := (yX0_strike, cX0_strike, 3, none)
theorem kmvX0_strike : kMv mX0_strike 2 0 := ⟨⟨(wi_r22 _ (List.mem_of_getElem? (i := 12) rfl)), (wi_r6 _ (List.mem_of_getElem? (i := 1) rfl)), ⟨by decide +kernel, by decide +kernel, by decide +kernel⟩, by decide⟩, (wi_r22 _ (List.mem_of_getElem? (i := 10) rfl)), (wi_r22 _ (List.mem_of_getElem? (i := 11) rfl)), rfl⟩
def FX0_strike_J27 (o : Nat) (S : kS) : Option (kS) :=
  some S
def FX0_strike (o : Nat) (S : kS) (a1 : Int32) (a2 : Int32) : Option (kS) :=
  (FX0_hasValue o S a1 a2).bind fun x1 => if x1 = 0 then (FX0_strike_J27 o S) else (kgd (kin a1 5) <| kb (kA S o 5 a1) fun x2 => (FX0_put o S a1 (x2 &&& (((1 : Int32) <<< (a2 &&& 31)) ^^^ (-1 : Int32))) (-1 : Int32)).bind fun S1 => FX0_strike_J27 o S1)
theorem TX0_strike_J27 {G : kG} {n : Nat} {d : Nat} {X : kX} (hG : kg_N G = 55 + 14 * n) {o : Nat} (ho_o : kfm n o = true) {S : kS} {res : kS} (h : FX0_strike_J27 o S = some res) : kV (X, RX0, 3, none, G, krm (d + 2), (0, 0), kQ X G none (kgl G n res)) cX0_strike (kgl G n S) [none, none, none] [] 27 := by
  have hO_o := kOk_fm hG ho_o
  have hc_o := kci_fm ho_o
  unfold FX0_strike_J27 at h
  cases h
  exact kV_vret dX0_strike_27
theorem okX0_strike {l : Launch} {G : kG} {n : Nat} (hG : kg_N G = 55 + 14 * n) (d : Nat) {o : Nat} (ho_o : kfm n o = true) {S : kS} {a1 : Int32} {a2 : Int32} {res : kS} (h : FX0_strike o S a1 a2 = some res) : kEv l G (d + 2) mX0_strike [.ref (kg_ad G (kbo o)), .int a1, .int a2] (kgl G n S) none (kgl G n res) := by
  refine kEv_of RX0 [some (.ref (kg_ad G (kbo o))), some (.int a1), some (.int a2)] rfl (by decide +kernel) rfl rfl rfl rfl (fun X hX => ?_)
  subst hX
  have hO_o := kOk_fm hG ho_o
  have hc_o := kci_fm ho_o
  unfold FX0_strike at h
  refine kV_aloadn 1 dX0_strike_0 rfl rfl ?_
  refine kV_iloadn 2 dX0_strike_1 rfl rfl ?_
  refine kV_iloadn 3 dX0_strike_2 rfl rfl ?_
  obtain ⟨x1, hx, h⟩ := kbi_ex h
  refine kC_V 6 [] [.int x1] dX0_strike_3 (okX0_hasValue hG d ho_o hx) kmvX0_hasValue (wi_r22 _ (List.mem_of_getElem? (i := 13) rfl)) hO_o hc_o rfl rfl rfl rfl rfl ?_
  clear hx
  rcases kif_ex h with ⟨hc, h⟩ | ⟨hc, h⟩
  · refine kV_if_eq_t 27 dX0_strike_6 (by decide) hc ?_
    clear hc
    refine kV_drop [false, false, false] rfl ?_
    exact TX0_strike_J27 hG ho_o h
  · refine kV_if_eq_f 27 9 dX0_strike_6 (by decide) hc rfl ?_
    clear hc
    refine kV_aloadn 10 dX0_strike_9 rfl rfl ?_
    refine kV_iloadn 11 dX0_strike_10 rfl rfl ?_
    refine kV_aloadn 12 dX0_strike_11 rfl rfl ?_
    refine rg0_28 15 dX0_strike_12 hO_o hc_o rfl ?_
    refine kV_iloadn 16 dX0_strike_15 rfl rfl ?_
    obtain ⟨hi, h⟩ := kgd_ex h
    obtain ⟨x2, hx, h⟩ := kb_ex h
    refine rl0_5 17 dX0_strike_16 hO_o hc_o hi hx rfl ?_
    clear hi hx
    refine kV_iconst 18 dX0_strike_17 ic_1 rfl ?_
    refine kV_iloadn 19 dX0_strike_18 rfl rfl ?_
    refine kV_ishl 20 dX0_strike_19 rfl ?_
    refine kV_iconst 21 dX0_strike_20 ic_m1 rfl ?_
    refine kV_ixor 22 dX0_strike_21 rfl ?_
    refine kV_iand 23 dX0_strike_22 rfl ?_
    refine kV_iconst 24 dX0_strike_23 ic_m1 rfl ?_
    obtain ⟨S1, hx, h⟩ := kbi_ex h
    refine kC_V 27 [] [] dX0_strike_24 (okX0_put hG d ho_o hx) kmvX0_put (wi_r21 _ (List.mem_of_getElem? (i := 22) rfl)) hO_o hc_o rfl rfl rfl rfl rfl ?_
    clear hx
    refine kV_drop [false, false, false] rfl ?_
    exact TX0_strike_J27 hG ho_o h
abbrev mX0_holdsForm : kM := (yX0_holdsForm, cX0_holdsForm, 2, (some .boolean))
theorem kmtX0_holdsForm : kMt mX0_holdsForm 2 := ⟨⟨(wi_r20 _ (List.mem_of_getElem? (i := 3) rfl)), (wi_r6 _ (List.mem_of_getElem? (i := 1) rfl)), ⟨by decide +kernel, by decide +kernel, by decide +kernel⟩, by decide⟩, (wi_r20 _ (List.mem_of_getElem? (i := 2) rfl))⟩
def FX0_holdsForm_0_J21 (S : kS) (s0 : Int32) : Option (Int32) :=
  kgd (kz s0) <| some s0
def FX0_holdsForm_0_J20 (S : kS) : Option (Int32) :=
  FX0_holdsForm_0_J21 S (0 : Int32)
def FX0_holdsForm_0 (S : kS) (a2 : Int32) : Option (Int32) :=
  if a2 < 0 then (FX0_holdsForm_0_J20 S) else (if ((150 : Int32) - (5 : Int32)) < a2 then (FX0_holdsForm_0_J20 S) else (FX0_holdsForm_0_J21 S (1 : Int32)))
theorem TX0_holdsForm_0_J21 {G : kG} {n : Nat} {d : Nat} {X : kX} (hG : kg_N G = 55 + 14 * n) {S : kS} {s0 : Int32} {res : Int32} (h : FX0_holdsForm_0_J21 S s0 = some res) : kV (X, RX0, 2, (some .boolean), G, krm (d + 0), (0, 0), kQ X G (some (.int res)) (kgl G n S)) cX0_holdsForm (kgl G n S) [none, none] [.int s0] 21 := by
  unfold FX0_holdsForm_0_J21 at h
  obtain ⟨hz, h⟩ := kgd_ex h
  cases h
  exact kV_zret dX0_holdsForm_21 (of_decide_eq_true hz)
theorem TX0_holdsForm_0_J20 {G : kG} {n : Nat} {d : Nat} {X : kX} (hG : kg_N G = 55 + 14 * n) {S : kS} {res : Int32} (h : FX0_holdsForm_0_J20 S = some res) : kV (X, RX0, 2, (some .boolean), G, krm (d + 0), (0, 0), kQ X G (some (.int res)) (kgl G n S)) cX0_holdsForm (kgl G n S) [none, none] [] 20 := by
  unfold FX0_holdsForm_0_J20 at h
  refine kV_iconst 21 dX0_holdsForm_20 ic_0 rfl ?_
  refine kV_drop [false, false] rfl ?_
  exact TX0_holdsForm_0_J21 hG h
theorem okX0_holdsForm_0 {l : Launch} {G : kG} {n : Nat} (hG : kg_N G = 55 + 14 * n) (d : Nat) {S : kS} {a2 : Int32} {res : Int32} (h : FX0_holdsForm_0 S a2 = some res) : kEv l G (d + 0) mX0_holdsForm [.ref (kg_ad G (kbo 4 + 1)), .int a2] (kgl G n S) (some (.int res)) (kgl G n S) := by
  refine kEv_of RX0 [some (.ref (kg_ad G (kbo 4 + 1))), some (.int a2)] rfl (by decide +kernel) rfl rfl rfl rfl (fun X hX => ?_)
  subst hX
  unfold FX0_holdsForm_0 at h
  refine kV_aloadn 1 dX0_holdsForm_0 rfl rfl ?_
  refine kV_ifnull 4 dX0_holdsForm_1 rfl ?_
  refine kV_iloadn 5 dX0_holdsForm_4 rfl rfl ?_
  rcases kif_ex h with ⟨hc, h⟩ | ⟨hc, h⟩
  · refine kV_if_lt_t 20 dX0_holdsForm_5 (by decide) hc ?_
    clear hc
    refine kV_drop [false, false] rfl ?_
    exact TX0_holdsForm_0_J20 hG h
  · refine kV_if_lt_f 20 8 dX0_holdsForm_5 (by decide) hc rfl ?_
    clear hc
    refine kV_iloadn 9 dX0_holdsForm_8 rfl rfl ?_
    refine kV_aloadn 10 dX0_holdsForm_9 rfl rfl ?_
    refine ra1_0 (v := (150 : Int32)) 11 dX0_holdsForm_10 (kOk_of hG rfl) rfl (by decide +kernel) rfl ?_
    refine kV_iconst 12 dX0_holdsForm_11 ic_5 rfl ?_
    refine kV_isub 13 dX0_holdsForm_12 rfl ?_
    rcases kif_ex h with ⟨hc, h⟩ | ⟨hc, h⟩
    · refine kV_icmp_gt_t 20 dX0_holdsForm_13 (by decide) hc ?_
      clear hc
      refine kV_drop [false, false] rfl ?_
      exact TX0_holdsForm_0_J20 hG h
    · refine kV_icmp_gt_f 20 16 dX0_holdsForm_13 (by decide) hc rfl ?_
      clear hc
      refine kV_iconst 17 dX0_holdsForm_16 ic_1 rfl ?_
      refine kV_goto 21 dX0_holdsForm_17 (by decide) ?_
      refine kV_drop [false, false] rfl ?_
      exact TX0_holdsForm_0_J21 hG h
def FX0_holdsForm_1_J21 (S : kS) (s0 : Int32) : Option (Int32) :=
  kgd (kz s0) <| some s0
def FX0_holdsForm_1_J20 (S : kS) : Option (Int32) :=
  FX0_holdsForm_1_J21 S (0 : Int32)
def FX0_holdsForm_1 (S : kS) (a2 : Int32) : Option (Int32) :=
  if a2 < 0 then (FX0_holdsForm_1_J20 S) else (if ((150 : Int32) - (5 : Int32)) < a2 then (FX0_holdsForm_1_J20 S) else (FX0_holdsForm_1_J21 S (1 : Int32)))
theorem TX0_holdsForm_1_J21 {G : kG} {n : Nat} {d : Nat} {X : kX} (hG : kg_N G = 55 + 14 * n) {S : kS} {s0 : Int32} {res : Int32} (h : FX0_holdsForm_1_J21 S s0 = some res) : kV (X, RX0, 2, (some .boolean), G, krm (d + 0), (0, 0), kQ X G (some (.int res)) (kgl G n S)) cX0_holdsForm (kgl G n S) [none, none] [.int s0] 21 := by
  unfold FX0_holdsForm_1_J21 at h
  obtain ⟨hz, h⟩ := kgd_ex h
  cases h
  exact kV_zret dX0_holdsForm_21 (of_decide_eq_true hz)
theorem TX0_holdsForm_1_J20 {G : kG} {n : Nat} {d : Nat} {X : kX} (hG : kg_N G = 55 + 14 * n) {S : kS} {res : Int32} (h : FX0_holdsForm_1_J20 S = some res) : kV (X, RX0, 2, (some .boolean), G, krm (d + 0), (0, 0), kQ X G (some (.int res)) (kgl G n S)) cX0_holdsForm (kgl G n S) [none, none] [] 20 := by
  unfold FX0_holdsForm_1_J20 at h
  refine kV_iconst 21 dX0_holdsForm_20 ic_0 rfl ?_
  refine kV_drop [false, false] rfl ?_
  exact TX0_holdsForm_1_J21 hG h
theorem okX0_holdsForm_1 {l : Launch} {G : kG} {n : Nat} (hG : kg_N G = 55 + 14 * n) (d : Nat) {S : kS} {a2 : Int32} {res : Int32} (h : FX0_holdsForm_1 S a2 = some res) : kEv l G (d + 0) mX0_holdsForm [.ref (kg_ad G (kbo 4 + 2)), .int a2] (kgl G n S) (some (.int res)) (kgl G n S) := by
  refine kEv_of RX0 [some (.ref (kg_ad G (kbo 4 + 2))), some (.int a2)] rfl (by decide +kernel) rfl rfl rfl rfl (fun X hX => ?_)
  subst hX
  unfold FX0_holdsForm_1 at h
  refine kV_aloadn 1 dX0_holdsForm_0 rfl rfl ?_
  refine kV_ifnull 4 dX0_holdsForm_1 rfl ?_
  refine kV_iloadn 5 dX0_holdsForm_4 rfl rfl ?_
  rcases kif_ex h with ⟨hc, h⟩ | ⟨hc, h⟩
  · refine kV_if_lt_t 20 dX0_holdsForm_5 (by decide) hc ?_
    clear hc
    refine kV_drop [false, false] rfl ?_
    exact TX0_holdsForm_1_J20 hG h
  · refine kV_if_lt_f 20 8 dX0_holdsForm_5 (by decide) hc rfl ?_
    clear hc
    refine kV_iloadn 9 dX0_holdsForm_8 rfl rfl ?_
    refine kV_aloadn 10 dX0_holdsForm_9 rfl rfl ?_
    refine ra1_1 (v := (150 : Int32)) 11 dX0_holdsForm_10 (kOk_of hG rfl) rfl (by decide +kernel) rfl ?_
    refine kV_iconst 12 dX0_holdsForm_11 ic_5 rfl ?_
    refine kV_isub 13 dX0_holdsForm_12 rfl ?_
    rcases kif_ex h with ⟨hc, h⟩ | ⟨hc, h⟩
    · refine kV_icmp_gt_t 20 dX0_holdsForm_13 (by decide) hc ?_
      clear hc
      refine kV_drop [false, false] rfl ?_
      exact TX0_holdsForm_1_J20 hG h
    · refine kV_icmp_gt_f 20 16 dX0_holdsForm_13 (by decide) hc rfl ?_
      clear hc
      refine kV_iconst 17 dX0_holdsForm_16 ic_1 rfl ?_
      refine kV_goto 21 dX0_holdsForm_17 (by decide) ?_
      refine kV_drop [false, false] rfl ?_
      exact TX0_holdsForm_1_J21 hG h
abbrev mX0_copyTo : kM := (yX0_copyTo, cX0_copyTo, 4, none)
theorem kmvX0_copyTo : kMv mX0_copyTo 3 0 := ⟨⟨(wi_r19 _ (List.mem_of_getElem? (i := 20) rfl)), (wi_r6 _ (List.mem_of_getElem? (i := 1) rfl)), ⟨by decide +kernel, by decide +kernel, by decide +kernel⟩, by decide⟩, (wi_r19 _ (List.mem_of_getElem? (i := 18) rfl)), (wi_r19 _ (List.mem_of_getElem? (i := 19) rfl)), rfl⟩
def FX0_copyTo_J38 (o : Nat) (S : kS) : Option (kS) :=
  some S
def FX0_copyTo (o : Nat) (S : kS) (a3 : Int32) : Option (kS) :=
  (FX0_holdsForm_0 S a3).bind fun x1 => if x1 = 0 then (FX0_copyTo_J38 o S) else ((FX0_holdsForm_1 S a3).bind fun x2 => if x2 = 0 then (FX0_copyTo_J38 o S) else (kgd (kcp (0 : Int32) a3 (5 : Int32) 5 150) <| kb (kpR S 4 0 (va_cpy ((S o).2 5) ((S 4).2 0) (Int32.toNatClampNeg (0 : Int32)) (Int32.toNatClampNeg a3) (Int32.toNatClampNeg (5 : Int32)))) fun S1 => kgd (kcp (0 : Int32) a3 (5 : Int32) 5 150) <| kb (kpR S1 4 1 (va_cpy ((S1 o).2 6) ((S1 4).2 1) (Int32.toNatClampNeg (0 : Int32)) (Int32.toNatClampNeg a3) (Int32.toNatClampNeg (5 : Int32)))) fun S2 => FX0_copyTo_J38 o S2))
theorem TX0_copyTo_J38 {G : kG} {n : Nat} {d : Nat} {X : kX} (hG : kg_N G = 55 + 14 * n) {o : Nat} (ho_o : kfm n o = true) {S : kS} {res : kS} (h : FX0_copyTo_J38 o S = some res) : kV (X, RX0, 4, none, G, krm (d + 1), (0, 0), kQ X G none (kgl G n res)) cX0_copyTo (kgl G n S) [none, none, none, none] [] 38 := by
  have hO_o := kOk_fm hG ho_o
  have hc_o := kci_fm ho_o
  unfold FX0_copyTo_J38 at h
  cases h
  exact kV_vret dX0_copyTo_38
theorem okX0_copyTo {l : Launch} {G : kG} {n : Nat} (hG : kg_N G = 55 + 14 * n) (d : Nat) {o : Nat} (ho_o : kfm n o = true) {S : kS} {a3 : Int32} {res : kS} (h : FX0_copyTo o S a3 = some res) : kEv l G (d + 1) mX0_copyTo [.ref (kg_ad G (kbo o)), .ref (kg_ad G (kbo 4 + 1)), .ref (kg_ad G (kbo 4 + 2)), .int a3] (kgl G n S) none (kgl G n res) := by
  refine kEv_of RX0 [some (.ref (kg_ad G (kbo o))), some (.ref (kg_ad G (kbo 4 + 1))), some (.ref (kg_ad G (kbo 4 + 2))), some (.int a3)] rfl (by decide +kernel) rfl rfl rfl rfl (fun X hX => ?_)
  subst hX
  have hO_o := kOk_fm hG ho_o
  have hc_o := kci_fm ho_o
  unfold FX0_copyTo at h
  refine kV_aloadn 1 dX0_copyTo_0 rfl rfl ?_
  refine kV_iloadn 2 dX0_copyTo_1 rfl rfl ?_
  obtain ⟨x1, hx, h⟩ := kbi_ex h
  refine kC_S 5 [] [.int x1] dX0_copyTo_2 (okX0_holdsForm_0 hG d  hx) kmtX0_holdsForm (wi_r20 _ (List.mem_of_getElem? (i := 1) rfl)) rfl rfl rfl rfl rfl ?_
  clear hx
  rcases kif_ex h with ⟨hc, h⟩ | ⟨hc, h⟩
  · refine kV_if_eq_t 38 dX0_copyTo_5 (by decide) hc ?_
    clear hc
    refine kV_drop [false, false, false, false] rfl ?_
    exact TX0_copyTo_J38 hG ho_o h
  · refine kV_if_eq_f 38 8 dX0_copyTo_5 (by decide) hc rfl ?_
    clear hc
    refine kV_aloadn 9 dX0_copyTo_8 rfl rfl ?_
    refine kV_iloadn 10 dX0_copyTo_9 rfl rfl ?_
    obtain ⟨x2, hx, h⟩ := kbi_ex h
    refine kC_S 13 [] [.int x2] dX0_copyTo_10 (okX0_holdsForm_1 hG d  hx) kmtX0_holdsForm (wi_r20 _ (List.mem_of_getElem? (i := 1) rfl)) rfl rfl rfl rfl rfl ?_
    clear hx
    rcases kif_ex h with ⟨hc, h⟩ | ⟨hc, h⟩
    · refine kV_if_eq_t 38 dX0_copyTo_13 (by decide) hc ?_
      clear hc
      refine kV_drop [false, false, false, false] rfl ?_
      exact TX0_copyTo_J38 hG ho_o h
    · refine kV_if_eq_f 38 16 dX0_copyTo_13 (by decide) hc rfl ?_
      clear hc
      refine kV_aloadn 17 dX0_copyTo_16 rfl rfl ?_
      refine rg0_28 20 dX0_copyTo_17 hO_o hc_o rfl ?_
      refine kV_iconst 21 dX0_copyTo_20 ic_0 rfl ?_
      refine kV_aloadn 22 dX0_copyTo_21 rfl rfl ?_
      refine kV_iloadn 23 dX0_copyTo_22 rfl rfl ?_
      refine kV_iconst 24 dX0_copyTo_23 ic_5 rfl ?_
      obtain ⟨hi, h⟩ := kgd_ex h
      obtain ⟨S1, hx, h⟩ := kb_ex h
      refine kC_copy (k := 5) (k2 := 0) (l0 := 5) (l1 := 150) 27 dX0_copyTo_24 (wi_r19 _ (List.mem_of_getElem? (i := 21) rfl)) rfl hO_o hc_o (kOk_of hG rfl) rfl hi hx rfl (fun h => absurd h.2 (by decide)) (fun h => absurd h.1 (by decide)) rfl rfl rfl rfl rfl rfl ?_
      clear hi hx
      refine kV_aloadn 28 dX0_copyTo_27 rfl rfl ?_
      refine rg0_31 31 dX0_copyTo_28 hO_o hc_o rfl ?_
      refine kV_iconst 32 dX0_copyTo_31 ic_0 rfl ?_
      refine kV_aloadn 33 dX0_copyTo_32 rfl rfl ?_
      refine kV_iloadn 34 dX0_copyTo_33 rfl rfl ?_
      refine kV_iconst 35 dX0_copyTo_34 ic_5 rfl ?_
      obtain ⟨hi, h⟩ := kgd_ex h
      obtain ⟨S2, hx, h⟩ := kb_ex h
      refine kC_copy (k := 6) (k2 := 1) (l0 := 5) (l1 := 150) 38 dX0_copyTo_35 (wi_r19 _ (List.mem_of_getElem? (i := 21) rfl)) rfl hO_o hc_o (kOk_of hG rfl) rfl hi hx rfl (fun h => absurd h.2 (by decide)) (fun h => absurd h.2 (by decide)) rfl rfl rfl rfl rfl rfl ?_
      clear hi hx
      refine kV_drop [false, false, false, false] rfl ?_
      exact TX0_copyTo_J38 hG ho_o h
abbrev mX0_copyFrom : kM := (yX0_copyFrom, cX0_copyFrom, 4, none)
theorem kmvX0_copyFrom : kMv mX0_copyFrom 3 0 := ⟨⟨(wi_r26 _ (List.mem_of_getElem? (i := 3) rfl)), (wi_r6 _ (List.mem_of_getElem? (i := 1) rfl)), ⟨by decide +kernel, by decide +kernel, by decide +kernel⟩, by decide⟩, (wi_r26 _ (List.mem_of_getElem? (i := 1) rfl)), (wi_r26 _ (List.mem_of_getElem? (i := 2) rfl)), rfl⟩
def FX0_copyFrom_J38 (o : Nat) (S : kS) : Option (kS) :=
  some S
def FX0_copyFrom (o : Nat) (S : kS) (a3 : Int32) : Option (kS) :=
  (FX0_holdsForm_0 S a3).bind fun x1 => if x1 = 0 then (FX0_copyFrom_J38 o S) else ((FX0_holdsForm_1 S a3).bind fun x2 => if x2 = 0 then (FX0_copyFrom_J38 o S) else (kgd (kcp a3 (0 : Int32) (5 : Int32) 150 5) <| kb (kpR S o 5 (va_cpy ((S 4).2 0) ((S o).2 5) (Int32.toNatClampNeg a3) (Int32.toNatClampNeg (0 : Int32)) (Int32.toNatClampNeg (5 : Int32)))) fun S1 => kgd (kcp a3 (0 : Int32) (5 : Int32) 150 5) <| kb (kpR S1 o 6 (va_cpy ((S1 4).2 1) ((S1 o).2 6) (Int32.toNatClampNeg a3) (Int32.toNatClampNeg (0 : Int32)) (Int32.toNatClampNeg (5 : Int32)))) fun S2 => FX0_copyFrom_J38 o S2))
theorem TX0_copyFrom_J38 {G : kG} {n : Nat} {d : Nat} {X : kX} (hG : kg_N G = 55 + 14 * n) {o : Nat} (ho_o : kfm n o = true) {S : kS} {res : kS} (h : FX0_copyFrom_J38 o S = some res) : kV (X, RX0, 4, none, G, krm (d + 1), (0, 0), kQ X G none (kgl G n res)) cX0_copyFrom (kgl G n S) [none, none, none, none] [] 38 := by
  have hO_o := kOk_fm hG ho_o
  have hc_o := kci_fm ho_o
  unfold FX0_copyFrom_J38 at h
  cases h
  exact kV_vret dX0_copyFrom_38
theorem okX0_copyFrom {l : Launch} {G : kG} {n : Nat} (hG : kg_N G = 55 + 14 * n) (d : Nat) {o : Nat} (ho_o : kfm n o = true) {S : kS} {a3 : Int32} {res : kS} (h : FX0_copyFrom o S a3 = some res) : kEv l G (d + 1) mX0_copyFrom [.ref (kg_ad G (kbo o)), .ref (kg_ad G (kbo 4 + 1)), .ref (kg_ad G (kbo 4 + 2)), .int a3] (kgl G n S) none (kgl G n res) := by
  refine kEv_of RX0 [some (.ref (kg_ad G (kbo o))), some (.ref (kg_ad G (kbo 4 + 1))), some (.ref (kg_ad G (kbo 4 + 2))), some (.int a3)] rfl (by decide +kernel) rfl rfl rfl rfl (fun X hX => ?_)
  subst hX
  have hO_o := kOk_fm hG ho_o
  have hc_o := kci_fm ho_o
  unfold FX0_copyFrom at h
  refine kV_aloadn 1 dX0_copyFrom_0 rfl rfl ?_
  refine kV_iloadn 2 dX0_copyFrom_1 rfl rfl ?_
  obtain ⟨x1, hx, h⟩ := kbi_ex h
  refine kC_S 5 [] [.int x1] dX0_copyFrom_2 (okX0_holdsForm_0 hG d  hx) kmtX0_holdsForm (wi_r20 _ (List.mem_of_getElem? (i := 1) rfl)) rfl rfl rfl rfl rfl ?_
  clear hx
  rcases kif_ex h with ⟨hc, h⟩ | ⟨hc, h⟩
  · refine kV_if_eq_t 38 dX0_copyFrom_5 (by decide) hc ?_
    clear hc
    refine kV_drop [false, false, false, false] rfl ?_
    exact TX0_copyFrom_J38 hG ho_o h
  · refine kV_if_eq_f 38 8 dX0_copyFrom_5 (by decide) hc rfl ?_
    clear hc
    refine kV_aloadn 9 dX0_copyFrom_8 rfl rfl ?_
    refine kV_iloadn 10 dX0_copyFrom_9 rfl rfl ?_
    obtain ⟨x2, hx, h⟩ := kbi_ex h
    refine kC_S 13 [] [.int x2] dX0_copyFrom_10 (okX0_holdsForm_1 hG d  hx) kmtX0_holdsForm (wi_r20 _ (List.mem_of_getElem? (i := 1) rfl)) rfl rfl rfl rfl rfl ?_
    clear hx
    rcases kif_ex h with ⟨hc, h⟩ | ⟨hc, h⟩
    · refine kV_if_eq_t 38 dX0_copyFrom_13 (by decide) hc ?_
      clear hc
      refine kV_drop [false, false, false, false] rfl ?_
      exact TX0_copyFrom_J38 hG ho_o h
    · refine kV_if_eq_f 38 16 dX0_copyFrom_13 (by decide) hc rfl ?_
      clear hc
      refine kV_aloadn 17 dX0_copyFrom_16 rfl rfl ?_
      refine kV_iloadn 18 dX0_copyFrom_17 rfl rfl ?_
      refine kV_aloadn 19 dX0_copyFrom_18 rfl rfl ?_
      refine rg0_28 22 dX0_copyFrom_19 hO_o hc_o rfl ?_
      refine kV_iconst 23 dX0_copyFrom_22 ic_0 rfl ?_
      refine kV_iconst 24 dX0_copyFrom_23 ic_5 rfl ?_
      obtain ⟨hi, h⟩ := kgd_ex h
      obtain ⟨S1, hx, h⟩ := kb_ex h
      refine kC_copy (k := 0) (k2 := 5) (l0 := 150) (l1 := 5) 27 dX0_copyFrom_24 (wi_r19 _ (List.mem_of_getElem? (i := 21) rfl)) rfl (kOk_of hG rfl) rfl hO_o hc_o hi hx rfl (fun h => absurd h.1 (by decide)) (fun h => absurd h.2 (by decide)) rfl rfl rfl rfl rfl rfl ?_
      clear hi hx
      refine kV_aloadn 28 dX0_copyFrom_27 rfl rfl ?_
      refine kV_iloadn 29 dX0_copyFrom_28 rfl rfl ?_
      refine kV_aloadn 30 dX0_copyFrom_29 rfl rfl ?_
      refine rg0_31 33 dX0_copyFrom_30 hO_o hc_o rfl ?_
      refine kV_iconst 34 dX0_copyFrom_33 ic_0 rfl ?_
      refine kV_iconst 35 dX0_copyFrom_34 ic_5 rfl ?_
      obtain ⟨hi, h⟩ := kgd_ex h
      obtain ⟨S2, hx, h⟩ := kb_ex h
      refine kC_copy (k := 1) (k2 := 6) (l0 := 150) (l1 := 5) 38 dX0_copyFrom_35 (wi_r19 _ (List.mem_of_getElem? (i := 21) rfl)) rfl (kOk_of hG rfl) rfl hO_o hc_o hi hx rfl (fun h => absurd h.2 (by decide)) (fun h => absurd h.2 (by decide)) rfl rfl rfl rfl rfl rfl ?_
      clear hi hx
      refine kV_drop [false, false, false, false] rfl ?_
      exact TX0_copyFrom_J38 hG ho_o h
