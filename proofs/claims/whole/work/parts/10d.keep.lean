abbrev mX5_formAt : kM := (yX5_formAt, cX5_formAt, 2, (some (.object "TalkKeeper$Form")))
theorem kmvX5_formAt : kMv mX5_formAt 1 5 := ⟨⟨(wi_r7 _ (List.mem_of_getElem? (i := 10) rfl)), (wi_r1 _ (List.mem_of_getElem? (i := 2) rfl)), ⟨by decide +kernel, by decide +kernel, by decide +kernel⟩, by decide⟩, (wi_r7 _ (List.mem_of_getElem? (i := 8) rfl)), (wi_r7 _ (List.mem_of_getElem? (i := 9) rfl)), rfl⟩
def FX5_formAt_J27 (n : Nat) (S : kS) (y0 : Option Nat) : Option (Option Nat) :=
  some y0
def FX5_formAt_J26 (n : Nat) (S : kS) : Option (Option Nat) :=
  FX5_formAt_J27 n S none
def FX5_formAt (n : Nat) (S : kS) (a1 : Int32) : Option (Option Nat) :=
  if a1 < 0 then (FX5_formAt_J26 n S) else (kb (kI S 0 1) fun x1 => if x1 ≤ a1 then (FX5_formAt_J26 n S) else (if (3 : Int32) ≤ a1 then (FX5_formAt_J26 n S) else (kgd (kin a1 3) <| kb (kfo n a1) fun z1 => FX5_formAt_J27 n S z1)))
theorem TX5_formAt_J27 {G : kG} {n : Nat} {d : Nat} {X : kX} (hG : kg_N G = 55 + 14 * n) {S : kS} {y0 : Option Nat} {res : Option Nat} (h : FX5_formAt_J27 n S y0 = some res) : kV (X, RX5, 2, (some (.object "TalkKeeper$Form")), G, krm (d + 0), (0, 0), kQ X G (some (kvo G res)) (kgl G n S)) cX5_formAt (kgl G n S) [none, none] [kvo G y0] 27 := by
  unfold FX5_formAt_J27 at h
  cases h
  exact kV_aret dX5_formAt_27 (kvo_ref _ _)
theorem TX5_formAt_J26 {G : kG} {n : Nat} {d : Nat} {X : kX} (hG : kg_N G = 55 + 14 * n) {S : kS} {res : Option Nat} (h : FX5_formAt_J26 n S = some res) : kV (X, RX5, 2, (some (.object "TalkKeeper$Form")), G, krm (d + 0), (0, 0), kQ X G (some (kvo G res)) (kgl G n S)) cX5_formAt (kgl G n S) [none, none] [] 26 := by
  unfold FX5_formAt_J26 at h
  refine kV_nullc 27 dX5_formAt_26 rfl ?_
  refine kV_drop [false, false] rfl ?_
  exact TX5_formAt_J27 hG h
theorem okX5_formAt {l : Launch} {G : kG} {n : Nat} (hG : kg_N G = 55 + 14 * n) (d : Nat) {S : kS} {a1 : Int32} {res : Option Nat} (h : FX5_formAt n S a1 = some res) : kEv l G (d + 0) mX5_formAt [.ref (kg_ad G (kbo 0)), .int a1] (kgl G n S) (some (kvo G res)) (kgl G n S) := by
  refine kEv_of RX5 [some (.ref (kg_ad G (kbo 0))), some (.int a1)] rfl (by decide +kernel) rfl rfl rfl rfl (fun X hX => ?_)
  subst hX
  unfold FX5_formAt at h
  refine kV_iloadn 1 dX5_formAt_0 rfl rfl ?_
  rcases kif_ex h with ⟨hc, h⟩ | ⟨hc, h⟩
  · refine kV_if_lt_t 26 dX5_formAt_1 (by decide) hc ?_
    clear hc
    refine kV_drop [false, false] rfl ?_
    exact TX5_formAt_J26 hG h
  · refine kV_if_lt_f 26 4 dX5_formAt_1 (by decide) hc rfl ?_
    clear hc
    refine kV_iloadn 5 dX5_formAt_4 rfl rfl ?_
    refine kV_aloadn 6 dX5_formAt_5 rfl rfl ?_
    obtain ⟨x1, hx, h⟩ := kb_ex h
    refine rg5_15 9 dX5_formAt_6 (kOk_of hG rfl) rfl hx rfl ?_
    clear hx
    rcases kif_ex h with ⟨hc, h⟩ | ⟨hc, h⟩
    · refine kV_icmp_ge_t 26 dX5_formAt_9 (by decide) hc ?_
      clear hc
      refine kV_drop [false, false] rfl ?_
      exact TX5_formAt_J26 hG h
    · refine kV_icmp_ge_f 26 12 dX5_formAt_9 (by decide) hc rfl ?_
      clear hc
      refine kV_iloadn 13 dX5_formAt_12 rfl rfl ?_
      refine kV_iconst 14 dX5_formAt_13 ic_3 rfl ?_
      rcases kif_ex h with ⟨hc, h⟩ | ⟨hc, h⟩
      · refine kV_icmp_ge_t 26 dX5_formAt_14 (by decide) hc ?_
        clear hc
        refine kV_drop [false, false] rfl ?_
        exact TX5_formAt_J26 hG h
      · refine kV_icmp_ge_f 26 17 dX5_formAt_14 (by decide) hc rfl ?_
        clear hc
        refine kV_aloadn 18 dX5_formAt_17 rfl rfl ?_
        refine rg5_11 21 dX5_formAt_18 (kOk_of hG rfl) rfl rfl ?_
        refine kV_iloadn 22 dX5_formAt_21 rfl rfl ?_
        obtain ⟨hi, h⟩ := kgd_ex h
        obtain ⟨z1, hx, h⟩ := kb_ex h
        refine kf_get 23 dX5_formAt_22 (kOk_of hG rfl) hi hx rfl ?_
        clear hi hx
        refine kV_goto 27 dX5_formAt_23 (by decide) ?_
        refine kV_drop [false, false] rfl ?_
        exact TX5_formAt_J27 hG h
abbrev mX5_isInTalk : kM := (yX5_isInTalk, cX5_isInTalk, 3, (some .boolean))
theorem kmvX5_isInTalk : kMv mX5_isInTalk 1 5 := ⟨⟨(wi_r7 _ (List.mem_of_getElem? (i := 17) rfl)), (wi_r1 _ (List.mem_of_getElem? (i := 2) rfl)), ⟨by decide +kernel, by decide +kernel, by decide +kernel⟩, by decide⟩, (wi_r7 _ (List.mem_of_getElem? (i := 15) rfl)), (wi_r7 _ (List.mem_of_getElem? (i := 16) rfl)), rfl⟩
def FX5_isInTalk_B2 (c2 : Int32 × Int32 → Option (Int32)) (S : kS) (v1 : Int32) (v2 : Int32) : Option (Int32) :=
  kb (kI S 0 4) fun x1 => if x1 ≤ v2 then (some (0 : Int32)) else (kgd (kin v2 3) <| kb (kA S 0 3 v2) fun x2 => if x2 = v1 then (some (1 : Int32)) else (c2 (v1, (v2 + (1 : Int32)))))
def FX5_isInTalk_L2 (S : kS) (v1 : Int32) (v2 : Int32) : Option (Int32) :=
  kfix (fun rec (q : Int32 × Int32) => FX5_isInTalk_B2 rec S q.1 q.2) kfuel (v1, v2)
def FX5_isInTalk (S : kS) (a1 : Int32) : Option (Int32) :=
  FX5_isInTalk_L2 S a1 (0 : Int32)
theorem TX5_isInTalk_B2 {G : kG} {n : Nat} {d : Nat} {X : kX} (hG : kg_N G = 55 + 14 * n) {S : kS} {c2 : Int32 × Int32 → Option (Int32)} (hc2 : ∀ (q : Int32 × Int32) (res : Int32), c2 q = some res → kV (X, RX5, 3, (some .boolean), G, krm (d + 0), (0, 0), kQ X G (some (.int res)) (kgl G n S)) cX5_isInTalk (kgl G n S) [some (.ref (kg_ad G (kbo 0))), some (.int (q.1)), some (.int (q.2))] [] 2) {v1 : Int32} {v2 : Int32} {res : Int32} (h : FX5_isInTalk_B2 c2 S v1 v2 = some res) : kV (X, RX5, 3, (some .boolean), G, krm (d + 0), (0, 0), kQ X G (some (.int res)) (kgl G n S)) cX5_isInTalk (kgl G n S) [some (.ref (kg_ad G (kbo 0))), some (.int v1), some (.int v2)] [] 2 := by
  unfold FX5_isInTalk_B2 at h
  refine kV_iloadn 3 dX5_isInTalk_2 rfl rfl ?_
  refine kV_aloadn 4 dX5_isInTalk_3 rfl rfl ?_
  obtain ⟨x1, hx, h⟩ := kb_ex h
  refine rg5_30 7 dX5_isInTalk_4 (kOk_of hG rfl) rfl hx rfl ?_
  clear hx
  rcases kif_ex h with ⟨hc, h⟩ | ⟨hc, h⟩
  · refine kV_icmp_ge_t 28 dX5_isInTalk_7 (by decide) hc ?_
    clear hc
    refine kV_iconst 29 dX5_isInTalk_28 ic_0 rfl ?_
    cases h
    exact kV_zret dX5_isInTalk_29 (by decide)
  · refine kV_icmp_ge_f 28 10 dX5_isInTalk_7 (by decide) hc rfl ?_
    clear hc
    refine kV_aloadn 11 dX5_isInTalk_10 rfl rfl ?_
    refine rg5_26 14 dX5_isInTalk_11 (kOk_of hG rfl) rfl rfl ?_
    refine kV_iloadn 15 dX5_isInTalk_14 rfl rfl ?_
    obtain ⟨hi, h⟩ := kgd_ex h
    obtain ⟨x2, hx, h⟩ := kb_ex h
    refine rl5_3 16 dX5_isInTalk_15 (kOk_of hG rfl) rfl hi hx rfl ?_
    clear hi hx
    refine kV_iloadn 17 dX5_isInTalk_16 rfl rfl ?_
    rcases kif_ex h with ⟨hc, h⟩ | ⟨hc, h⟩
    · refine kV_icmp_ne_f 22 20 dX5_isInTalk_17 (by decide) hc rfl ?_
      clear hc
      refine kV_iconst 21 dX5_isInTalk_20 ic_1 rfl ?_
      cases h
      exact kV_zret dX5_isInTalk_21 (by decide)
    · refine kV_icmp_ne_t 22 dX5_isInTalk_17 (by decide) hc ?_
      clear hc
      refine kV_iinc 25 [some (.ref (kg_ad G (kbo 0))), some (.int v1), some (.int (v2 + (1 : Int32)))] dX5_isInTalk_22 rfl (kinc_1 _) rfl rfl rfl ?_
      refine kV_goto 2 dX5_isInTalk_25 (by decide) ?_
      refine kV_drop [true, true, true] rfl ?_
      exact hc2 _ _ h
theorem TX5_isInTalk_L2 {G : kG} {n : Nat} {d : Nat} {X : kX} (hG : kg_N G = 55 + 14 * n) {S : kS} {v1 : Int32} {v2 : Int32} {res : Int32} (h : FX5_isInTalk_L2 S v1 v2 = some res) : kV (X, RX5, 3, (some .boolean), G, krm (d + 0), (0, 0), kQ X G (some (.int res)) (kgl G n S)) cX5_isInTalk (kgl G n S) [some (.ref (kg_ad G (kbo 0))), some (.int v1), some (.int v2)] [] 2 := by
  unfold FX5_isInTalk_L2 at h
  exact kfix_ok (P := fun (q : Int32 × Int32) (res : Int32) => kV (X, RX5, 3, (some .boolean), G, krm (d + 0), (0, 0), kQ X G (some (.int res)) (kgl G n S)) cX5_isInTalk (kgl G n S) [some (.ref (kg_ad G (kbo 0))), some (.int (q.1)), some (.int (q.2))] [] 2) (fun rec hrec q res hq => TX5_isInTalk_B2 hG hrec hq) kfuel _ _ h
theorem okX5_isInTalk {l : Launch} {G : kG} {n : Nat} (hG : kg_N G = 55 + 14 * n) (d : Nat) {S : kS} {a1 : Int32} {res : Int32} (h : FX5_isInTalk S a1 = some res) : kEv l G (d + 0) mX5_isInTalk [.ref (kg_ad G (kbo 0)), .int a1] (kgl G n S) (some (.int res)) (kgl G n S) := by
  refine kEv_of RX5 [some (.ref (kg_ad G (kbo 0))), some (.int a1), none] rfl (by decide +kernel) rfl rfl rfl rfl (fun X hX => ?_)
  subst hX
  unfold FX5_isInTalk at h
  refine kV_iconst 1 dX5_isInTalk_0 ic_0 rfl ?_
  refine kV_istoren 2 [some (.ref (kg_ad G (kbo 0))), some (.int a1), some (.int (0 : Int32))] dX5_isInTalk_1 rfl rfl rfl ?_
  refine kV_drop [true, true, true] rfl ?_
  exact TX5_isInTalk_L2 hG h
abbrev mX5_isSize : kM := (yX5_isSize, cX5_isSize, 1, (some .boolean))
theorem kmtX5_isSize : kMt mX5_isSize 1 := ⟨⟨(wi_r7 _ (List.mem_of_getElem? (i := 13) rfl)), (wi_r1 _ (List.mem_of_getElem? (i := 2) rfl)), ⟨by decide +kernel, by decide +kernel, by decide +kernel⟩, by decide⟩, (wi_r7 _ (List.mem_of_getElem? (i := 12) rfl))⟩
def FX5_isSize_J15 (S : kS) (s0 : Int32) : Option (Int32) :=
  kgd (kz s0) <| some s0
def FX5_isSize_J14 (S : kS) : Option (Int32) :=
  FX5_isSize_J15 S (0 : Int32)
def FX5_isSize (S : kS) (a1 : Int32) : Option (Int32) :=
  if a1 < (2 : Int32) then (FX5_isSize_J14 S) else (if (4 : Int32) < a1 then (FX5_isSize_J14 S) else (FX5_isSize_J15 S (1 : Int32)))
theorem TX5_isSize_J15 {G : kG} {n : Nat} {d : Nat} {X : kX} (hG : kg_N G = 55 + 14 * n) {S : kS} {s0 : Int32} {res : Int32} (h : FX5_isSize_J15 S s0 = some res) : kV (X, RX5, 1, (some .boolean), G, krm (d + 0), (0, 0), kQ X G (some (.int res)) (kgl G n S)) cX5_isSize (kgl G n S) [none] [.int s0] 15 := by
  unfold FX5_isSize_J15 at h
  obtain ⟨hz, h⟩ := kgd_ex h
  cases h
  exact kV_zret dX5_isSize_15 (of_decide_eq_true hz)
theorem TX5_isSize_J14 {G : kG} {n : Nat} {d : Nat} {X : kX} (hG : kg_N G = 55 + 14 * n) {S : kS} {res : Int32} (h : FX5_isSize_J14 S = some res) : kV (X, RX5, 1, (some .boolean), G, krm (d + 0), (0, 0), kQ X G (some (.int res)) (kgl G n S)) cX5_isSize (kgl G n S) [none] [] 14 := by
  unfold FX5_isSize_J14 at h
  refine kV_iconst 15 dX5_isSize_14 ic_0 rfl ?_
  refine kV_drop [false] rfl ?_
  exact TX5_isSize_J15 hG h
theorem okX5_isSize {l : Launch} {G : kG} {n : Nat} (hG : kg_N G = 55 + 14 * n) (d : Nat) {S : kS} {a1 : Int32} {res : Int32} (h : FX5_isSize S a1 = some res) : kEv l G (d + 0) mX5_isSize [.int a1] (kgl G n S) (some (.int res)) (kgl G n S) := by
  refine kEv_of RX5 [some (.int a1)] rfl (by decide +kernel) rfl rfl rfl rfl (fun X hX => ?_)
  subst hX
  unfold FX5_isSize at h
  refine kV_iloadn 1 dX5_isSize_0 rfl rfl ?_
  refine kV_iconst 2 dX5_isSize_1 ic_2 rfl ?_
  rcases kif_ex h with ⟨hc, h⟩ | ⟨hc, h⟩
  · refine kV_icmp_lt_t 14 dX5_isSize_2 (by decide) hc ?_
    clear hc
    refine kV_drop [false] rfl ?_
    exact TX5_isSize_J14 hG h
  · refine kV_icmp_lt_f 14 5 dX5_isSize_2 (by decide) hc rfl ?_
    clear hc
    refine kV_iloadn 6 dX5_isSize_5 rfl rfl ?_
    refine kV_iconst 7 dX5_isSize_6 ic_4 rfl ?_
    rcases kif_ex h with ⟨hc, h⟩ | ⟨hc, h⟩
    · refine kV_icmp_gt_t 14 dX5_isSize_7 (by decide) hc ?_
      clear hc
      refine kV_drop [false] rfl ?_
      exact TX5_isSize_J14 hG h
    · refine kV_icmp_gt_f 14 10 dX5_isSize_7 (by decide) hc rfl ?_
      clear hc
      refine kV_iconst 11 dX5_isSize_10 ic_1 rfl ?_
      refine kV_goto 15 dX5_isSize_11 (by decide) ?_
      refine kV_drop [false] rfl ?_
      exact TX5_isSize_J15 hG h
abbrev mX5_place : kM := (yX5_place, cX5_place, 5, (some .int))
theorem kmvX5_place : kMv mX5_place 3 5 := ⟨⟨(wi_r7 _ (List.mem_of_getElem? (i := 6) rfl)), (wi_r1 _ (List.mem_of_getElem? (i := 2) rfl)), ⟨by decide +kernel, by decide +kernel, by decide +kernel⟩, by decide⟩, (wi_r7 _ (List.mem_of_getElem? (i := 4) rfl)), (wi_r7 _ (List.mem_of_getElem? (i := 5) rfl)), rfl⟩
def FX5_place_J30 (n : Nat) (S : kS) : Option (Int32 × kS) :=
  some ((-2 : Int32), S)
def FX5_place_J23 (n : Nat) (S : kS) (v1 : Int32) (v2 : Int32) (v3 : Int32) (w4 : Nat) : Option (Int32 × kS) :=
  (FX5_isSize S v3).bind fun x1 => if x1 = 0 then (FX5_place_J30 n S) else ((FX5_isInTalk S v1).bind fun x2 => if x2 = 0 then (kb2 (FX0_addPlace w4 S v2 v3 (0 : Int32) (0 : Int32)) fun x3 S1 => some (x3, S1)) else (some ((-3 : Int32), S)))
def FX5_place (n : Nat) (S : kS) (a1 : Int32) (a2 : Int32) (a3 : Int32) : Option (Int32 × kS) :=
  (FX5_formAt n S a1).bind fun z1 => kopt z1 (some ((-1 : Int32), S)) (fun w_1 => kgd (kfm n w_1) <| if a2 = 0 then (FX5_place_J23 n S a1 a2 a3 w_1) else (if a2 = (2 : Int32) then (FX5_place_J23 n S a1 a2 a3 w_1) else (FX5_place_J30 n S)))
theorem TX5_place_J30 {G : kG} {n : Nat} {d : Nat} {X : kX} (hG : kg_N G = 55 + 14 * n) {S : kS} {res : Int32 × kS} (h : FX5_place_J30 n S = some res) : kV (X, RX5, 5, (some .int), G, krm (d + 1), (0, 0), kQ X G (some (.int res.1)) (kgl G n res.2)) cX5_place (kgl G n S) [none, none, none, none, none] [] 30 := by
  unfold FX5_place_J30 at h
  refine kV_bipush 32 dX5_place_30 bp_m2 rfl ?_
  cases h
  exact kV_iret dX5_place_32
theorem TX5_place_J23 {G : kG} {n : Nat} {d : Nat} {X : kX} (hG : kg_N G = 55 + 14 * n) {S : kS} {v1 : Int32} {v2 : Int32} {v3 : Int32} {w4 : Nat} (ho_w4 : kfm n w4 = true) {res : Int32 × kS} (h : FX5_place_J23 n S v1 v2 v3 w4 = some res) : kV (X, RX5, 5, (some .int), G, krm (d + 1), (0, 0), kQ X G (some (.int res.1)) (kgl G n res.2)) cX5_place (kgl G n S) [some (.ref (kg_ad G (kbo 0))), some (.int v1), some (.int v2), some (.int v3), some (.ref (kg_ad G (kbo w4)))] [] 23 := by
  have hO_w4 := kOk_fm hG ho_w4
  have hc_w4 := kci_fm ho_w4
  unfold FX5_place_J23 at h
  refine kV_iloadn 24 dX5_place_23 rfl rfl ?_
  obtain ⟨x1, hx, h⟩ := kbi_ex h
  refine kC_S 27 [] [.int x1] dX5_place_24 (okX5_isSize hG d  hx) kmtX5_isSize (wi_r7 _ (List.mem_of_getElem? (i := 11) rfl)) rfl rfl rfl rfl rfl ?_
  clear hx
  rcases kif_ex h with ⟨hc, h⟩ | ⟨hc, h⟩
  · refine kV_if_ne_f 33 30 dX5_place_27 (by decide) hc rfl ?_
    clear hc
    refine kV_drop [false, false, false, false, false] rfl ?_
    exact TX5_place_J30 hG h
  · refine kV_if_ne_t 33 dX5_place_27 (by decide) hc ?_
    clear hc
    refine kV_aloadn 34 dX5_place_33 rfl rfl ?_
    refine kV_iloadn 35 dX5_place_34 rfl rfl ?_
    obtain ⟨x2, hx, h⟩ := kbi_ex h
    refine kC_V 38 [] [.int x2] dX5_place_35 (okX5_isInTalk hG d  hx) kmvX5_isInTalk (wi_r7 _ (List.mem_of_getElem? (i := 14) rfl)) (kOk_of hG rfl) rfl rfl rfl rfl rfl rfl ?_
    clear hx
    rcases kif_ex h with ⟨hc, h⟩ | ⟨hc, h⟩
    · refine kV_if_eq_t 44 dX5_place_38 (by decide) hc ?_
      clear hc
      refine kV_aload 46 dX5_place_44 rfl rfl ?_
      refine kV_iloadn 47 dX5_place_46 rfl rfl ?_
      refine kV_iloadn 48 dX5_place_47 rfl rfl ?_
      refine kV_iconst 49 dX5_place_48 ic_0 rfl ?_
      refine kV_iconst 50 dX5_place_49 ic_0 rfl ?_
      obtain ⟨x3, S1, hx, h⟩ := kb2_ex h
      refine kC_V 53 [] [.int x3] dX5_place_50 (okX0_addPlace hG d ho_w4 hx) kmvX0_addPlace (wi_r7 _ (List.mem_of_getElem? (i := 18) rfl)) hO_w4 hc_w4 rfl rfl rfl rfl rfl ?_
      clear hx
      cases h
      exact kV_iret dX5_place_53
    · refine kV_if_eq_f 44 41 dX5_place_38 (by decide) hc rfl ?_
      clear hc
      refine kV_bipush 43 dX5_place_41 bp_m3 rfl ?_
      cases h
      exact kV_iret dX5_place_43
theorem okX5_place {l : Launch} {G : kG} {n : Nat} (hG : kg_N G = 55 + 14 * n) (d : Nat) {S : kS} {a1 : Int32} {a2 : Int32} {a3 : Int32} {res : Int32 × kS} (h : FX5_place n S a1 a2 a3 = some res) : kEv l G (d + 1) mX5_place [.ref (kg_ad G (kbo 0)), .int a1, .int a2, .int a3] (kgl G n S) (some (.int res.1)) (kgl G n res.2) := by
  refine kEv_of RX5 [some (.ref (kg_ad G (kbo 0))), some (.int a1), some (.int a2), some (.int a3), none] rfl (by decide +kernel) rfl rfl rfl rfl (fun X hX => ?_)
  subst hX
  unfold FX5_place at h
  refine kV_aloadn 1 dX5_place_0 rfl rfl ?_
  refine kV_iloadn 2 dX5_place_1 rfl rfl ?_
  obtain ⟨z1, hx, h⟩ := kbi_ex h
  refine kC_V 5 [] [kvo G z1] dX5_place_2 (okX5_formAt hG d  hx) kmvX5_formAt (wi_r7 _ (List.mem_of_getElem? (i := 7) rfl)) (kOk_of hG rfl) rfl rfl rfl rfl rfl rfl ?_
  clear hx
  refine kV_astoreo 7 [some (.ref (kg_ad G (kbo 0))), some (.int a1), some (.int a2), some (.int a3), some (kvo G z1)] dX5_place_5 rfl rfl rfl ?_
  refine kV_aloado 9 dX5_place_7 rfl rfl ?_
  rcases kopt_ex h with ⟨hv, h⟩ | ⟨w_1, hv, h⟩
  · subst hv
    show kV _ _ _ [some (.ref (kg_ad G (kbo 0))), some (.int a1), some (.int a2), some (.int a3), some (.null)] (.null :: []) _
    refine kV_ifnonnullN 12 dX5_place_9 rfl ?_
    refine kV_iconst 13 dX5_place_12 ic_m1 rfl ?_
    cases h
    exact kV_iret dX5_place_13
  · subst hv
    show kV _ _ _ [some (.ref (kg_ad G (kbo 0))), some (.int a1), some (.int a2), some (.int a3), some (.ref (kg_ad G (kbo w_1)))] (.ref (kg_ad G (kbo w_1)) :: []) _
    obtain ⟨ho_w_1, h⟩ := kgd_ex h
    have hO_w_1 := kOk_fm hG ho_w_1
    have hc_w_1 := kci_fm ho_w_1
    refine kV_ifnonnull 14 dX5_place_9 (by decide) ?_
    refine kV_iloadn 15 dX5_place_14 rfl rfl ?_
    rcases kif_ex h with ⟨hc, h⟩ | ⟨hc, h⟩
    · refine kV_if_eq_t 23 dX5_place_15 (by decide) hc ?_
      clear hc
      refine kV_drop [true, true, true, true, true] rfl ?_
      exact TX5_place_J23 hG ho_w_1 h
    · refine kV_if_eq_f 23 18 dX5_place_15 (by decide) hc rfl ?_
      clear hc
      refine kV_iloadn 19 dX5_place_18 rfl rfl ?_
      refine kV_iconst 20 dX5_place_19 ic_2 rfl ?_
      rcases kif_ex h with ⟨hc, h⟩ | ⟨hc, h⟩
      · refine kV_icmp_ne_f 30 23 dX5_place_20 (by decide) hc rfl ?_
        clear hc
        refine kV_drop [true, true, true, true, true] rfl ?_
        exact TX5_place_J23 hG ho_w_1 h
      · refine kV_icmp_ne_t 30 dX5_place_20 (by decide) hc ?_
        clear hc
        refine kV_drop [false, false, false, false, false] rfl ?_
        exact TX5_place_J30 hG h
abbrev mX5_worked : kM := (yX5_worked, cX5_worked, 6, (some .int))
theorem kmvX5_worked : kMv mX5_worked 4 5 := ⟨⟨(wi_r8 _ (List.mem_of_getElem? (i := 21) rfl)), (wi_r1 _ (List.mem_of_getElem? (i := 2) rfl)), ⟨by decide +kernel, by decide +kernel, by decide +kernel⟩, by decide⟩, (wi_r8 _ (List.mem_of_getElem? (i := 19) rfl)), (wi_r8 _ (List.mem_of_getElem? (i := 20) rfl)), rfl⟩
def FX5_worked_J59 (n : Nat) (S : kS) : Option (Int32 × kS) :=
  some ((-2 : Int32), S)
def FX5_worked_J31 (n : Nat) (S : kS) : Option (Int32 × kS) :=
  some ((-1 : Int32), S)
def FX5_worked (n : Nat) (S : kS) (a1 : Int32) (a2 : Int32) (a3 : Int32) (a4 : Int32) : Option (Int32 × kS) :=
  (FX5_formAt n S a1).bind fun z1 => kopt z1 (FX5_worked_J31 n S) (fun w_1 => kgd (kfm n w_1) <| (FX0_hasPlace w_1 S a3).bind fun x1 => if x1 = 0 then (FX5_worked_J31 n S) else ((FX0_hasPlace w_1 S a4).bind fun x2 => if x2 = 0 then (FX5_worked_J31 n S) else ((FX5_isSize S a2).bind fun x3 => if x3 = 0 then (FX5_worked_J59 n S) else ((FX0_isWorked w_1 S a3).bind fun x4 => if x4 = 0 then ((FX0_isWorked w_1 S a4).bind fun x5 => if x5 = 0 then ((FX5_isInTalk S a1).bind fun x6 => if x6 = 0 then (kb2 (FX0_addPlace w_1 S (1 : Int32) a2 a3 a4) fun x7 S1 => some (x7, S1)) else (some ((-3 : Int32), S))) else (FX5_worked_J59 n S)) else (FX5_worked_J59 n S)))))
theorem TX5_worked_J59 {G : kG} {n : Nat} {d : Nat} {X : kX} (hG : kg_N G = 55 + 14 * n) {S : kS} {res : Int32 × kS} (h : FX5_worked_J59 n S = some res) : kV (X, RX5, 6, (some .int), G, krm (d + 2), (0, 0), kQ X G (some (.int res.1)) (kgl G n res.2)) cX5_worked (kgl G n S) [none, none, none, none, none, none] [] 59 := by
  unfold FX5_worked_J59 at h
  refine kV_bipush 61 dX5_worked_59 bp_m2 rfl ?_
  cases h
  exact kV_iret dX5_worked_61
theorem TX5_worked_J31 {G : kG} {n : Nat} {d : Nat} {X : kX} (hG : kg_N G = 55 + 14 * n) {S : kS} {res : Int32 × kS} (h : FX5_worked_J31 n S = some res) : kV (X, RX5, 6, (some .int), G, krm (d + 2), (0, 0), kQ X G (some (.int res.1)) (kgl G n res.2)) cX5_worked (kgl G n S) [none, none, none, none, none, none] [] 31 := by
  unfold FX5_worked_J31 at h
  refine kV_iconst 32 dX5_worked_31 ic_m1 rfl ?_
  cases h
  exact kV_iret dX5_worked_32
theorem okX5_worked {l : Launch} {G : kG} {n : Nat} (hG : kg_N G = 55 + 14 * n) (d : Nat) {S : kS} {a1 : Int32} {a2 : Int32} {a3 : Int32} {a4 : Int32} {res : Int32 × kS} (h : FX5_worked n S a1 a2 a3 a4 = some res) : kEv l G (d + 2) mX5_worked [.ref (kg_ad G (kbo 0)), .int a1, .int a2, .int a3, .int a4] (kgl G n S) (some (.int res.1)) (kgl G n res.2) := by
  refine kEv_of RX5 [some (.ref (kg_ad G (kbo 0))), some (.int a1), some (.int a2), some (.int a3), some (.int a4), none] rfl (by decide +kernel) rfl rfl rfl rfl (fun X hX => ?_)
  subst hX
  unfold FX5_worked at h
  refine kV_aloadn 1 dX5_worked_0 rfl rfl ?_
  refine kV_iloadn 2 dX5_worked_1 rfl rfl ?_
  obtain ⟨z1, hx, h⟩ := kbi_ex h
  refine kC_V 5 [] [kvo G z1] dX5_worked_2 (okX5_formAt hG (d + 1)  hx) kmvX5_formAt (wi_r7 _ (List.mem_of_getElem? (i := 7) rfl)) (kOk_of hG rfl) rfl rfl rfl rfl rfl rfl ?_
  clear hx
  refine kV_astoreo 7 [some (.ref (kg_ad G (kbo 0))), some (.int a1), some (.int a2), some (.int a3), some (.int a4), some (kvo G z1)] dX5_worked_5 rfl rfl rfl ?_
  refine kV_aloado 9 dX5_worked_7 rfl rfl ?_
  rcases kopt_ex h with ⟨hv, h⟩ | ⟨w_1, hv, h⟩
  · subst hv
    show kV _ _ _ [some (.ref (kg_ad G (kbo 0))), some (.int a1), some (.int a2), some (.int a3), some (.int a4), some (.null)] (.null :: []) _
    refine kV_ifnullN 31 dX5_worked_9 (by decide) ?_
    refine kV_drop [false, false, false, false, false, false] rfl ?_
    exact TX5_worked_J31 hG h
  · subst hv
    show kV _ _ _ [some (.ref (kg_ad G (kbo 0))), some (.int a1), some (.int a2), some (.int a3), some (.int a4), some (.ref (kg_ad G (kbo w_1)))] (.ref (kg_ad G (kbo w_1)) :: []) _
    obtain ⟨ho_w_1, h⟩ := kgd_ex h
    have hO_w_1 := kOk_fm hG ho_w_1
    have hc_w_1 := kci_fm ho_w_1
    refine kV_ifnull 12 dX5_worked_9 rfl ?_
    refine kV_aload 14 dX5_worked_12 rfl rfl ?_
    refine kV_iloadn 15 dX5_worked_14 rfl rfl ?_
    obtain ⟨x1, hx, h⟩ := kbi_ex h
    refine kC_V 18 [] [.int x1] dX5_worked_15 (okX0_hasPlace hG (d + 1) ho_w_1 hx) kmvX0_hasPlace (wi_r8 _ (List.mem_of_getElem? (i := 22) rfl)) hO_w_1 hc_w_1 rfl rfl rfl rfl rfl ?_
    clear hx
    rcases kif_ex h with ⟨hc, h⟩ | ⟨hc, h⟩
    · refine kV_if_eq_t 31 dX5_worked_18 (by decide) hc ?_
      clear hc
      refine kV_drop [false, false, false, false, false, false] rfl ?_
      exact TX5_worked_J31 hG h
    · refine kV_if_eq_f 31 21 dX5_worked_18 (by decide) hc rfl ?_
      clear hc
      refine kV_aload 23 dX5_worked_21 rfl rfl ?_
      refine kV_iload 25 dX5_worked_23 rfl rfl ?_
      obtain ⟨x2, hx, h⟩ := kbi_ex h
      refine kC_V 28 [] [.int x2] dX5_worked_25 (okX0_hasPlace hG (d + 1) ho_w_1 hx) kmvX0_hasPlace (wi_r8 _ (List.mem_of_getElem? (i := 22) rfl)) hO_w_1 hc_w_1 rfl rfl rfl rfl rfl ?_
      clear hx
      rcases kif_ex h with ⟨hc, h⟩ | ⟨hc, h⟩
      · refine kV_if_ne_f 33 31 dX5_worked_28 (by decide) hc rfl ?_
        clear hc
        refine kV_drop [false, false, false, false, false, false] rfl ?_
        exact TX5_worked_J31 hG h
      · refine kV_if_ne_t 33 dX5_worked_28 (by decide) hc ?_
        clear hc
        refine kV_iloadn 34 dX5_worked_33 rfl rfl ?_
        obtain ⟨x3, hx, h⟩ := kbi_ex h
        refine kC_S 37 [] [.int x3] dX5_worked_34 (okX5_isSize hG (d + 1)  hx) kmtX5_isSize (wi_r7 _ (List.mem_of_getElem? (i := 11) rfl)) rfl rfl rfl rfl rfl ?_
        clear hx
        rcases kif_ex h with ⟨hc, h⟩ | ⟨hc, h⟩
        · refine kV_if_eq_t 59 dX5_worked_37 (by decide) hc ?_
          clear hc
          refine kV_drop [false, false, false, false, false, false] rfl ?_
          exact TX5_worked_J59 hG h
        · refine kV_if_eq_f 59 40 dX5_worked_37 (by decide) hc rfl ?_
          clear hc
          refine kV_aload 42 dX5_worked_40 rfl rfl ?_
          refine kV_iloadn 43 dX5_worked_42 rfl rfl ?_
          obtain ⟨x4, hx, h⟩ := kbi_ex h
          refine kC_V 46 [] [.int x4] dX5_worked_43 (okX0_isWorked hG d ho_w_1 hx) kmvX0_isWorked (wi_r9 _ (List.mem_of_getElem? (i := 2) rfl)) hO_w_1 hc_w_1 rfl rfl rfl rfl rfl ?_
          clear hx
          rcases kif_ex h with ⟨hc, h⟩ | ⟨hc, h⟩
          · refine kV_if_ne_f 59 49 dX5_worked_46 (by decide) hc rfl ?_
            clear hc
            refine kV_aload 51 dX5_worked_49 rfl rfl ?_
            refine kV_iload 53 dX5_worked_51 rfl rfl ?_
            obtain ⟨x5, hx, h⟩ := kbi_ex h
            refine kC_V 56 [] [.int x5] dX5_worked_53 (okX0_isWorked hG d ho_w_1 hx) kmvX0_isWorked (wi_r9 _ (List.mem_of_getElem? (i := 2) rfl)) hO_w_1 hc_w_1 rfl rfl rfl rfl rfl ?_
            clear hx
            rcases kif_ex h with ⟨hc, h⟩ | ⟨hc, h⟩
            · refine kV_if_eq_t 62 dX5_worked_56 (by decide) hc ?_
              clear hc
              refine kV_aloadn 63 dX5_worked_62 rfl rfl ?_
              refine kV_iloadn 64 dX5_worked_63 rfl rfl ?_
              obtain ⟨x6, hx, h⟩ := kbi_ex h
              refine kC_V 67 [] [.int x6] dX5_worked_64 (okX5_isInTalk hG (d + 1)  hx) kmvX5_isInTalk (wi_r7 _ (List.mem_of_getElem? (i := 14) rfl)) (kOk_of hG rfl) rfl rfl rfl rfl rfl rfl ?_
              clear hx
              rcases kif_ex h with ⟨hc, h⟩ | ⟨hc, h⟩
              · refine kV_if_eq_t 73 dX5_worked_67 (by decide) hc ?_
                clear hc
                refine kV_aload 75 dX5_worked_73 rfl rfl ?_
                refine kV_iconst 76 dX5_worked_75 ic_1 rfl ?_
                refine kV_iloadn 77 dX5_worked_76 rfl rfl ?_
                refine kV_iloadn 78 dX5_worked_77 rfl rfl ?_
                refine kV_iload 80 dX5_worked_78 rfl rfl ?_
                obtain ⟨x7, S1, hx, h⟩ := kb2_ex h
                refine kC_V 83 [] [.int x7] dX5_worked_80 (okX0_addPlace hG (d + 1) ho_w_1 hx) kmvX0_addPlace (wi_r7 _ (List.mem_of_getElem? (i := 18) rfl)) hO_w_1 hc_w_1 rfl rfl rfl rfl rfl ?_
                clear hx
                cases h
                exact kV_iret dX5_worked_83
              · refine kV_if_eq_f 73 70 dX5_worked_67 (by decide) hc rfl ?_
                clear hc
                refine kV_bipush 72 dX5_worked_70 bp_m3 rfl ?_
                cases h
                exact kV_iret dX5_worked_72
            · refine kV_if_eq_f 62 59 dX5_worked_56 (by decide) hc rfl ?_
              clear hc
              refine kV_drop [false, false, false, false, false, false] rfl ?_
              exact TX5_worked_J59 hG h
          · refine kV_if_ne_t 59 dX5_worked_46 (by decide) hc ?_
            clear hc
            refine kV_drop [false, false, false, false, false, false] rfl ?_
            exact TX5_worked_J59 hG h
abbrev mX5_bar : kM := (yX5_bar, cX5_bar, 7, (some .int))
theorem kmvX5_bar : kMv mX5_bar 5 5 := ⟨⟨(wi_r9 _ (List.mem_of_getElem? (i := 18) rfl)), (wi_r1 _ (List.mem_of_getElem? (i := 2) rfl)), ⟨by decide +kernel, by decide +kernel, by decide +kernel⟩, by decide⟩, (wi_r9 _ (List.mem_of_getElem? (i := 16) rfl)), (wi_r9 _ (List.mem_of_getElem? (i := 17) rfl)), rfl⟩
def FX5_bar_J34 (n : Nat) (S : kS) : Option (Int32 × kS) :=
  some ((-1 : Int32), S)
def FX5_bar (n : Nat) (S : kS) (a1 : Int32) (a2 : Int32) (a3 : Int32) (a4 : Int32) (a5 : Int32) : Option (Int32 × kS) :=
  (FX5_formAt n S a1).bind fun z1 => kopt z1 (FX5_bar_J34 n S) (fun w_1 => kgd (kfm n w_1) <| (FX0_hasValue w_1 S a2 a3).bind fun x1 => if x1 = 0 then (FX5_bar_J34 n S) else ((FX0_hasValue w_1 S a4 a5).bind fun x2 => if x2 = 0 then (FX5_bar_J34 n S) else (if a2 = a4 then (some ((-2 : Int32), S)) else ((FX5_isInTalk S a1).bind fun x3 => if x3 = 0 then (kb2 (FX0_addRule w_1 S (0 : Int32) a2 a3 a4 a5) fun x4 S1 => some (x4, S1)) else (some ((-3 : Int32), S))))))
theorem TX5_bar_J34 {G : kG} {n : Nat} {d : Nat} {X : kX} (hG : kg_N G = 55 + 14 * n) {S : kS} {res : Int32 × kS} (h : FX5_bar_J34 n S = some res) : kV (X, RX5, 7, (some .int), G, krm (d + 2), (0, 0), kQ X G (some (.int res.1)) (kgl G n res.2)) cX5_bar (kgl G n S) [none, none, none, none, none, none, none] [] 34 := by
  unfold FX5_bar_J34 at h
  refine kV_iconst 35 dX5_bar_34 ic_m1 rfl ?_
  cases h
  exact kV_iret dX5_bar_35
theorem okX5_bar {l : Launch} {G : kG} {n : Nat} (hG : kg_N G = 55 + 14 * n) (d : Nat) {S : kS} {a1 : Int32} {a2 : Int32} {a3 : Int32} {a4 : Int32} {a5 : Int32} {res : Int32 × kS} (h : FX5_bar n S a1 a2 a3 a4 a5 = some res) : kEv l G (d + 2) mX5_bar [.ref (kg_ad G (kbo 0)), .int a1, .int a2, .int a3, .int a4, .int a5] (kgl G n S) (some (.int res.1)) (kgl G n res.2) := by
  refine kEv_of RX5 [some (.ref (kg_ad G (kbo 0))), some (.int a1), some (.int a2), some (.int a3), some (.int a4), some (.int a5), none] rfl (by decide +kernel) rfl rfl rfl rfl (fun X hX => ?_)
  subst hX
  unfold FX5_bar at h
  refine kV_aloadn 1 dX5_bar_0 rfl rfl ?_
  refine kV_iloadn 2 dX5_bar_1 rfl rfl ?_
  obtain ⟨z1, hx, h⟩ := kbi_ex h
  refine kC_V 5 [] [kvo G z1] dX5_bar_2 (okX5_formAt hG (d + 1)  hx) kmvX5_formAt (wi_r7 _ (List.mem_of_getElem? (i := 7) rfl)) (kOk_of hG rfl) rfl rfl rfl rfl rfl rfl ?_
  clear hx
  refine kV_astoreo 7 [some (.ref (kg_ad G (kbo 0))), some (.int a1), some (.int a2), some (.int a3), some (.int a4), some (.int a5), some (kvo G z1)] dX5_bar_5 rfl rfl rfl ?_
  refine kV_aloado 9 dX5_bar_7 rfl rfl ?_
  rcases kopt_ex h with ⟨hv, h⟩ | ⟨w_1, hv, h⟩
  · subst hv
    show kV _ _ _ [some (.ref (kg_ad G (kbo 0))), some (.int a1), some (.int a2), some (.int a3), some (.int a4), some (.int a5), some (.null)] (.null :: []) _
    refine kV_ifnullN 34 dX5_bar_9 (by decide) ?_
    refine kV_drop [false, false, false, false, false, false, false] rfl ?_
    exact TX5_bar_J34 hG h
  · subst hv
    show kV _ _ _ [some (.ref (kg_ad G (kbo 0))), some (.int a1), some (.int a2), some (.int a3), some (.int a4), some (.int a5), some (.ref (kg_ad G (kbo w_1)))] (.ref (kg_ad G (kbo w_1)) :: []) _
    obtain ⟨ho_w_1, h⟩ := kgd_ex h
    have hO_w_1 := kOk_fm hG ho_w_1
    have hc_w_1 := kci_fm ho_w_1
    refine kV_ifnull 12 dX5_bar_9 rfl ?_
    refine kV_aload 14 dX5_bar_12 rfl rfl ?_
    refine kV_iloadn 15 dX5_bar_14 rfl rfl ?_
    refine kV_iloadn 16 dX5_bar_15 rfl rfl ?_
    obtain ⟨x1, hx, h⟩ := kbi_ex h
    refine kC_V 19 [] [.int x1] dX5_bar_16 (okX0_hasValue hG d ho_w_1 hx) kmvX0_hasValue (wi_r9 _ (List.mem_of_getElem? (i := 19) rfl)) hO_w_1 hc_w_1 rfl rfl rfl rfl rfl ?_
    clear hx
    rcases kif_ex h with ⟨hc, h⟩ | ⟨hc, h⟩
    · refine kV_if_eq_t 34 dX5_bar_19 (by decide) hc ?_
      clear hc
      refine kV_drop [false, false, false, false, false, false, false] rfl ?_
      exact TX5_bar_J34 hG h
    · refine kV_if_eq_f 34 22 dX5_bar_19 (by decide) hc rfl ?_
      clear hc
      refine kV_aload 24 dX5_bar_22 rfl rfl ?_
      refine kV_iload 26 dX5_bar_24 rfl rfl ?_
      refine kV_iload 28 dX5_bar_26 rfl rfl ?_
      obtain ⟨x2, hx, h⟩ := kbi_ex h
      refine kC_V 31 [] [.int x2] dX5_bar_28 (okX0_hasValue hG d ho_w_1 hx) kmvX0_hasValue (wi_r9 _ (List.mem_of_getElem? (i := 19) rfl)) hO_w_1 hc_w_1 rfl rfl rfl rfl rfl ?_
      clear hx
      rcases kif_ex h with ⟨hc, h⟩ | ⟨hc, h⟩
      · refine kV_if_ne_f 36 34 dX5_bar_31 (by decide) hc rfl ?_
        clear hc
        refine kV_drop [false, false, false, false, false, false, false] rfl ?_
        exact TX5_bar_J34 hG h
      · refine kV_if_ne_t 36 dX5_bar_31 (by decide) hc ?_
        clear hc
        refine kV_iloadn 37 dX5_bar_36 rfl rfl ?_
        refine kV_iload 39 dX5_bar_37 rfl rfl ?_
        rcases kif_ex h with ⟨hc, h⟩ | ⟨hc, h⟩
        · refine kV_icmp_ne_f 45 42 dX5_bar_39 (by decide) hc rfl ?_
          clear hc
          refine kV_bipush 44 dX5_bar_42 bp_m2 rfl ?_
          cases h
          exact kV_iret dX5_bar_44
        · refine kV_icmp_ne_t 45 dX5_bar_39 (by decide) hc ?_
          clear hc
          refine kV_aloadn 46 dX5_bar_45 rfl rfl ?_
          refine kV_iloadn 47 dX5_bar_46 rfl rfl ?_
          obtain ⟨x3, hx, h⟩ := kbi_ex h
          refine kC_V 50 [] [.int x3] dX5_bar_47 (okX5_isInTalk hG (d + 1)  hx) kmvX5_isInTalk (wi_r7 _ (List.mem_of_getElem? (i := 14) rfl)) (kOk_of hG rfl) rfl rfl rfl rfl rfl rfl ?_
          clear hx
          rcases kif_ex h with ⟨hc, h⟩ | ⟨hc, h⟩
          · refine kV_if_eq_t 56 dX5_bar_50 (by decide) hc ?_
            clear hc
            refine kV_aload 58 dX5_bar_56 rfl rfl ?_
            refine kV_iconst 59 dX5_bar_58 ic_0 rfl ?_
            refine kV_iloadn 60 dX5_bar_59 rfl rfl ?_
            refine kV_iloadn 61 dX5_bar_60 rfl rfl ?_
            refine kV_iload 63 dX5_bar_61 rfl rfl ?_
            refine kV_iload 65 dX5_bar_63 rfl rfl ?_
            obtain ⟨x4, S1, hx, h⟩ := kb2_ex h
            refine kC_V 68 [] [.int x4] dX5_bar_65 (okX0_addRule hG (d + 1) ho_w_1 hx) kmvX0_addRule (wi_r9 _ (List.mem_of_getElem? (i := 23) rfl)) hO_w_1 hc_w_1 rfl rfl rfl rfl rfl ?_
            clear hx
            cases h
            exact kV_iret dX5_bar_68
          · refine kV_if_eq_f 56 53 dX5_bar_50 (by decide) hc rfl ?_
            clear hc
            refine kV_bipush 55 dX5_bar_53 bp_m3 rfl ?_
            cases h
            exact kV_iret dX5_bar_55
abbrev mX5_need : kM := (yX5_need, cX5_need, 6, (some .int))
theorem kmvX5_need : kMv mX5_need 4 5 := ⟨⟨(wi_r10 _ (List.mem_of_getElem? (i := 18) rfl)), (wi_r1 _ (List.mem_of_getElem? (i := 2) rfl)), ⟨by decide +kernel, by decide +kernel, by decide +kernel⟩, by decide⟩, (wi_r10 _ (List.mem_of_getElem? (i := 16) rfl)), (wi_r10 _ (List.mem_of_getElem? (i := 17) rfl)), rfl⟩
def FX5_need_J50 (n : Nat) (S : kS) : Option (Int32 × kS) :=
  some ((-2 : Int32), S)
def FX5_need_J32 (n : Nat) (S : kS) : Option (Int32 × kS) :=
  some ((-1 : Int32), S)
def FX5_need (n : Nat) (S : kS) (a1 : Int32) (a2 : Int32) (a3 : Int32) (a4 : Int32) : Option (Int32 × kS) :=
  (FX5_formAt n S a1).bind fun z1 => kopt z1 (FX5_need_J32 n S) (fun w_1 => kgd (kfm n w_1) <| (FX0_hasValue w_1 S a2 a3).bind fun x1 => if x1 = 0 then (FX5_need_J32 n S) else ((FX0_hasPlace w_1 S a4).bind fun x2 => if x2 = 0 then (FX5_need_J32 n S) else (if a2 = a4 then (FX5_need_J50 n S) else ((FX0_isWorked w_1 S a4).bind fun x3 => if x3 = 0 then ((FX5_isInTalk S a1).bind fun x4 => if x4 = 0 then (kb2 (FX0_addRule w_1 S (1 : Int32) a2 a3 a4 (0 : Int32)) fun x5 S1 => some (x5, S1)) else (some ((-3 : Int32), S))) else (FX5_need_J50 n S)))))
theorem TX5_need_J50 {G : kG} {n : Nat} {d : Nat} {X : kX} (hG : kg_N G = 55 + 14 * n) {S : kS} {res : Int32 × kS} (h : FX5_need_J50 n S = some res) : kV (X, RX5, 6, (some .int), G, krm (d + 2), (0, 0), kQ X G (some (.int res.1)) (kgl G n res.2)) cX5_need (kgl G n S) [none, none, none, none, none, none] [] 50 := by
  unfold FX5_need_J50 at h
  refine kV_bipush 52 dX5_need_50 bp_m2 rfl ?_
  cases h
  exact kV_iret dX5_need_52
theorem TX5_need_J32 {G : kG} {n : Nat} {d : Nat} {X : kX} (hG : kg_N G = 55 + 14 * n) {S : kS} {res : Int32 × kS} (h : FX5_need_J32 n S = some res) : kV (X, RX5, 6, (some .int), G, krm (d + 2), (0, 0), kQ X G (some (.int res.1)) (kgl G n res.2)) cX5_need (kgl G n S) [none, none, none, none, none, none] [] 32 := by
  unfold FX5_need_J32 at h
  refine kV_iconst 33 dX5_need_32 ic_m1 rfl ?_
  cases h
  exact kV_iret dX5_need_33
theorem okX5_need {l : Launch} {G : kG} {n : Nat} (hG : kg_N G = 55 + 14 * n) (d : Nat) {S : kS} {a1 : Int32} {a2 : Int32} {a3 : Int32} {a4 : Int32} {res : Int32 × kS} (h : FX5_need n S a1 a2 a3 a4 = some res) : kEv l G (d + 2) mX5_need [.ref (kg_ad G (kbo 0)), .int a1, .int a2, .int a3, .int a4] (kgl G n S) (some (.int res.1)) (kgl G n res.2) := by
  refine kEv_of RX5 [some (.ref (kg_ad G (kbo 0))), some (.int a1), some (.int a2), some (.int a3), some (.int a4), none] rfl (by decide +kernel) rfl rfl rfl rfl (fun X hX => ?_)
  subst hX
  unfold FX5_need at h
  refine kV_aloadn 1 dX5_need_0 rfl rfl ?_
  refine kV_iloadn 2 dX5_need_1 rfl rfl ?_
  obtain ⟨z1, hx, h⟩ := kbi_ex h
  refine kC_V 5 [] [kvo G z1] dX5_need_2 (okX5_formAt hG (d + 1)  hx) kmvX5_formAt (wi_r7 _ (List.mem_of_getElem? (i := 7) rfl)) (kOk_of hG rfl) rfl rfl rfl rfl rfl rfl ?_
  clear hx
  refine kV_astoreo 7 [some (.ref (kg_ad G (kbo 0))), some (.int a1), some (.int a2), some (.int a3), some (.int a4), some (kvo G z1)] dX5_need_5 rfl rfl rfl ?_
  refine kV_aloado 9 dX5_need_7 rfl rfl ?_
  rcases kopt_ex h with ⟨hv, h⟩ | ⟨w_1, hv, h⟩
  · subst hv
    show kV _ _ _ [some (.ref (kg_ad G (kbo 0))), some (.int a1), some (.int a2), some (.int a3), some (.int a4), some (.null)] (.null :: []) _
    refine kV_ifnullN 32 dX5_need_9 (by decide) ?_
    refine kV_drop [false, false, false, false, false, false] rfl ?_
    exact TX5_need_J32 hG h
  · subst hv
    show kV _ _ _ [some (.ref (kg_ad G (kbo 0))), some (.int a1), some (.int a2), some (.int a3), some (.int a4), some (.ref (kg_ad G (kbo w_1)))] (.ref (kg_ad G (kbo w_1)) :: []) _
    obtain ⟨ho_w_1, h⟩ := kgd_ex h
    have hO_w_1 := kOk_fm hG ho_w_1
    have hc_w_1 := kci_fm ho_w_1
    refine kV_ifnull 12 dX5_need_9 rfl ?_
    refine kV_aload 14 dX5_need_12 rfl rfl ?_
    refine kV_iloadn 15 dX5_need_14 rfl rfl ?_
    refine kV_iloadn 16 dX5_need_15 rfl rfl ?_
    obtain ⟨x1, hx, h⟩ := kbi_ex h
    refine kC_V 19 [] [.int x1] dX5_need_16 (okX0_hasValue hG d ho_w_1 hx) kmvX0_hasValue (wi_r9 _ (List.mem_of_getElem? (i := 19) rfl)) hO_w_1 hc_w_1 rfl rfl rfl rfl rfl ?_
    clear hx
    rcases kif_ex h with ⟨hc, h⟩ | ⟨hc, h⟩
    · refine kV_if_eq_t 32 dX5_need_19 (by decide) hc ?_
      clear hc
      refine kV_drop [false, false, false, false, false, false] rfl ?_
      exact TX5_need_J32 hG h
    · refine kV_if_eq_f 32 22 dX5_need_19 (by decide) hc rfl ?_
      clear hc
      refine kV_aload 24 dX5_need_22 rfl rfl ?_
      refine kV_iload 26 dX5_need_24 rfl rfl ?_
      obtain ⟨x2, hx, h⟩ := kbi_ex h
      refine kC_V 29 [] [.int x2] dX5_need_26 (okX0_hasPlace hG (d + 1) ho_w_1 hx) kmvX0_hasPlace (wi_r8 _ (List.mem_of_getElem? (i := 22) rfl)) hO_w_1 hc_w_1 rfl rfl rfl rfl rfl ?_
      clear hx
      rcases kif_ex h with ⟨hc, h⟩ | ⟨hc, h⟩
      · refine kV_if_ne_f 34 32 dX5_need_29 (by decide) hc rfl ?_
        clear hc
        refine kV_drop [false, false, false, false, false, false] rfl ?_
        exact TX5_need_J32 hG h
      · refine kV_if_ne_t 34 dX5_need_29 (by decide) hc ?_
        clear hc
        refine kV_iloadn 35 dX5_need_34 rfl rfl ?_
        refine kV_iload 37 dX5_need_35 rfl rfl ?_
        rcases kif_ex h with ⟨hc, h⟩ | ⟨hc, h⟩
        · refine kV_icmp_eq_t 50 dX5_need_37 (by decide) hc ?_
          clear hc
          refine kV_drop [false, false, false, false, false, false] rfl ?_
          exact TX5_need_J50 hG h
        · refine kV_icmp_eq_f 50 40 dX5_need_37 (by decide) hc rfl ?_
          clear hc
          refine kV_aload 42 dX5_need_40 rfl rfl ?_
          refine kV_iload 44 dX5_need_42 rfl rfl ?_
          obtain ⟨x3, hx, h⟩ := kbi_ex h
          refine kC_V 47 [] [.int x3] dX5_need_44 (okX0_isWorked hG d ho_w_1 hx) kmvX0_isWorked (wi_r9 _ (List.mem_of_getElem? (i := 2) rfl)) hO_w_1 hc_w_1 rfl rfl rfl rfl rfl ?_
          clear hx
          rcases kif_ex h with ⟨hc, h⟩ | ⟨hc, h⟩
          · refine kV_if_eq_t 53 dX5_need_47 (by decide) hc ?_
            clear hc
            refine kV_aloadn 54 dX5_need_53 rfl rfl ?_
            refine kV_iloadn 55 dX5_need_54 rfl rfl ?_
            obtain ⟨x4, hx, h⟩ := kbi_ex h
            refine kC_V 58 [] [.int x4] dX5_need_55 (okX5_isInTalk hG (d + 1)  hx) kmvX5_isInTalk (wi_r7 _ (List.mem_of_getElem? (i := 14) rfl)) (kOk_of hG rfl) rfl rfl rfl rfl rfl rfl ?_
            clear hx
            rcases kif_ex h with ⟨hc, h⟩ | ⟨hc, h⟩
            · refine kV_if_eq_t 64 dX5_need_58 (by decide) hc ?_
              clear hc
              refine kV_aload 66 dX5_need_64 rfl rfl ?_
              refine kV_iconst 67 dX5_need_66 ic_1 rfl ?_
              refine kV_iloadn 68 dX5_need_67 rfl rfl ?_
              refine kV_iloadn 69 dX5_need_68 rfl rfl ?_
              refine kV_iload 71 dX5_need_69 rfl rfl ?_
              refine kV_iconst 72 dX5_need_71 ic_0 rfl ?_
              obtain ⟨x5, S1, hx, h⟩ := kb2_ex h
              refine kC_V 75 [] [.int x5] dX5_need_72 (okX0_addRule hG (d + 1) ho_w_1 hx) kmvX0_addRule (wi_r9 _ (List.mem_of_getElem? (i := 23) rfl)) hO_w_1 hc_w_1 rfl rfl rfl rfl rfl ?_
              clear hx
              cases h
              exact kV_iret dX5_need_75
            · refine kV_if_eq_f 64 61 dX5_need_58 (by decide) hc rfl ?_
              clear hc
              refine kV_bipush 63 dX5_need_61 bp_m3 rfl ?_
              cases h
              exact kV_iret dX5_need_63
          · refine kV_if_eq_f 53 50 dX5_need_47 (by decide) hc rfl ?_
            clear hc
            refine kV_drop [false, false, false, false, false, false] rfl ?_
            exact TX5_need_J50 hG h
abbrev mX5_word : kM := (yX5_word, cX5_word, 6, (some .int))
theorem kmvX5_word : kMv mX5_word 4 5 := ⟨⟨(wi_r11 _ (List.mem_of_getElem? (i := 2) rfl)), (wi_r1 _ (List.mem_of_getElem? (i := 2) rfl)), ⟨by decide +kernel, by decide +kernel, by decide +kernel⟩, by decide⟩, (wi_r11 _ (List.mem_of_getElem? (i := 0) rfl)), (wi_r11 _ (List.mem_of_getElem? (i := 1) rfl)), rfl⟩
def FX5_word_J30 (n : Nat) (S : kS) : Option (Int32 × kS) :=
  some ((-1 : Int32), S)
def FX5_word (n : Nat) (S : kS) (a1 : Int32) (a2 : Int32) (a3 : Int32) (a4 : Int32) : Option (Int32 × kS) :=
  (FX5_formAt n S a1).bind fun z1 => kopt z1 (FX5_word_J30 n S) (fun w_1 => kgd (kfm n w_1) <| (FX0_hasValue w_1 S a2 a3).bind fun x1 => if x1 = 0 then (FX5_word_J30 n S) else ((FX5_isWord S a4).bind fun x2 => if x2 = 0 then (FX5_word_J30 n S) else ((FX0_isWorked w_1 S a2).bind fun x3 => if x3 = 0 then ((FX0_placeSaidBy w_1 S a4).bind fun x4 => if x4 = (-1 : Int32) then ((FX0_teach w_1 S a4 a2 a3).bind fun S1 => some ((0 : Int32), S1)) else (some ((-3 : Int32), S))) else (some ((-2 : Int32), S)))))
theorem TX5_word_J30 {G : kG} {n : Nat} {d : Nat} {X : kX} (hG : kg_N G = 55 + 14 * n) {S : kS} {res : Int32 × kS} (h : FX5_word_J30 n S = some res) : kV (X, RX5, 6, (some .int), G, krm (d + 2), (0, 0), kQ X G (some (.int res.1)) (kgl G n res.2)) cX5_word (kgl G n S) [none, none, none, none, none, none] [] 30 := by
  unfold FX5_word_J30 at h
  refine kV_iconst 31 dX5_word_30 ic_m1 rfl ?_
  cases h
  exact kV_iret dX5_word_31
theorem okX5_word {l : Launch} {G : kG} {n : Nat} (hG : kg_N G = 55 + 14 * n) (d : Nat) {S : kS} {a1 : Int32} {a2 : Int32} {a3 : Int32} {a4 : Int32} {res : Int32 × kS} (h : FX5_word n S a1 a2 a3 a4 = some res) : kEv l G (d + 2) mX5_word [.ref (kg_ad G (kbo 0)), .int a1, .int a2, .int a3, .int a4] (kgl G n S) (some (.int res.1)) (kgl G n res.2) := by
  refine kEv_of RX5 [some (.ref (kg_ad G (kbo 0))), some (.int a1), some (.int a2), some (.int a3), some (.int a4), none] rfl (by decide +kernel) rfl rfl rfl rfl (fun X hX => ?_)
  subst hX
  unfold FX5_word at h
  refine kV_aloadn 1 dX5_word_0 rfl rfl ?_
  refine kV_iloadn 2 dX5_word_1 rfl rfl ?_
  obtain ⟨z1, hx, h⟩ := kbi_ex h
  refine kC_V 5 [] [kvo G z1] dX5_word_2 (okX5_formAt hG (d + 1)  hx) kmvX5_formAt (wi_r7 _ (List.mem_of_getElem? (i := 7) rfl)) (kOk_of hG rfl) rfl rfl rfl rfl rfl rfl ?_
  clear hx
  refine kV_astoreo 7 [some (.ref (kg_ad G (kbo 0))), some (.int a1), some (.int a2), some (.int a3), some (.int a4), some (kvo G z1)] dX5_word_5 rfl rfl rfl ?_
  refine kV_aloado 9 dX5_word_7 rfl rfl ?_
  rcases kopt_ex h with ⟨hv, h⟩ | ⟨w_1, hv, h⟩
  · subst hv
    show kV _ _ _ [some (.ref (kg_ad G (kbo 0))), some (.int a1), some (.int a2), some (.int a3), some (.int a4), some (.null)] (.null :: []) _
    refine kV_ifnullN 30 dX5_word_9 (by decide) ?_
    refine kV_drop [false, false, false, false, false, false] rfl ?_
    exact TX5_word_J30 hG h
  · subst hv
    show kV _ _ _ [some (.ref (kg_ad G (kbo 0))), some (.int a1), some (.int a2), some (.int a3), some (.int a4), some (.ref (kg_ad G (kbo w_1)))] (.ref (kg_ad G (kbo w_1)) :: []) _
    obtain ⟨ho_w_1, h⟩ := kgd_ex h
    have hO_w_1 := kOk_fm hG ho_w_1
    have hc_w_1 := kci_fm ho_w_1
    refine kV_ifnull 12 dX5_word_9 rfl ?_
    refine kV_aload 14 dX5_word_12 rfl rfl ?_
    refine kV_iloadn 15 dX5_word_14 rfl rfl ?_
    refine kV_iloadn 16 dX5_word_15 rfl rfl ?_
    obtain ⟨x1, hx, h⟩ := kbi_ex h
    refine kC_V 19 [] [.int x1] dX5_word_16 (okX0_hasValue hG d ho_w_1 hx) kmvX0_hasValue (wi_r9 _ (List.mem_of_getElem? (i := 19) rfl)) hO_w_1 hc_w_1 rfl rfl rfl rfl rfl ?_
    clear hx
    rcases kif_ex h with ⟨hc, h⟩ | ⟨hc, h⟩
    · refine kV_if_eq_t 30 dX5_word_19 (by decide) hc ?_
      clear hc
      refine kV_drop [false, false, false, false, false, false] rfl ?_
      exact TX5_word_J30 hG h
    · refine kV_if_eq_f 30 22 dX5_word_19 (by decide) hc rfl ?_
      clear hc
      refine kV_iload 24 dX5_word_22 rfl rfl ?_
      obtain ⟨x2, hx, h⟩ := kbi_ex h
      refine kC_S 27 [] [.int x2] dX5_word_24 (okX5_isWord hG (d + 1)  hx) kmtX5_isWord (wi_r11 _ (List.mem_of_getElem? (i := 3) rfl)) rfl rfl rfl rfl rfl ?_
      clear hx
      rcases kif_ex h with ⟨hc, h⟩ | ⟨hc, h⟩
      · refine kV_if_ne_f 32 30 dX5_word_27 (by decide) hc rfl ?_
        clear hc
        refine kV_drop [false, false, false, false, false, false] rfl ?_
        exact TX5_word_J30 hG h
      · refine kV_if_ne_t 32 dX5_word_27 (by decide) hc ?_
        clear hc
        refine kV_aload 34 dX5_word_32 rfl rfl ?_
        refine kV_iloadn 35 dX5_word_34 rfl rfl ?_
        obtain ⟨x3, hx, h⟩ := kbi_ex h
        refine kC_V 38 [] [.int x3] dX5_word_35 (okX0_isWorked hG d ho_w_1 hx) kmvX0_isWorked (wi_r9 _ (List.mem_of_getElem? (i := 2) rfl)) hO_w_1 hc_w_1 rfl rfl rfl rfl rfl ?_
        clear hx
        rcases kif_ex h with ⟨hc, h⟩ | ⟨hc, h⟩
        · refine kV_if_eq_t 44 dX5_word_38 (by decide) hc ?_
          clear hc
          refine kV_aload 46 dX5_word_44 rfl rfl ?_
          refine kV_iload 48 dX5_word_46 rfl rfl ?_
          obtain ⟨x4, hx, h⟩ := kbi_ex h
          refine kC_V 51 [] [.int x4] dX5_word_48 (okX0_placeSaidBy hG d ho_w_1 hx) kmvX0_placeSaidBy (wi_r11 _ (List.mem_of_getElem? (i := 6) rfl)) hO_w_1 hc_w_1 rfl rfl rfl rfl rfl ?_
          clear hx
          refine kV_iconst 52 dX5_word_51 ic_m1 rfl ?_
          rcases kif_ex h with ⟨hc, h⟩ | ⟨hc, h⟩
          · refine kV_icmp_eq_t 58 dX5_word_52 (by decide) hc ?_
            clear hc
            refine kV_aload 60 dX5_word_58 rfl rfl ?_
            refine kV_iload 62 dX5_word_60 rfl rfl ?_
            refine kV_iloadn 63 dX5_word_62 rfl rfl ?_
            refine kV_iloadn 64 dX5_word_63 rfl rfl ?_
            obtain ⟨S1, hx, h⟩ := kbi_ex h
            refine kC_V 67 [] [] dX5_word_64 (okX0_teach hG d ho_w_1 hx) kmvX0_teach (wi_r11 _ (List.mem_of_getElem? (i := 10) rfl)) hO_w_1 hc_w_1 rfl rfl rfl rfl rfl ?_
            clear hx
            refine kV_iconst 68 dX5_word_67 ic_0 rfl ?_
            cases h
            exact kV_iret dX5_word_68
          · refine kV_icmp_eq_f 58 55 dX5_word_52 (by decide) hc rfl ?_
            clear hc
            refine kV_bipush 57 dX5_word_55 bp_m3 rfl ?_
            cases h
            exact kV_iret dX5_word_57
        · refine kV_if_eq_f 44 41 dX5_word_38 (by decide) hc rfl ?_
          clear hc
          refine kV_bipush 43 dX5_word_41 bp_m2 rfl ?_
          cases h
          exact kV_iret dX5_word_43
abbrev mX5_isItem : kM := (yX5_isItem, cX5_isItem, 2, (some .boolean))
theorem kmtX5_isItem : kMt mX5_isItem 2 := ⟨⟨(wi_r12 _ (List.mem_of_getElem? (i := 0) rfl)), (wi_r1 _ (List.mem_of_getElem? (i := 2) rfl)), ⟨by decide +kernel, by decide +kernel, by decide +kernel⟩, by decide⟩, (wi_r11 _ (List.mem_of_getElem? (i := 23) rfl))⟩
def FX5_isItem_J57 (S : kS) (s0 : Int32) : Option (Int32) :=
  kgd (kz s0) <| some s0
def FX5_isItem_J47 (S : kS) (s0 : Int32) : Option (Int32) :=
  kgd (kz s0) <| some s0
def FX5_isItem_J46 (S : kS) : Option (Int32) :=
  FX5_isItem_J47 S (0 : Int32)
def FX5_isItem (S : kS) (a1 : Int32) (a2 : Int32) : Option (Int32) :=
  if a1 = (0 : Int32) then ((FX5_isWord S a2).bind fun x1 => kgd (kz x1) <| some x1) else (if a1 = (1 : Int32) then (if a2 < 0 then (FX5_isItem_J46 S) else (if (5 : Int32) ≤ a2 then (FX5_isItem_J46 S) else (FX5_isItem_J47 S (1 : Int32)))) else (if a1 = (2 : Int32) then (if a2 = 0 then (FX5_isItem_J57 S (1 : Int32)) else (FX5_isItem_J57 S (0 : Int32))) else (some (0 : Int32))))
theorem TX5_isItem_J57 {G : kG} {n : Nat} {d : Nat} {X : kX} (hG : kg_N G = 55 + 14 * n) {S : kS} {s0 : Int32} {res : Int32} (h : FX5_isItem_J57 S s0 = some res) : kV (X, RX5, 2, (some .boolean), G, krm (d + 1), (0, 0), kQ X G (some (.int res)) (kgl G n S)) cX5_isItem (kgl G n S) [none, none] [.int s0] 57 := by
  unfold FX5_isItem_J57 at h
  obtain ⟨hz, h⟩ := kgd_ex h
  cases h
  exact kV_zret dX5_isItem_57 (of_decide_eq_true hz)
theorem TX5_isItem_J47 {G : kG} {n : Nat} {d : Nat} {X : kX} (hG : kg_N G = 55 + 14 * n) {S : kS} {s0 : Int32} {res : Int32} (h : FX5_isItem_J47 S s0 = some res) : kV (X, RX5, 2, (some .boolean), G, krm (d + 1), (0, 0), kQ X G (some (.int res)) (kgl G n S)) cX5_isItem (kgl G n S) [none, none] [.int s0] 47 := by
  unfold FX5_isItem_J47 at h
  obtain ⟨hz, h⟩ := kgd_ex h
  cases h
  exact kV_zret dX5_isItem_47 (of_decide_eq_true hz)
theorem TX5_isItem_J46 {G : kG} {n : Nat} {d : Nat} {X : kX} (hG : kg_N G = 55 + 14 * n) {S : kS} {res : Int32} (h : FX5_isItem_J46 S = some res) : kV (X, RX5, 2, (some .boolean), G, krm (d + 1), (0, 0), kQ X G (some (.int res)) (kgl G n S)) cX5_isItem (kgl G n S) [none, none] [] 46 := by
  unfold FX5_isItem_J46 at h
  refine kV_iconst 47 dX5_isItem_46 ic_0 rfl ?_
  refine kV_drop [false, false] rfl ?_
  exact TX5_isItem_J47 hG h
theorem okX5_isItem {l : Launch} {G : kG} {n : Nat} (hG : kg_N G = 55 + 14 * n) (d : Nat) {S : kS} {a1 : Int32} {a2 : Int32} {res : Int32} (h : FX5_isItem S a1 a2 = some res) : kEv l G (d + 1) mX5_isItem [.int a1, .int a2] (kgl G n S) (some (.int res)) (kgl G n S) := by
  refine kEv_of RX5 [some (.int a1), some (.int a2)] rfl (by decide +kernel) rfl rfl rfl rfl (fun X hX => ?_)
  subst hX
  unfold FX5_isItem at h
  refine kV_iloadn 1 dX5_isItem_0 rfl rfl ?_
  rcases kif_ex h with ⟨hc, h⟩ | ⟨hc0, h⟩
  · refine kV_tableIn (off := 27) 28 dX5_isItem_1 (by rw [hc]; decide) (by rw [hc]; decide) (by rw [hc]; decide) (by decide) ?_
    clear hc
    refine kV_iloadn 29 dX5_isItem_28 rfl rfl ?_
    obtain ⟨x1, hx, h⟩ := kbi_ex h
    refine kC_S 32 [] [.int x1] dX5_isItem_29 (okX5_isWord hG d  hx) kmtX5_isWord (wi_r11 _ (List.mem_of_getElem? (i := 3) rfl)) rfl rfl rfl rfl rfl ?_
    clear hx
    obtain ⟨hz, h⟩ := kgd_ex h
    cases h
    exact kV_zret dX5_isItem_32 (of_decide_eq_true hz)
  · rcases kif_ex h with ⟨hc, h⟩ | ⟨hc1, h⟩
    · refine kV_tableIn (off := 32) 33 dX5_isItem_1 (by rw [hc]; decide) (by rw [hc]; decide) (by rw [hc]; decide) (by decide) ?_
      clear hc
      refine kV_iloadn 34 dX5_isItem_33 rfl rfl ?_
      rcases kif_ex h with ⟨hc, h⟩ | ⟨hc, h⟩
      · refine kV_if_lt_t 46 dX5_isItem_34 (by decide) hc ?_
        clear hc
        refine kV_drop [false, false] rfl ?_
        exact TX5_isItem_J46 hG h
      · refine kV_if_lt_f 46 37 dX5_isItem_34 (by decide) hc rfl ?_
        clear hc
        refine kV_iloadn 38 dX5_isItem_37 rfl rfl ?_
        refine kV_iconst 39 dX5_isItem_38 ic_5 rfl ?_
        rcases kif_ex h with ⟨hc, h⟩ | ⟨hc, h⟩
        · refine kV_icmp_ge_t 46 dX5_isItem_39 (by decide) hc ?_
          clear hc
          refine kV_drop [false, false] rfl ?_
          exact TX5_isItem_J46 hG h
        · refine kV_icmp_ge_f 46 42 dX5_isItem_39 (by decide) hc rfl ?_
          clear hc
          refine kV_iconst 43 dX5_isItem_42 ic_1 rfl ?_
          refine kV_goto 47 dX5_isItem_43 (by decide) ?_
          refine kV_drop [false, false] rfl ?_
          exact TX5_isItem_J47 hG h
    · rcases kif_ex h with ⟨hc, h⟩ | ⟨hc2, h⟩
      · refine kV_tableIn (off := 47) 48 dX5_isItem_1 (by rw [hc]; decide) (by rw [hc]; decide) (by rw [hc]; decide) (by decide) ?_
        clear hc
        refine kV_iloadn 49 dX5_isItem_48 rfl rfl ?_
        rcases kif_ex h with ⟨hc, h⟩ | ⟨hc, h⟩
        · refine kV_if_ne_f 56 52 dX5_isItem_49 (by decide) hc rfl ?_
          clear hc
          refine kV_iconst 53 dX5_isItem_52 ic_1 rfl ?_
          refine kV_goto 57 dX5_isItem_53 (by decide) ?_
          refine kV_drop [false, false] rfl ?_
          exact TX5_isItem_J57 hG h
        · refine kV_if_ne_t 56 dX5_isItem_49 (by decide) hc ?_
          clear hc
          refine kV_iconst 57 dX5_isItem_56 ic_0 rfl ?_
          refine kV_drop [false, false] rfl ?_
          exact TX5_isItem_J57 hG h
      · refine kV_tableOut 58 dX5_isItem_1 (ktab_out 2 _ (fun j hj => match j, hj with | 0, _ => hc0 | 1, _ => hc1 | 2, _ => hc2 | j + 3, hj => absurd hj (by omega))) (by decide) ?_
        refine kV_iconst 59 dX5_isItem_58 ic_0 rfl ?_
        cases h
        exact kV_zret dX5_isItem_59 (by decide)
abbrev mX5_item : kM := (yX5_item, cX5_item, 3, (some .int))
theorem kmvX5_item : kMv mX5_item 2 5 := ⟨⟨(wi_r11 _ (List.mem_of_getElem? (i := 21) rfl)), (wi_r1 _ (List.mem_of_getElem? (i := 2) rfl)), ⟨by decide +kernel, by decide +kernel, by decide +kernel⟩, by decide⟩, (wi_r11 _ (List.mem_of_getElem? (i := 19) rfl)), (wi_r11 _ (List.mem_of_getElem? (i := 20) rfl)), rfl⟩
def FX5_item (S : kS) (a1 : Int32) (a2 : Int32) : Option (Int32 × kS) :=
  (FX5_isItem S a1 a2).bind fun x1 => if x1 = 0 then (some ((-2 : Int32), S)) else (kb2 (FX4_addItem S a1 a2) fun x2 S1 => some (x2, S1))
theorem okX5_item {l : Launch} {G : kG} {n : Nat} (hG : kg_N G = 55 + 14 * n) (d : Nat) {S : kS} {a1 : Int32} {a2 : Int32} {res : Int32 × kS} (h : FX5_item S a1 a2 = some res) : kEv l G (d + 2) mX5_item [.ref (kg_ad G (kbo 0)), .int a1, .int a2] (kgl G n S) (some (.int res.1)) (kgl G n res.2) := by
  refine kEv_of RX5 [some (.ref (kg_ad G (kbo 0))), some (.int a1), some (.int a2)] rfl (by decide +kernel) rfl rfl rfl rfl (fun X hX => ?_)
  subst hX
  unfold FX5_item at h
  refine kV_iloadn 1 dX5_item_0 rfl rfl ?_
  refine kV_iloadn 2 dX5_item_1 rfl rfl ?_
  obtain ⟨x1, hx, h⟩ := kbi_ex h
  refine kC_S 5 [] [.int x1] dX5_item_2 (okX5_isItem hG d  hx) kmtX5_isItem (wi_r11 _ (List.mem_of_getElem? (i := 22) rfl)) rfl rfl rfl rfl rfl ?_
  clear hx
  rcases kif_ex h with ⟨hc, h⟩ | ⟨hc, h⟩
  · refine kV_if_ne_f 11 8 dX5_item_5 (by decide) hc rfl ?_
    clear hc
    refine kV_bipush 10 dX5_item_8 bp_m2 rfl ?_
    cases h
    exact kV_iret dX5_item_10
  · refine kV_if_ne_t 11 dX5_item_5 (by decide) hc ?_
    clear hc
    refine kV_aloadn 12 dX5_item_11 rfl rfl ?_
    refine rg5_22 15 dX5_item_12 (kOk_of hG rfl) rfl ?_
    refine kV_iloadn 16 dX5_item_15 rfl rfl ?_
    refine kV_iloadn 17 dX5_item_16 rfl rfl ?_
    obtain ⟨x2, S1, hx, h⟩ := kb2_ex h
    refine kC_V 20 [] [.int x2] dX5_item_17 (okX4_addItem hG (d + 1)  hx) kmvX4_addItem (wi_r12 _ (List.mem_of_getElem? (i := 1) rfl)) (kOk_of hG rfl) rfl rfl rfl rfl rfl rfl ?_
    clear hx
    cases h
    exact kV_iret dX5_item_20
abbrev mX5_row : kM := (yX5_row, cX5_row, 5, (some .int))
theorem kmvX5_row : kMv mX5_row 3 5 := ⟨⟨(wi_r12 _ (List.mem_of_getElem? (i := 13) rfl)), (wi_r1 _ (List.mem_of_getElem? (i := 2) rfl)), ⟨by decide +kernel, by decide +kernel, by decide +kernel⟩, by decide⟩, (wi_r12 _ (List.mem_of_getElem? (i := 11) rfl)), (wi_r12 _ (List.mem_of_getElem? (i := 12) rfl)), rfl⟩
def FX5_row_J78 (n : Nat) (S : kS) (v1 : Int32) (v2 : Int32) (v3 : Int32) : Option (Int32 × kS) :=
  kb2 (FX4_addRow S v1 v2 v3) fun x1 S1 => some (x1, S1)
def FX5_row_J75 (n : Nat) (S : kS) : Option (Int32 × kS) :=
  some ((-2 : Int32), S)
def FX5_row_J46 (n : Nat) (S : kS) : Option (Int32 × kS) :=
  some ((-2 : Int32), S)
def FX5_row_J24 (n : Nat) (S : kS) : Option (Int32 × kS) :=
  some ((-1 : Int32), S)
def FX5_row (n : Nat) (S : kS) (a1 : Int32) (a2 : Int32) (a3 : Int32) : Option (Int32 × kS) :=
  (FX5_formAt n S a1).bind fun z1 => kopt z1 (FX5_row_J24 n S) (fun w_1 => kgd (kfm n w_1) <| (FX4_itemsLackPlace w_1 S).bind fun x1 => if x1 = 0 then (if a2 < (1 : Int32) then (FX5_row_J46 n S) else (if (9 : Int32) < a2 then (FX5_row_J46 n S) else (if a3 < 0 then (FX5_row_J46 n S) else (if a3 ≤ (2 : Int32) then ((FX4_itemsNameWorked w_1 S).bind fun x2 => if x2 = 0 then (if a3 = 0 then (FX5_row_J78 n S a1 a2 a3) else ((FX4_itemsNamePlace S).bind fun x3 => if x3 = 0 then (FX5_row_J78 n S a1 a2 a3) else (FX5_row_J75 n S))) else (FX5_row_J75 n S)) else (FX5_row_J46 n S))))) else (FX5_row_J24 n S))
theorem TX5_row_J78 {G : kG} {n : Nat} {d : Nat} {X : kX} (hG : kg_N G = 55 + 14 * n) {S : kS} {v1 : Int32} {v2 : Int32} {v3 : Int32} {res : Int32 × kS} (h : FX5_row_J78 n S v1 v2 v3 = some res) : kV (X, RX5, 5, (some .int), G, krm (d + 3), (0, 0), kQ X G (some (.int res.1)) (kgl G n res.2)) cX5_row (kgl G n S) [some (.ref (kg_ad G (kbo 0))), some (.int v1), some (.int v2), some (.int v3), none] [] 78 := by
  unfold FX5_row_J78 at h
  refine kV_aloadn 79 dX5_row_78 rfl rfl ?_
  refine rg5_22 82 dX5_row_79 (kOk_of hG rfl) rfl ?_
  refine kV_iloadn 83 dX5_row_82 rfl rfl ?_
  refine kV_iloadn 84 dX5_row_83 rfl rfl ?_
  refine kV_iloadn 85 dX5_row_84 rfl rfl ?_
  obtain ⟨x1, S1, hx, h⟩ := kb2_ex h
  refine kC_V 88 [] [.int x1] dX5_row_85 (okX4_addRow hG (d + 2)  hx) kmvX4_addRow (wi_r13 _ (List.mem_of_getElem? (i := 4) rfl)) (kOk_of hG rfl) rfl rfl rfl rfl rfl rfl ?_
  clear hx
  cases h
  exact kV_iret dX5_row_88
theorem TX5_row_J75 {G : kG} {n : Nat} {d : Nat} {X : kX} (hG : kg_N G = 55 + 14 * n) {S : kS} {res : Int32 × kS} (h : FX5_row_J75 n S = some res) : kV (X, RX5, 5, (some .int), G, krm (d + 3), (0, 0), kQ X G (some (.int res.1)) (kgl G n res.2)) cX5_row (kgl G n S) [none, none, none, none, none] [] 75 := by
  unfold FX5_row_J75 at h
  refine kV_bipush 77 dX5_row_75 bp_m2 rfl ?_
  cases h
  exact kV_iret dX5_row_77
theorem TX5_row_J46 {G : kG} {n : Nat} {d : Nat} {X : kX} (hG : kg_N G = 55 + 14 * n) {S : kS} {res : Int32 × kS} (h : FX5_row_J46 n S = some res) : kV (X, RX5, 5, (some .int), G, krm (d + 3), (0, 0), kQ X G (some (.int res.1)) (kgl G n res.2)) cX5_row (kgl G n S) [none, none, none, none, none] [] 46 := by
  unfold FX5_row_J46 at h
  refine kV_bipush 48 dX5_row_46 bp_m2 rfl ?_
  cases h
  exact kV_iret dX5_row_48
theorem TX5_row_J24 {G : kG} {n : Nat} {d : Nat} {X : kX} (hG : kg_N G = 55 + 14 * n) {S : kS} {res : Int32 × kS} (h : FX5_row_J24 n S = some res) : kV (X, RX5, 5, (some .int), G, krm (d + 3), (0, 0), kQ X G (some (.int res.1)) (kgl G n res.2)) cX5_row (kgl G n S) [none, none, none, none, none] [] 24 := by
  unfold FX5_row_J24 at h
  refine kV_iconst 25 dX5_row_24 ic_m1 rfl ?_
  cases h
  exact kV_iret dX5_row_25
theorem okX5_row {l : Launch} {G : kG} {n : Nat} (hG : kg_N G = 55 + 14 * n) (d : Nat) {S : kS} {a1 : Int32} {a2 : Int32} {a3 : Int32} {res : Int32 × kS} (h : FX5_row n S a1 a2 a3 = some res) : kEv l G (d + 3) mX5_row [.ref (kg_ad G (kbo 0)), .int a1, .int a2, .int a3] (kgl G n S) (some (.int res.1)) (kgl G n res.2) := by
  refine kEv_of RX5 [some (.ref (kg_ad G (kbo 0))), some (.int a1), some (.int a2), some (.int a3), none] rfl (by decide +kernel) rfl rfl rfl rfl (fun X hX => ?_)
  subst hX
  unfold FX5_row at h
  refine kV_aloadn 1 dX5_row_0 rfl rfl ?_
  refine kV_iloadn 2 dX5_row_1 rfl rfl ?_
  obtain ⟨z1, hx, h⟩ := kbi_ex h
  refine kC_V 5 [] [kvo G z1] dX5_row_2 (okX5_formAt hG (d + 2)  hx) kmvX5_formAt (wi_r7 _ (List.mem_of_getElem? (i := 7) rfl)) (kOk_of hG rfl) rfl rfl rfl rfl rfl rfl ?_
  clear hx
  refine kV_astoreo 7 [some (.ref (kg_ad G (kbo 0))), some (.int a1), some (.int a2), some (.int a3), some (kvo G z1)] dX5_row_5 rfl rfl rfl ?_
  refine kV_aloado 9 dX5_row_7 rfl rfl ?_
  rcases kopt_ex h with ⟨hv, h⟩ | ⟨w_1, hv, h⟩
  · subst hv
    show kV _ _ _ [some (.ref (kg_ad G (kbo 0))), some (.int a1), some (.int a2), some (.int a3), some (.null)] (.null :: []) _
    refine kV_ifnullN 24 dX5_row_9 (by decide) ?_
    refine kV_drop [false, false, false, false, false] rfl ?_
    exact TX5_row_J24 hG h
  · subst hv
    show kV _ _ _ [some (.ref (kg_ad G (kbo 0))), some (.int a1), some (.int a2), some (.int a3), some (.ref (kg_ad G (kbo w_1)))] (.ref (kg_ad G (kbo w_1)) :: []) _
    obtain ⟨ho_w_1, h⟩ := kgd_ex h
    have hO_w_1 := kOk_fm hG ho_w_1
    have hc_w_1 := kci_fm ho_w_1
    refine kV_ifnull 12 dX5_row_9 rfl ?_
    refine kV_aloadn 13 dX5_row_12 rfl rfl ?_
    refine rg5_22 16 dX5_row_13 (kOk_of hG rfl) rfl ?_
    refine kV_aload 18 dX5_row_16 rfl rfl ?_
    obtain ⟨x1, hx, h⟩ := kbi_ex h
    refine kC_V 21 [] [.int x1] dX5_row_18 (okX4_itemsLackPlace hG (d + 1) ho_w_1 hx) kmvX4_itemsLackPlace (wi_r12 _ (List.mem_of_getElem? (i := 14) rfl)) (kOk_of hG rfl) rfl rfl rfl rfl rfl rfl ?_
    clear hx
    rcases kif_ex h with ⟨hc, h⟩ | ⟨hc, h⟩
    · refine kV_if_eq_t 26 dX5_row_21 (by decide) hc ?_
      clear hc
      refine kV_iloadn 27 dX5_row_26 rfl rfl ?_
      refine kV_iconst 28 dX5_row_27 ic_1 rfl ?_
      rcases kif_ex h with ⟨hc, h⟩ | ⟨hc, h⟩
      · refine kV_icmp_lt_t 46 dX5_row_28 (by decide) hc ?_
        clear hc
        refine kV_drop [false, false, false, false, false] rfl ?_
        exact TX5_row_J46 hG h
      · refine kV_icmp_lt_f 46 31 dX5_row_28 (by decide) hc rfl ?_
        clear hc
        refine kV_iloadn 32 dX5_row_31 rfl rfl ?_
        refine kV_bipush 34 dX5_row_32 bp_9 rfl ?_
        rcases kif_ex h with ⟨hc, h⟩ | ⟨hc, h⟩
        · refine kV_icmp_gt_t 46 dX5_row_34 (by decide) hc ?_
          clear hc
          refine kV_drop [false, false, false, false, false] rfl ?_
          exact TX5_row_J46 hG h
        · refine kV_icmp_gt_f 46 37 dX5_row_34 (by decide) hc rfl ?_
          clear hc
          refine kV_iloadn 38 dX5_row_37 rfl rfl ?_
          rcases kif_ex h with ⟨hc, h⟩ | ⟨hc, h⟩
          · refine kV_if_lt_t 46 dX5_row_38 (by decide) hc ?_
            clear hc
            refine kV_drop [false, false, false, false, false] rfl ?_
            exact TX5_row_J46 hG h
          · refine kV_if_lt_f 46 41 dX5_row_38 (by decide) hc rfl ?_
            clear hc
            refine kV_iloadn 42 dX5_row_41 rfl rfl ?_
            refine kV_iconst 43 dX5_row_42 ic_2 rfl ?_
            rcases kif_ex h with ⟨hc, h⟩ | ⟨hc, h⟩
            · refine kV_icmp_le_t 49 dX5_row_43 (by decide) hc ?_
              clear hc
              refine kV_aloadn 50 dX5_row_49 rfl rfl ?_
              refine rg5_22 53 dX5_row_50 (kOk_of hG rfl) rfl ?_
              refine kV_aload 55 dX5_row_53 rfl rfl ?_
              obtain ⟨x2, hx, h⟩ := kbi_ex h
              refine kC_V 58 [] [.int x2] dX5_row_55 (okX4_itemsNameWorked hG d ho_w_1 hx) kmvX4_itemsNameWorked (wi_r12 _ (List.mem_of_getElem? (i := 19) rfl)) (kOk_of hG rfl) rfl rfl rfl rfl rfl rfl ?_
              clear hx
              rcases kif_ex h with ⟨hc, h⟩ | ⟨hc, h⟩
              · refine kV_if_ne_f 75 61 dX5_row_58 (by decide) hc rfl ?_
                clear hc
                refine kV_iloadn 62 dX5_row_61 rfl rfl ?_
                rcases kif_ex h with ⟨hc, h⟩ | ⟨hc, h⟩
                · refine kV_if_eq_t 78 dX5_row_62 (by decide) hc ?_
                  clear hc
                  refine kV_drop [true, true, true, true, false] rfl ?_
                  exact TX5_row_J78 hG h
                · refine kV_if_eq_f 78 65 dX5_row_62 (by decide) hc rfl ?_
                  clear hc
                  refine kV_aloadn 66 dX5_row_65 rfl rfl ?_
                  refine rg5_22 69 dX5_row_66 (kOk_of hG rfl) rfl ?_
                  obtain ⟨x3, hx, h⟩ := kbi_ex h
                  refine kC_V 72 [] [.int x3] dX5_row_69 (okX4_itemsNamePlace hG (d + 2)  hx) kmvX4_itemsNamePlace (wi_r13 _ (List.mem_of_getElem? (i := 0) rfl)) (kOk_of hG rfl) rfl rfl rfl rfl rfl rfl ?_
                  clear hx
                  rcases kif_ex h with ⟨hc, h⟩ | ⟨hc, h⟩
                  · refine kV_if_eq_t 78 dX5_row_72 (by decide) hc ?_
                    clear hc
                    refine kV_drop [true, true, true, true, false] rfl ?_
                    exact TX5_row_J78 hG h
                  · refine kV_if_eq_f 78 75 dX5_row_72 (by decide) hc rfl ?_
                    clear hc
                    refine kV_drop [false, false, false, false, false] rfl ?_
                    exact TX5_row_J75 hG h
              · refine kV_if_ne_t 75 dX5_row_58 (by decide) hc ?_
                clear hc
                refine kV_drop [false, false, false, false, false] rfl ?_
                exact TX5_row_J75 hG h
            · refine kV_icmp_le_f 49 46 dX5_row_43 (by decide) hc rfl ?_
              clear hc
              refine kV_drop [false, false, false, false, false] rfl ?_
              exact TX5_row_J46 hG h
    · refine kV_if_eq_f 26 24 dX5_row_21 (by decide) hc rfl ?_
      clear hc
      refine kV_drop [false, false, false, false, false] rfl ?_
      exact TX5_row_J24 hG h
abbrev mX5_forgetConfirm : kM := (yX5_forgetConfirm, cX5_forgetConfirm, 1, none)
theorem kmvX5_forgetConfirm : kMv mX5_forgetConfirm 0 5 := ⟨⟨(wi_r14 _ (List.mem_of_getElem? (i := 8) rfl)), (wi_r1 _ (List.mem_of_getElem? (i := 2) rfl)), ⟨by decide +kernel, by decide +kernel, by decide +kernel⟩, by decide⟩, (wi_r14 _ (List.mem_of_getElem? (i := 6) rfl)), (wi_r14 _ (List.mem_of_getElem? (i := 7) rfl)), rfl⟩
def FX5_forgetConfirm (S : kS) : Option (kS) :=
  kb (kpI S 0 12 (-1 : Int32)) fun S1 => kb (kpI S1 0 13 (-1 : Int32)) fun S2 => some S2
theorem okX5_forgetConfirm {l : Launch} {G : kG} {n : Nat} (hG : kg_N G = 55 + 14 * n) (d : Nat) {S : kS} {res : kS} (h : FX5_forgetConfirm S = some res) : kEv l G (d + 0) mX5_forgetConfirm [.ref (kg_ad G (kbo 0))] (kgl G n S) none (kgl G n res) := by
  refine kEv_of RX5 [some (.ref (kg_ad G (kbo 0)))] rfl (by decide +kernel) rfl rfl rfl rfl (fun X hX => ?_)
  subst hX
  unfold FX5_forgetConfirm at h
  refine kV_aloadn 1 dX5_forgetConfirm_0 rfl rfl ?_
  refine kV_iconst 2 dX5_forgetConfirm_1 ic_m1 rfl ?_
  obtain ⟨S1, hx, h⟩ := kb_ex h
  refine rp5_66 5 dX5_forgetConfirm_2 (kOk_of hG rfl) rfl hx rfl ?_
  clear hx
  refine kV_aloadn 6 dX5_forgetConfirm_5 rfl rfl ?_
  refine kV_iconst 7 dX5_forgetConfirm_6 ic_m1 rfl ?_
  obtain ⟨S2, hx, h⟩ := kb_ex h
  refine rp5_69 10 dX5_forgetConfirm_7 (kOk_of hG rfl) rfl hx rfl ?_
  clear hx
  cases h
  exact kV_vret dX5_forgetConfirm_10
abbrev mX5_turnPage : kM := (yX5_turnPage, cX5_turnPage, 1, none)
theorem kmvX5_turnPage : kMv mX5_turnPage 0 5 := ⟨⟨(wi_r14 _ (List.mem_of_getElem? (i := 0) rfl)), (wi_r1 _ (List.mem_of_getElem? (i := 2) rfl)), ⟨by decide +kernel, by decide +kernel, by decide +kernel⟩, by decide⟩, (wi_r13 _ (List.mem_of_getElem? (i := 22) rfl)), (wi_r13 _ (List.mem_of_getElem? (i := 23) rfl)), rfl⟩
def FX5_turnPage (S : kS) : Option (kS) :=
  (FX1_clear S).bind fun S1 => (FX5_forgetConfirm S1).bind fun S2 => some S2
theorem okX5_turnPage {l : Launch} {G : kG} {n : Nat} (hG : kg_N G = 55 + 14 * n) (d : Nat) {S : kS} {res : kS} (h : FX5_turnPage S = some res) : kEv l G (d + 1) mX5_turnPage [.ref (kg_ad G (kbo 0))] (kgl G n S) none (kgl G n res) := by
  refine kEv_of RX5 [some (.ref (kg_ad G (kbo 0)))] rfl (by decide +kernel) rfl rfl rfl rfl (fun X hX => ?_)
  subst hX
  unfold FX5_turnPage at h
  refine kV_aloadn 1 dX5_turnPage_0 rfl rfl ?_
  refine rg5_56 4 dX5_turnPage_1 (kOk_of hG rfl) rfl ?_
  obtain ⟨S1, hx, h⟩ := kbi_ex h
  refine kC_V 7 [] [] dX5_turnPage_4 (okX1_clear hG d  hx) kmvX1_clear (wi_r14 _ (List.mem_of_getElem? (i := 1) rfl)) (kOk_of hG rfl) rfl rfl rfl rfl rfl rfl ?_
  clear hx
  refine kV_aloadn 8 dX5_turnPage_7 rfl rfl ?_
  obtain ⟨S2, hx, h⟩ := kbi_ex h
  refine kC_V 11 [] [] dX5_turnPage_8 (okX5_forgetConfirm hG d  hx) kmvX5_forgetConfirm (wi_r14 _ (List.mem_of_getElem? (i := 5) rfl)) (kOk_of hG rfl) rfl rfl rfl rfl rfl rfl ?_
  clear hx
  cases h
  exact kV_vret dX5_turnPage_11
abbrev mX5_open : kM := (yX5_open, cX5_open, 3, (some .int))
theorem kmvX5_open : kMv mX5_open 1 5 := ⟨⟨(wi_r13 _ (List.mem_of_getElem? (i := 16) rfl)), (wi_r1 _ (List.mem_of_getElem? (i := 2) rfl)), ⟨by decide +kernel, by decide +kernel, by decide +kernel⟩, by decide⟩, (wi_r13 _ (List.mem_of_getElem? (i := 14) rfl)), (wi_r13 _ (List.mem_of_getElem? (i := 15) rfl)), rfl⟩
def FX5_open_J28 (n : Nat) (S : kS) : Option (Int32 × kS) :=
  some ((-3 : Int32), S)
def FX5_open (n : Nat) (S : kS) (a1 : Int32) : Option (Int32 × kS) :=
  (FX5_formAt n S a1).bind fun z1 => kopt z1 (some ((-1 : Int32), S)) (fun w_1 => kgd (kfm n w_1) <| (FX5_isInTalk S a1).bind fun x1 => if x1 = 0 then (kb (kI S 0 4) fun x2 => if x2 < (3 : Int32) then ((FX0_empty w_1 S).bind fun S1 => kb (kI S1 0 4) fun x3 => kgd (kin x3 3) <| kb (kpA S1 0 3 x3 a1) fun S2 => kb (kI S2 0 4) fun x4 => kb (kpI S2 0 4 (x4 + (1 : Int32))) fun S3 => (FX5_turnPage S3).bind fun S4 => kb (kI S4 0 4) fun x5 => some (x5, S4)) else (FX5_open_J28 n S)) else (FX5_open_J28 n S))
theorem TX5_open_J28 {G : kG} {n : Nat} {d : Nat} {X : kX} (hG : kg_N G = 55 + 14 * n) {S : kS} {res : Int32 × kS} (h : FX5_open_J28 n S = some res) : kV (X, RX5, 3, (some .int), G, krm (d + 2), (0, 0), kQ X G (some (.int res.1)) (kgl G n res.2)) cX5_open (kgl G n S) [none, none, none] [] 28 := by
  unfold FX5_open_J28 at h
  refine kV_bipush 30 dX5_open_28 bp_m3 rfl ?_
  cases h
  exact kV_iret dX5_open_30
theorem okX5_open {l : Launch} {G : kG} {n : Nat} (hG : kg_N G = 55 + 14 * n) (d : Nat) {S : kS} {a1 : Int32} {res : Int32 × kS} (h : FX5_open n S a1 = some res) : kEv l G (d + 2) mX5_open [.ref (kg_ad G (kbo 0)), .int a1] (kgl G n S) (some (.int res.1)) (kgl G n res.2) := by
  refine kEv_of RX5 [some (.ref (kg_ad G (kbo 0))), some (.int a1), none] rfl (by decide +kernel) rfl rfl rfl rfl (fun X hX => ?_)
  subst hX
  unfold FX5_open at h
  refine kV_aloadn 1 dX5_open_0 rfl rfl ?_
  refine kV_iloadn 2 dX5_open_1 rfl rfl ?_
  obtain ⟨z1, hx, h⟩ := kbi_ex h
  refine kC_V 5 [] [kvo G z1] dX5_open_2 (okX5_formAt hG (d + 1)  hx) kmvX5_formAt (wi_r7 _ (List.mem_of_getElem? (i := 7) rfl)) (kOk_of hG rfl) rfl rfl rfl rfl rfl rfl ?_
  clear hx
  refine kV_astoreno 6 [some (.ref (kg_ad G (kbo 0))), some (.int a1), some (kvo G z1)] dX5_open_5 rfl rfl rfl ?_
  refine kV_aloadno 7 dX5_open_6 rfl rfl ?_
  rcases kopt_ex h with ⟨hv, h⟩ | ⟨w_1, hv, h⟩
  · subst hv
    show kV _ _ _ [some (.ref (kg_ad G (kbo 0))), some (.int a1), some (.null)] (.null :: []) _
    refine kV_ifnonnullN 10 dX5_open_7 rfl ?_
    refine kV_iconst 11 dX5_open_10 ic_m1 rfl ?_
    cases h
    exact kV_iret dX5_open_11
  · subst hv
    show kV _ _ _ [some (.ref (kg_ad G (kbo 0))), some (.int a1), some (.ref (kg_ad G (kbo w_1)))] (.ref (kg_ad G (kbo w_1)) :: []) _
    obtain ⟨ho_w_1, h⟩ := kgd_ex h
    have hO_w_1 := kOk_fm hG ho_w_1
    have hc_w_1 := kci_fm ho_w_1
    refine kV_ifnonnull 12 dX5_open_7 (by decide) ?_
    refine kV_aloadn 13 dX5_open_12 rfl rfl ?_
    refine kV_iloadn 14 dX5_open_13 rfl rfl ?_
    obtain ⟨x1, hx, h⟩ := kbi_ex h
    refine kC_V 17 [] [.int x1] dX5_open_14 (okX5_isInTalk hG (d + 1)  hx) kmvX5_isInTalk (wi_r7 _ (List.mem_of_getElem? (i := 14) rfl)) (kOk_of hG rfl) rfl rfl rfl rfl rfl rfl ?_
    clear hx
    rcases kif_ex h with ⟨hc, h⟩ | ⟨hc, h⟩
    · refine kV_if_ne_f 28 20 dX5_open_17 (by decide) hc rfl ?_
      clear hc
      refine kV_aloadn 21 dX5_open_20 rfl rfl ?_
      obtain ⟨x2, hx, h⟩ := kb_ex h
      refine rg5_30 24 dX5_open_21 (kOk_of hG rfl) rfl hx rfl ?_
      clear hx
      refine kV_iconst 25 dX5_open_24 ic_3 rfl ?_
      rcases kif_ex h with ⟨hc, h⟩ | ⟨hc, h⟩
      · refine kV_icmp_lt_t 31 dX5_open_25 (by decide) hc ?_
        clear hc
        refine kV_aloadn 32 dX5_open_31 rfl rfl ?_
        obtain ⟨S1, hx, h⟩ := kbi_ex h
        refine kC_V 35 [] [] dX5_open_32 (okX0_empty hG d ho_w_1 hx) kmvX0_empty (wi_r13 _ (List.mem_of_getElem? (i := 17) rfl)) hO_w_1 hc_w_1 rfl rfl rfl rfl rfl ?_
        clear hx
        refine kV_aloadn 36 dX5_open_35 rfl rfl ?_
        refine rg5_26 39 dX5_open_36 (kOk_of hG rfl) rfl rfl ?_
        refine kV_aloadn 40 dX5_open_39 rfl rfl ?_
        obtain ⟨x3, hx, h⟩ := kb_ex h
        refine rg5_30 43 dX5_open_40 (kOk_of hG rfl) rfl hx rfl ?_
        clear hx
        refine kV_iloadn 44 dX5_open_43 rfl rfl ?_
        obtain ⟨hi, h⟩ := kgd_ex h
        obtain ⟨S2, hx, h⟩ := kb_ex h
        refine rs5_3 45 dX5_open_44 (kOk_of hG rfl) rfl hi hx rfl ?_
        clear hi hx
        refine kV_aloadn 46 dX5_open_45 rfl rfl ?_
        refine kV_dup 47 dX5_open_46 rfl rfl ?_
        obtain ⟨x4, hx, h⟩ := kb_ex h
        refine rg5_30 50 dX5_open_47 (kOk_of hG rfl) rfl hx rfl ?_
        clear hx
        refine kV_iconst 51 dX5_open_50 ic_1 rfl ?_
        refine kV_iadd 52 dX5_open_51 rfl ?_
        obtain ⟨S3, hx, h⟩ := kb_ex h
        refine rp5_30 55 dX5_open_52 (kOk_of hG rfl) rfl hx rfl ?_
        clear hx
        refine kV_aloadn 56 dX5_open_55 rfl rfl ?_
        obtain ⟨S4, hx, h⟩ := kbi_ex h
        refine kC_V 59 [] [] dX5_open_56 (okX5_turnPage hG d  hx) kmvX5_turnPage (wi_r13 _ (List.mem_of_getElem? (i := 21) rfl)) (kOk_of hG rfl) rfl rfl rfl rfl rfl rfl ?_
        clear hx
        refine kV_aloadn 60 dX5_open_59 rfl rfl ?_
        obtain ⟨x5, hx, h⟩ := kb_ex h
        refine rg5_30 63 dX5_open_60 (kOk_of hG rfl) rfl hx rfl ?_
        clear hx
        cases h
        exact kV_iret dX5_open_63
      · refine kV_icmp_lt_f 31 28 dX5_open_25 (by decide) hc rfl ?_
        clear hc
        refine kV_drop [false, false, false] rfl ?_
        exact TX5_open_J28 hG h
    · refine kV_if_ne_t 28 dX5_open_17 (by decide) hc ?_
      clear hc
      refine kV_drop [false, false, false] rfl ?_
      exact TX5_open_J28 hG h
abbrev mX5_close : kM := (yX5_close, cX5_close, 1, (some .int))
theorem kmvX5_close : kMv mX5_close 0 5 := ⟨⟨(wi_r14 _ (List.mem_of_getElem? (i := 17) rfl)), (wi_r1 _ (List.mem_of_getElem? (i := 2) rfl)), ⟨by decide +kernel, by decide +kernel, by decide +kernel⟩, by decide⟩, (wi_r14 _ (List.mem_of_getElem? (i := 15) rfl)), (wi_r14 _ (List.mem_of_getElem? (i := 16) rfl)), rfl⟩
def FX5_close (S : kS) : Option (Int32 × kS) :=
  kb (kI S 0 4) fun x1 => if 0 < x1 then (kb (kI S 0 4) fun x2 => kb (kpI S 0 4 (x2 - (1 : Int32))) fun S1 => (FX5_turnPage S1).bind fun S2 => kb (kI S2 0 4) fun x3 => kgd (kin x3 3) <| kb (kA S2 0 3 x3) fun x4 => some (x4, S2)) else (some ((-3 : Int32), S))
theorem okX5_close {l : Launch} {G : kG} {n : Nat} (hG : kg_N G = 55 + 14 * n) (d : Nat) {S : kS} {res : Int32 × kS} (h : FX5_close S = some res) : kEv l G (d + 2) mX5_close [.ref (kg_ad G (kbo 0))] (kgl G n S) (some (.int res.1)) (kgl G n res.2) := by
  refine kEv_of RX5 [some (.ref (kg_ad G (kbo 0)))] rfl (by decide +kernel) rfl rfl rfl rfl (fun X hX => ?_)
  subst hX
  unfold FX5_close at h
  refine kV_aloadn 1 dX5_close_0 rfl rfl ?_
  obtain ⟨x1, hx, h⟩ := kb_ex h
  refine rg5_30 4 dX5_close_1 (kOk_of hG rfl) rfl hx rfl ?_
  clear hx
  rcases kif_ex h with ⟨hc, h⟩ | ⟨hc, h⟩
  · refine kV_if_gt_t 10 dX5_close_4 (by decide) hc ?_
    clear hc
    refine kV_aloadn 11 dX5_close_10 rfl rfl ?_
    refine kV_dup 12 dX5_close_11 rfl rfl ?_
    obtain ⟨x2, hx, h⟩ := kb_ex h
    refine rg5_30 15 dX5_close_12 (kOk_of hG rfl) rfl hx rfl ?_
    clear hx
    refine kV_iconst 16 dX5_close_15 ic_1 rfl ?_
    refine kV_isub 17 dX5_close_16 rfl ?_
    obtain ⟨S1, hx, h⟩ := kb_ex h
    refine rp5_30 20 dX5_close_17 (kOk_of hG rfl) rfl hx rfl ?_
    clear hx
    refine kV_aloadn 21 dX5_close_20 rfl rfl ?_
    obtain ⟨S2, hx, h⟩ := kbi_ex h
    refine kC_V 24 [] [] dX5_close_21 (okX5_turnPage hG d  hx) kmvX5_turnPage (wi_r13 _ (List.mem_of_getElem? (i := 21) rfl)) (kOk_of hG rfl) rfl rfl rfl rfl rfl rfl ?_
    clear hx
    refine kV_aloadn 25 dX5_close_24 rfl rfl ?_
    refine rg5_26 28 dX5_close_25 (kOk_of hG rfl) rfl rfl ?_
    refine kV_aloadn 29 dX5_close_28 rfl rfl ?_
    obtain ⟨x3, hx, h⟩ := kb_ex h
    refine rg5_30 32 dX5_close_29 (kOk_of hG rfl) rfl hx rfl ?_
    clear hx
    obtain ⟨hi, h⟩ := kgd_ex h
    obtain ⟨x4, hx, h⟩ := kb_ex h
    refine rl5_3 33 dX5_close_32 (kOk_of hG rfl) rfl hi hx rfl ?_
    clear hi hx
    cases h
    exact kV_iret dX5_close_33
  · refine kV_if_gt_f 10 7 dX5_close_4 (by decide) hc rfl ?_
    clear hc
    refine kV_bipush 9 dX5_close_7 bp_m3 rfl ?_
    cases h
    exact kV_iret dX5_close_9
abbrev mX5_say : kM := (yX5_say, cX5_say, 2, (some .int))
theorem kmvX5_say : kMv mX5_say 1 5 := ⟨⟨(wi_r15 _ (List.mem_of_getElem? (i := 1) rfl)), (wi_r1 _ (List.mem_of_getElem? (i := 2) rfl)), ⟨by decide +kernel, by decide +kernel, by decide +kernel⟩, by decide⟩, (wi_r14 _ (List.mem_of_getElem? (i := 23) rfl)), (wi_r15 _ (List.mem_of_getElem? (i := 0) rfl)), rfl⟩
def FX5_say (S : kS) (a1 : Int32) : Option (Int32 × kS) :=
  (FX5_isWord S a1).bind fun x1 => if x1 = 0 then (some ((-1 : Int32), S)) else (kb (kI S 0 6) fun x2 => if x2 < (8 : Int32) then (kb (kI S 0 6) fun x3 => kgd (kin x3 8) <| kb (kpA S 0 5 x3 a1) fun S1 => kb (kI S1 0 6) fun x4 => kb (kpI S1 0 6 (x4 + (1 : Int32))) fun S2 => kb (kI S2 0 6) fun x5 => some (x5, S2)) else (some ((-4 : Int32), S)))
theorem okX5_say {l : Launch} {G : kG} {n : Nat} (hG : kg_N G = 55 + 14 * n) (d : Nat) {S : kS} {a1 : Int32} {res : Int32 × kS} (h : FX5_say S a1 = some res) : kEv l G (d + 1) mX5_say [.ref (kg_ad G (kbo 0)), .int a1] (kgl G n S) (some (.int res.1)) (kgl G n res.2) := by
  refine kEv_of RX5 [some (.ref (kg_ad G (kbo 0))), some (.int a1)] rfl (by decide +kernel) rfl rfl rfl rfl (fun X hX => ?_)
  subst hX
  unfold FX5_say at h
  refine kV_iloadn 1 dX5_say_0 rfl rfl ?_
  obtain ⟨x1, hx, h⟩ := kbi_ex h
  refine kC_S 4 [] [.int x1] dX5_say_1 (okX5_isWord hG d  hx) kmtX5_isWord (wi_r11 _ (List.mem_of_getElem? (i := 3) rfl)) rfl rfl rfl rfl rfl ?_
  clear hx
  rcases kif_ex h with ⟨hc, h⟩ | ⟨hc, h⟩
  · refine kV_if_ne_f 9 7 dX5_say_4 (by decide) hc rfl ?_
    clear hc
    refine kV_iconst 8 dX5_say_7 ic_m1 rfl ?_
    cases h
    exact kV_iret dX5_say_8
  · refine kV_if_ne_t 9 dX5_say_4 (by decide) hc ?_
    clear hc
    refine kV_aloadn 10 dX5_say_9 rfl rfl ?_
    obtain ⟨x2, hx, h⟩ := kb_ex h
    refine rg5_36 13 dX5_say_10 (kOk_of hG rfl) rfl hx rfl ?_
    clear hx
    refine kV_bipush 15 dX5_say_13 bp_8 rfl ?_
    rcases kif_ex h with ⟨hc, h⟩ | ⟨hc, h⟩
    · refine kV_icmp_lt_t 21 dX5_say_15 (by decide) hc ?_
      clear hc
      refine kV_aloadn 22 dX5_say_21 rfl rfl ?_
      refine rg5_33 25 dX5_say_22 (kOk_of hG rfl) rfl rfl ?_
      refine kV_aloadn 26 dX5_say_25 rfl rfl ?_
      obtain ⟨x3, hx, h⟩ := kb_ex h
      refine rg5_36 29 dX5_say_26 (kOk_of hG rfl) rfl hx rfl ?_
      clear hx
      refine kV_iloadn 30 dX5_say_29 rfl rfl ?_
      obtain ⟨hi, h⟩ := kgd_ex h
      obtain ⟨S1, hx, h⟩ := kb_ex h
      refine rs5_5 31 dX5_say_30 (kOk_of hG rfl) rfl hi hx rfl ?_
      clear hi hx
      refine kV_aloadn 32 dX5_say_31 rfl rfl ?_
      refine kV_dup 33 dX5_say_32 rfl rfl ?_
      obtain ⟨x4, hx, h⟩ := kb_ex h
      refine rg5_36 36 dX5_say_33 (kOk_of hG rfl) rfl hx rfl ?_
      clear hx
      refine kV_iconst 37 dX5_say_36 ic_1 rfl ?_
      refine kV_iadd 38 dX5_say_37 rfl ?_
      obtain ⟨S2, hx, h⟩ := kb_ex h
      refine rp5_36 41 dX5_say_38 (kOk_of hG rfl) rfl hx rfl ?_
      clear hx
      refine kV_aloadn 42 dX5_say_41 rfl rfl ?_
      obtain ⟨x5, hx, h⟩ := kb_ex h
      refine rg5_36 45 dX5_say_42 (kOk_of hG rfl) rfl hx rfl ?_
      clear hx
      cases h
      exact kV_iret dX5_say_45
    · refine kV_icmp_lt_f 21 18 dX5_say_15 (by decide) hc rfl ?_
      clear hc
      refine kV_bipush 20 dX5_say_18 bp_m4 rfl ?_
      cases h
      exact kV_iret dX5_say_20
abbrev mX5_onlyValue : kM := (yX5_onlyValue, cX5_onlyValue, 2, (some .int))
theorem kmtX5_onlyValue : kMt mX5_onlyValue 1 := ⟨⟨(wi_r22 _ (List.mem_of_getElem? (i := 8) rfl)), (wi_r1 _ (List.mem_of_getElem? (i := 2) rfl)), ⟨by decide +kernel, by decide +kernel, by decide +kernel⟩, by decide⟩, (wi_r22 _ (List.mem_of_getElem? (i := 7) rfl))⟩
def FX5_onlyValue_B2 (c2 : Int32 × Int32 → Option (Int32)) (S : kS) (v0 : Int32) (v1 : Int32) : Option (Int32) :=
  if (4 : Int32) ≤ v1 then (some (-1 : Int32)) else (if v0 = ((1 : Int32) <<< (v1 &&& 31)) then (some v1) else (c2 (v0, (v1 + (1 : Int32)))))
def FX5_onlyValue_L2 (S : kS) (v0 : Int32) (v1 : Int32) : Option (Int32) :=
  kfix (fun rec (q : Int32 × Int32) => FX5_onlyValue_B2 rec S q.1 q.2) kfuel (v0, v1)
def FX5_onlyValue (S : kS) (a1 : Int32) : Option (Int32) :=
  FX5_onlyValue_L2 S a1 (0 : Int32)
theorem TX5_onlyValue_B2 {G : kG} {n : Nat} {d : Nat} {X : kX} (hG : kg_N G = 55 + 14 * n) {S : kS} {c2 : Int32 × Int32 → Option (Int32)} (hc2 : ∀ (q : Int32 × Int32) (res : Int32), c2 q = some res → kV (X, RX5, 2, (some .int), G, krm (d + 0), (0, 0), kQ X G (some (.int res)) (kgl G n S)) cX5_onlyValue (kgl G n S) [some (.int (q.1)), some (.int (q.2))] [] 2) {v0 : Int32} {v1 : Int32} {res : Int32} (h : FX5_onlyValue_B2 c2 S v0 v1 = some res) : kV (X, RX5, 2, (some .int), G, krm (d + 0), (0, 0), kQ X G (some (.int res)) (kgl G n S)) cX5_onlyValue (kgl G n S) [some (.int v0), some (.int v1)] [] 2 := by
  unfold FX5_onlyValue_B2 at h
  refine kV_iloadn 3 dX5_onlyValue_2 rfl rfl ?_
  refine kV_iconst 4 dX5_onlyValue_3 ic_4 rfl ?_
  rcases kif_ex h with ⟨hc, h⟩ | ⟨hc, h⟩
  · refine kV_icmp_ge_t 22 dX5_onlyValue_4 (by decide) hc ?_
    clear hc
    refine kV_iconst 23 dX5_onlyValue_22 ic_m1 rfl ?_
    cases h
    exact kV_iret dX5_onlyValue_23
  · refine kV_icmp_ge_f 22 7 dX5_onlyValue_4 (by decide) hc rfl ?_
    clear hc
    refine kV_iloadn 8 dX5_onlyValue_7 rfl rfl ?_
    refine kV_iconst 9 dX5_onlyValue_8 ic_1 rfl ?_
    refine kV_iloadn 10 dX5_onlyValue_9 rfl rfl ?_
    refine kV_ishl 11 dX5_onlyValue_10 rfl ?_
    rcases kif_ex h with ⟨hc, h⟩ | ⟨hc, h⟩
    · refine kV_icmp_ne_f 16 14 dX5_onlyValue_11 (by decide) hc rfl ?_
      clear hc
      refine kV_iloadn 15 dX5_onlyValue_14 rfl rfl ?_
      cases h
      exact kV_iret dX5_onlyValue_15
    · refine kV_icmp_ne_t 16 dX5_onlyValue_11 (by decide) hc ?_
      clear hc
      refine kV_iinc 19 [some (.int v0), some (.int (v1 + (1 : Int32)))] dX5_onlyValue_16 rfl (kinc_1 _) rfl rfl rfl ?_
      refine kV_goto 2 dX5_onlyValue_19 (by decide) ?_
      refine kV_drop [true, true] rfl ?_
      exact hc2 _ _ h
theorem TX5_onlyValue_L2 {G : kG} {n : Nat} {d : Nat} {X : kX} (hG : kg_N G = 55 + 14 * n) {S : kS} {v0 : Int32} {v1 : Int32} {res : Int32} (h : FX5_onlyValue_L2 S v0 v1 = some res) : kV (X, RX5, 2, (some .int), G, krm (d + 0), (0, 0), kQ X G (some (.int res)) (kgl G n S)) cX5_onlyValue (kgl G n S) [some (.int v0), some (.int v1)] [] 2 := by
  unfold FX5_onlyValue_L2 at h
  exact kfix_ok (P := fun (q : Int32 × Int32) (res : Int32) => kV (X, RX5, 2, (some .int), G, krm (d + 0), (0, 0), kQ X G (some (.int res)) (kgl G n S)) cX5_onlyValue (kgl G n S) [some (.int (q.1)), some (.int (q.2))] [] 2) (fun rec hrec q res hq => TX5_onlyValue_B2 hG hrec hq) kfuel _ _ h
theorem okX5_onlyValue {l : Launch} {G : kG} {n : Nat} (hG : kg_N G = 55 + 14 * n) (d : Nat) {S : kS} {a1 : Int32} {res : Int32} (h : FX5_onlyValue S a1 = some res) : kEv l G (d + 0) mX5_onlyValue [.int a1] (kgl G n S) (some (.int res)) (kgl G n S) := by
  refine kEv_of RX5 [some (.int a1), none] rfl (by decide +kernel) rfl rfl rfl rfl (fun X hX => ?_)
  subst hX
  unfold FX5_onlyValue at h
  refine kV_iconst 1 dX5_onlyValue_0 ic_0 rfl ?_
  refine kV_istoren 2 [some (.int a1), some (.int (0 : Int32))] dX5_onlyValue_1 rfl rfl rfl ?_
  refine kV_drop [true, true] rfl ?_
  exact TX5_onlyValue_L2 hG h
abbrev mX5_fillPlace : kM := (yX5_fillPlace, cX5_fillPlace, 4, (some .int))
theorem kmvX5_fillPlace : kMv mX5_fillPlace 2 5 := ⟨⟨(wi_r20 _ (List.mem_of_getElem? (i := 23) rfl)), (wi_r1 _ (List.mem_of_getElem? (i := 2) rfl)), ⟨by decide +kernel, by decide +kernel, by decide +kernel⟩, by decide⟩, (wi_r20 _ (List.mem_of_getElem? (i := 21) rfl)), (wi_r20 _ (List.mem_of_getElem? (i := 22) rfl)), rfl⟩
def FX5_fillPlace_J21 (o1 : Nat) (S : kS) : Option (Int32 × kS) :=
  some ((-1 : Int32), S)
def FX5_fillPlace (o1 : Nat) (S : kS) (a2 : Int32) : Option (Int32 × kS) :=
  (FX3_valuesFor S a2).bind fun x1 => (FX0_isWorked o1 S a2).bind fun x2 => if x2 = 0 then (if x1 = 0 then (FX5_fillPlace_J21 o1 S) else ((FX3_mayLeave S a2).bind fun x3 => if x3 = 0 then ((FX5_onlyValue S x1).bind fun x4 => kb2 (FX0_settle o1 S a2 x1 x4) fun x5 S1 => some (x5, S1)) else ((FX0_setOf o1 S a2).bind fun x6 => kb2 (FX0_settle o1 S a2 (x1 ||| x6) (-1 : Int32)) fun x7 S2 => some (x7, S2)))) else (FX5_fillPlace_J21 o1 S)
theorem TX5_fillPlace_J21 {G : kG} {n : Nat} {d : Nat} {X : kX} (hG : kg_N G = 55 + 14 * n) {o1 : Nat} (ho_o1 : kfm n o1 = true) {S : kS} {res : Int32 × kS} (h : FX5_fillPlace_J21 o1 S = some res) : kV (X, RX5, 4, (some .int), G, krm (d + 4), (0, 0), kQ X G (some (.int res.1)) (kgl G n res.2)) cX5_fillPlace (kgl G n S) [none, none, none, none] [] 21 := by
  have hO_o1 := kOk_fm hG ho_o1
  have hc_o1 := kci_fm ho_o1
  unfold FX5_fillPlace_J21 at h
  refine kV_iconst 22 dX5_fillPlace_21 ic_m1 rfl ?_
  cases h
  exact kV_iret dX5_fillPlace_22
theorem okX5_fillPlace {l : Launch} {G : kG} {n : Nat} (hG : kg_N G = 55 + 14 * n) (d : Nat) {o1 : Nat} (ho_o1 : kfm n o1 = true) {S : kS} {a2 : Int32} {res : Int32 × kS} (h : FX5_fillPlace o1 S a2 = some res) : kEv l G (d + 4) mX5_fillPlace [.ref (kg_ad G (kbo 0)), .ref (kg_ad G (kbo o1)), .int a2] (kgl G n S) (some (.int res.1)) (kgl G n res.2) := by
  refine kEv_of RX5 [some (.ref (kg_ad G (kbo 0))), some (.ref (kg_ad G (kbo o1))), some (.int a2), none] rfl (by decide +kernel) rfl rfl rfl rfl (fun X hX => ?_)
  subst hX
  have hO_o1 := kOk_fm hG ho_o1
  have hc_o1 := kci_fm ho_o1
  unfold FX5_fillPlace at h
  refine kV_aloadn 1 dX5_fillPlace_0 rfl rfl ?_
  refine rg5_42 4 dX5_fillPlace_1 (kOk_of hG rfl) rfl ?_
  refine kV_iloadn 5 dX5_fillPlace_4 rfl rfl ?_
  obtain ⟨x1, hx, h⟩ := kbi_ex h
  refine kC_V 8 [] [.int x1] dX5_fillPlace_5 (okX3_valuesFor hG (d + 3)  hx) kmvX3_valuesFor (wi_r21 _ (List.mem_of_getElem? (i := 0) rfl)) (kOk_of hG rfl) rfl rfl rfl rfl rfl rfl ?_
  clear hx
  refine kV_istoren 9 [some (.ref (kg_ad G (kbo 0))), some (.ref (kg_ad G (kbo o1))), some (.int a2), some (.int x1)] dX5_fillPlace_8 rfl rfl rfl ?_
  refine kV_aloadn 10 dX5_fillPlace_9 rfl rfl ?_
  refine kV_iloadn 11 dX5_fillPlace_10 rfl rfl ?_
  obtain ⟨x2, hx, h⟩ := kbi_ex h
  refine kC_V 14 [] [.int x2] dX5_fillPlace_11 (okX0_isWorked hG (d + 2) ho_o1 hx) kmvX0_isWorked (wi_r9 _ (List.mem_of_getElem? (i := 2) rfl)) hO_o1 hc_o1 rfl rfl rfl rfl rfl ?_
  clear hx
  rcases kif_ex h with ⟨hc, h⟩ | ⟨hc, h⟩
  · refine kV_if_ne_f 21 17 dX5_fillPlace_14 (by decide) hc rfl ?_
    clear hc
    refine kV_iloadn 18 dX5_fillPlace_17 rfl rfl ?_
    rcases kif_ex h with ⟨hc, h⟩ | ⟨hc, h⟩
    · refine kV_if_ne_f 23 21 dX5_fillPlace_18 (by decide) hc rfl ?_
      clear hc
      refine kV_drop [false, false, false, false] rfl ?_
      exact TX5_fillPlace_J21 hG ho_o1 h
    · refine kV_if_ne_t 23 dX5_fillPlace_18 (by decide) hc ?_
      clear hc
      refine kV_aloadn 24 dX5_fillPlace_23 rfl rfl ?_
      refine rg5_42 27 dX5_fillPlace_24 (kOk_of hG rfl) rfl ?_
      refine kV_iloadn 28 dX5_fillPlace_27 rfl rfl ?_
      obtain ⟨x3, hx, h⟩ := kbi_ex h
      refine kC_V 31 [] [.int x3] dX5_fillPlace_28 (okX3_mayLeave hG (d + 3)  hx) kmvX3_mayLeave (wi_r21 _ (List.mem_of_getElem? (i := 4) rfl)) (kOk_of hG rfl) rfl rfl rfl rfl rfl rfl ?_
      clear hx
      rcases kif_ex h with ⟨hc, h⟩ | ⟨hc, h⟩
      · refine kV_if_eq_t 48 dX5_fillPlace_31 (by decide) hc ?_
        clear hc
        refine kV_aloadn 49 dX5_fillPlace_48 rfl rfl ?_
        refine kV_iloadn 50 dX5_fillPlace_49 rfl rfl ?_
        refine kV_iloadn 51 dX5_fillPlace_50 rfl rfl ?_
        refine kV_iloadn 52 dX5_fillPlace_51 rfl rfl ?_
        obtain ⟨x4, hx, h⟩ := kbi_ex h
        refine kC_S 55 [.int x1, .int a2, .ref (kg_ad G (kbo o1))] [.int x4, .int x1, .int a2, .ref (kg_ad G (kbo o1))] dX5_fillPlace_52 (okX5_onlyValue hG (d + 3)  hx) kmtX5_onlyValue (wi_r22 _ (List.mem_of_getElem? (i := 6) rfl)) rfl rfl rfl rfl rfl ?_
        clear hx
        obtain ⟨x5, S1, hx, h⟩ := kb2_ex h
        refine kC_V 58 [] [.int x5] dX5_fillPlace_55 (okX0_settle hG d ho_o1 hx) kmvX0_settle (wi_r21 _ (List.mem_of_getElem? (i := 17) rfl)) hO_o1 hc_o1 rfl rfl rfl rfl rfl ?_
        clear hx
        cases h
        exact kV_iret dX5_fillPlace_58
      · refine kV_if_eq_f 48 34 dX5_fillPlace_31 (by decide) hc rfl ?_
        clear hc
        refine kV_aloadn 35 dX5_fillPlace_34 rfl rfl ?_
        refine kV_iloadn 36 dX5_fillPlace_35 rfl rfl ?_
        refine kV_iloadn 37 dX5_fillPlace_36 rfl rfl ?_
        refine kV_aloadn 38 dX5_fillPlace_37 rfl rfl ?_
        refine kV_iloadn 39 dX5_fillPlace_38 rfl rfl ?_
        obtain ⟨x6, hx, h⟩ := kbi_ex h
        refine kC_V 42 [.int x1, .int a2, .ref (kg_ad G (kbo o1))] [.int x6, .int x1, .int a2, .ref (kg_ad G (kbo o1))] dX5_fillPlace_39 (okX0_setOf hG (d + 1) ho_o1 hx) kmvX0_setOf (wi_r21 _ (List.mem_of_getElem? (i := 8) rfl)) hO_o1 hc_o1 rfl rfl rfl rfl rfl ?_
        clear hx
        refine kV_ior 43 dX5_fillPlace_42 rfl ?_
        refine kV_iconst 44 dX5_fillPlace_43 ic_m1 rfl ?_
        obtain ⟨x7, S2, hx, h⟩ := kb2_ex h
        refine kC_V 47 [] [.int x7] dX5_fillPlace_44 (okX0_settle hG d ho_o1 hx) kmvX0_settle (wi_r21 _ (List.mem_of_getElem? (i := 17) rfl)) hO_o1 hc_o1 rfl rfl rfl rfl rfl ?_
        clear hx
        cases h
        exact kV_iret dX5_fillPlace_47
  · refine kV_if_ne_t 21 dX5_fillPlace_14 (by decide) hc ?_
    clear hc
    refine kV_drop [false, false, false, false] rfl ?_
    exact TX5_fillPlace_J21 hG ho_o1 h
abbrev mX5_fillPlaces : kM := (yX5_fillPlaces, cX5_fillPlaces, 5, (some .int))
theorem kmvX5_fillPlaces : kMv mX5_fillPlaces 1 5 := ⟨⟨(wi_r20 _ (List.mem_of_getElem? (i := 15) rfl)), (wi_r1 _ (List.mem_of_getElem? (i := 2) rfl)), ⟨by decide +kernel, by decide +kernel, by decide +kernel⟩, by decide⟩, (wi_r20 _ (List.mem_of_getElem? (i := 13) rfl)), (wi_r20 _ (List.mem_of_getElem? (i := 14) rfl)), rfl⟩
def FX5_fillPlaces_J28 (o1 : Nat) (c4 : kS × Int32 × Int32 → Option (Int32 × kS)) (S : kS) (v2 : Int32) (v3 : Int32) : Option (Int32 × kS) :=
  c4 (S, v2, (v3 + (1 : Int32)))
def FX5_fillPlaces_B4 (o1 : Nat) (c4 : kS × Int32 × Int32 → Option (Int32 × kS)) (S : kS) (v2 : Int32) (v3 : Int32) : Option (Int32 × kS) :=
  (FX0_placeCount o1 S).bind fun x1 => if x1 ≤ v3 then (some (v2, S)) else (kb2 (FX5_fillPlace o1 S v3) fun x2 S1 => if v2 = (-1 : Int32) then (FX5_fillPlaces_J28 o1 c4 S1 x2 v3) else (FX5_fillPlaces_J28 o1 c4 S1 v2 v3))
def FX5_fillPlaces_L4 (o1 : Nat) (S : kS) (v2 : Int32) (v3 : Int32) : Option (Int32 × kS) :=
  kfix (fun rec (q : kS × Int32 × Int32) => FX5_fillPlaces_B4 o1 rec q.1 q.2.1 q.2.2) kfuel (S, v2, v3)
def FX5_fillPlaces (o1 : Nat) (S : kS) : Option (Int32 × kS) :=
  FX5_fillPlaces_L4 o1 S (-1 : Int32) (0 : Int32)
theorem TX5_fillPlaces_J28 {G : kG} {n : Nat} {d : Nat} {X : kX} (hG : kg_N G = 55 + 14 * n) {o1 : Nat} (ho_o1 : kfm n o1 = true) {c4 : kS × Int32 × Int32 → Option (Int32 × kS)} {S : kS} (hc4 : ∀ (q : kS × Int32 × Int32) (res : Int32 × kS), c4 q = some res → kV (X, RX5, 5, (some .int), G, krm (d + 5), (0, 0), kQ X G (some (.int res.1)) (kgl G n res.2)) cX5_fillPlaces (kgl G n q.1) [some (.ref (kg_ad G (kbo 0))), some (.ref (kg_ad G (kbo o1))), some (.int (q.2.1)), some (.int (q.2.2)), none] [] 4) {v2 : Int32} {v3 : Int32} {res : Int32 × kS} (h : FX5_fillPlaces_J28 o1 c4 S v2 v3 = some res) : kV (X, RX5, 5, (some .int), G, krm (d + 5), (0, 0), kQ X G (some (.int res.1)) (kgl G n res.2)) cX5_fillPlaces (kgl G n S) [some (.ref (kg_ad G (kbo 0))), some (.ref (kg_ad G (kbo o1))), some (.int v2), some (.int v3), none] [] 28 := by
  have hO_o1 := kOk_fm hG ho_o1
  have hc_o1 := kci_fm ho_o1
  unfold FX5_fillPlaces_J28 at h
  refine kV_iinc 31 [some (.ref (kg_ad G (kbo 0))), some (.ref (kg_ad G (kbo o1))), some (.int v2), some (.int (v3 + (1 : Int32))), none] dX5_fillPlaces_28 rfl (kinc_1 _) rfl rfl rfl ?_
  refine kV_goto 4 dX5_fillPlaces_31 (by decide) ?_
  refine kV_drop [true, true, true, true, false] rfl ?_
  exact hc4 _ _ h
theorem TX5_fillPlaces_B4 {G : kG} {n : Nat} {d : Nat} {X : kX} (hG : kg_N G = 55 + 14 * n) {o1 : Nat} (ho_o1 : kfm n o1 = true) {c4 : kS × Int32 × Int32 → Option (Int32 × kS)} (hc4 : ∀ (q : kS × Int32 × Int32) (res : Int32 × kS), c4 q = some res → kV (X, RX5, 5, (some .int), G, krm (d + 5), (0, 0), kQ X G (some (.int res.1)) (kgl G n res.2)) cX5_fillPlaces (kgl G n q.1) [some (.ref (kg_ad G (kbo 0))), some (.ref (kg_ad G (kbo o1))), some (.int (q.2.1)), some (.int (q.2.2)), none] [] 4) {S : kS} {v2 : Int32} {v3 : Int32} {res : Int32 × kS} (h : FX5_fillPlaces_B4 o1 c4 S v2 v3 = some res) : kV (X, RX5, 5, (some .int), G, krm (d + 5), (0, 0), kQ X G (some (.int res.1)) (kgl G n res.2)) cX5_fillPlaces (kgl G n S) [some (.ref (kg_ad G (kbo 0))), some (.ref (kg_ad G (kbo o1))), some (.int v2), some (.int v3), none] [] 4 := by
  have hO_o1 := kOk_fm hG ho_o1
  have hc_o1 := kci_fm ho_o1
  unfold FX5_fillPlaces_B4 at h
  refine kV_iloadn 5 dX5_fillPlaces_4 rfl rfl ?_
  refine kV_aloadn 6 dX5_fillPlaces_5 rfl rfl ?_
  obtain ⟨x1, hx, h⟩ := kbi_ex h
  refine kC_V 9 [.int v3] [.int x1, .int v3] dX5_fillPlaces_6 (okX0_placeCount hG (d + 4) ho_o1 hx) kmvX0_placeCount (wi_r20 _ (List.mem_of_getElem? (i := 16) rfl)) hO_o1 hc_o1 rfl rfl rfl rfl rfl ?_
  clear hx
  rcases kif_ex h with ⟨hc, h⟩ | ⟨hc, h⟩
  · refine kV_icmp_ge_t 34 dX5_fillPlaces_9 (by decide) hc ?_
    clear hc
    refine kV_iloadn 35 dX5_fillPlaces_34 rfl rfl ?_
    cases h
    exact kV_iret dX5_fillPlaces_35
  · refine kV_icmp_ge_f 34 12 dX5_fillPlaces_9 (by decide) hc rfl ?_
    clear hc
    refine kV_aloadn 13 dX5_fillPlaces_12 rfl rfl ?_
    refine kV_aloadn 14 dX5_fillPlaces_13 rfl rfl ?_
    refine kV_iloadn 15 dX5_fillPlaces_14 rfl rfl ?_
    obtain ⟨x2, S1, hx, h⟩ := kb2_ex h
    refine kC_V 18 [] [.int x2] dX5_fillPlaces_15 (okX5_fillPlace hG d ho_o1 hx) kmvX5_fillPlace (wi_r20 _ (List.mem_of_getElem? (i := 20) rfl)) (kOk_of hG rfl) rfl rfl rfl rfl rfl rfl ?_
    clear hx
    refine kV_istore 20 [some (.ref (kg_ad G (kbo 0))), some (.ref (kg_ad G (kbo o1))), some (.int v2), some (.int v3), some (.int x2)] dX5_fillPlaces_18 rfl rfl rfl ?_
    refine kV_iloadn 21 dX5_fillPlaces_20 rfl rfl ?_
    refine kV_iconst 22 dX5_fillPlaces_21 ic_m1 rfl ?_
    rcases kif_ex h with ⟨hc, h⟩ | ⟨hc, h⟩
    · refine kV_icmp_ne_f 28 25 dX5_fillPlaces_22 (by decide) hc rfl ?_
      clear hc
      refine kV_iload 27 dX5_fillPlaces_25 rfl rfl ?_
      refine kV_istoren 28 [some (.ref (kg_ad G (kbo 0))), some (.ref (kg_ad G (kbo o1))), some (.int x2), some (.int v3), some (.int x2)] dX5_fillPlaces_27 rfl rfl rfl ?_
      refine kV_drop [true, true, true, true, false] rfl ?_
      exact TX5_fillPlaces_J28 hG ho_o1 hc4 h
    · refine kV_icmp_ne_t 28 dX5_fillPlaces_22 (by decide) hc ?_
      clear hc
      refine kV_drop [true, true, true, true, false] rfl ?_
      exact TX5_fillPlaces_J28 hG ho_o1 hc4 h
theorem TX5_fillPlaces_L4 {G : kG} {n : Nat} {d : Nat} {X : kX} (hG : kg_N G = 55 + 14 * n) {o1 : Nat} (ho_o1 : kfm n o1 = true) {S : kS} {v2 : Int32} {v3 : Int32} {res : Int32 × kS} (h : FX5_fillPlaces_L4 o1 S v2 v3 = some res) : kV (X, RX5, 5, (some .int), G, krm (d + 5), (0, 0), kQ X G (some (.int res.1)) (kgl G n res.2)) cX5_fillPlaces (kgl G n S) [some (.ref (kg_ad G (kbo 0))), some (.ref (kg_ad G (kbo o1))), some (.int v2), some (.int v3), none] [] 4 := by
  unfold FX5_fillPlaces_L4 at h
  exact kfix_ok (P := fun (q : kS × Int32 × Int32) (res : Int32 × kS) => kV (X, RX5, 5, (some .int), G, krm (d + 5), (0, 0), kQ X G (some (.int res.1)) (kgl G n res.2)) cX5_fillPlaces (kgl G n q.1) [some (.ref (kg_ad G (kbo 0))), some (.ref (kg_ad G (kbo o1))), some (.int (q.2.1)), some (.int (q.2.2)), none] [] 4) (fun rec hrec q res hq => TX5_fillPlaces_B4 hG ho_o1 hrec hq) kfuel _ _ h
theorem okX5_fillPlaces {l : Launch} {G : kG} {n : Nat} (hG : kg_N G = 55 + 14 * n) (d : Nat) {o1 : Nat} (ho_o1 : kfm n o1 = true) {S : kS} {res : Int32 × kS} (h : FX5_fillPlaces o1 S = some res) : kEv l G (d + 5) mX5_fillPlaces [.ref (kg_ad G (kbo 0)), .ref (kg_ad G (kbo o1))] (kgl G n S) (some (.int res.1)) (kgl G n res.2) := by
  refine kEv_of RX5 [some (.ref (kg_ad G (kbo 0))), some (.ref (kg_ad G (kbo o1))), none, none, none] rfl (by decide +kernel) rfl rfl rfl rfl (fun X hX => ?_)
  subst hX
  have hO_o1 := kOk_fm hG ho_o1
  have hc_o1 := kci_fm ho_o1
  unfold FX5_fillPlaces at h
  refine kV_iconst 1 dX5_fillPlaces_0 ic_m1 rfl ?_
  refine kV_istoren 2 [some (.ref (kg_ad G (kbo 0))), some (.ref (kg_ad G (kbo o1))), some (.int (-1 : Int32)), none, none] dX5_fillPlaces_1 rfl rfl rfl ?_
  refine kV_iconst 3 dX5_fillPlaces_2 ic_0 rfl ?_
  refine kV_istoren 4 [some (.ref (kg_ad G (kbo 0))), some (.ref (kg_ad G (kbo o1))), some (.int (-1 : Int32)), some (.int (0 : Int32)), none] dX5_fillPlaces_3 rfl rfl rfl ?_
  refine kV_drop [true, true, true, true, false] rfl ?_
  exact TX5_fillPlaces_L4 hG ho_o1 h
abbrev mX5_takeLine : kM := (yX5_takeLine, cX5_takeLine, 3, (some .int))
theorem kmvX5_takeLine : kMv mX5_takeLine 1 5 := ⟨⟨(wi_r20 _ (List.mem_of_getElem? (i := 7) rfl)), (wi_r1 _ (List.mem_of_getElem? (i := 2) rfl)), ⟨by decide +kernel, by decide +kernel, by decide +kernel⟩, by decide⟩, (wi_r20 _ (List.mem_of_getElem? (i := 5) rfl)), (wi_r20 _ (List.mem_of_getElem? (i := 6) rfl)), rfl⟩
def FX5_takeLine_J32 (o1 : Nat) (S : kS) (v2 : Int32) : Option (Int32 × kS) :=
  if v2 = (1 : Int32) then (kb (kI S 0 12) fun x3 => kb (kI S 0 13) fun x4 => kb (kI S 0 13) fun x5 => kb2 (FX0_settle o1 S x3 ((1 : Int32) <<< (x4 &&& 31)) x5) fun x6 S2 => some (x6, S2)) else (kb (kI S 0 12) fun x1 => kb (kI S 0 13) fun x2 => (FX0_strike o1 S x1 x2).bind fun S1 => some ((-1 : Int32), S1))
def FX5_takeLine_J26 (o1 : Nat) (S : kS) : Option (Int32 × kS) :=
  kb2 (FX5_fillPlaces o1 S) fun x1 S1 => some (x1, S1)
def FX5_takeLine (o1 : Nat) (S : kS) : Option (Int32 × kS) :=
  (FX3_answer S).bind fun x1 => kb (kI S 0 12) fun x2 => if x2 = (-1 : Int32) then (FX5_takeLine_J26 o1 S) else (if x1 = (1 : Int32) then (FX5_takeLine_J32 o1 S x1) else (if x1 = (2 : Int32) then (FX5_takeLine_J32 o1 S x1) else (FX5_takeLine_J26 o1 S)))
theorem TX5_takeLine_J32 {G : kG} {n : Nat} {d : Nat} {X : kX} (hG : kg_N G = 55 + 14 * n) {o1 : Nat} (ho_o1 : kfm n o1 = true) {S : kS} {v2 : Int32} {res : Int32 × kS} (h : FX5_takeLine_J32 o1 S v2 = some res) : kV (X, RX5, 3, (some .int), G, krm (d + 6), (0, 0), kQ X G (some (.int res.1)) (kgl G n res.2)) cX5_takeLine (kgl G n S) [some (.ref (kg_ad G (kbo 0))), some (.ref (kg_ad G (kbo o1))), some (.int v2)] [] 32 := by
  have hO_o1 := kOk_fm hG ho_o1
  have hc_o1 := kci_fm ho_o1
  unfold FX5_takeLine_J32 at h
  refine kV_iloadn 33 dX5_takeLine_32 rfl rfl ?_
  refine kV_iconst 34 dX5_takeLine_33 ic_1 rfl ?_
  rcases kif_ex h with ⟨hc, h⟩ | ⟨hc, h⟩
  · refine kV_icmp_ne_f 56 37 dX5_takeLine_34 (by decide) hc rfl ?_
    clear hc
    refine kV_aloadn 38 dX5_takeLine_37 rfl rfl ?_
    refine kV_aloadn 39 dX5_takeLine_38 rfl rfl ?_
    obtain ⟨x3, hx, h⟩ := kb_ex h
    refine rg5_66 42 dX5_takeLine_39 (kOk_of hG rfl) rfl hx rfl ?_
    clear hx
    refine kV_iconst 43 dX5_takeLine_42 ic_1 rfl ?_
    refine kV_aloadn 44 dX5_takeLine_43 rfl rfl ?_
    obtain ⟨x4, hx, h⟩ := kb_ex h
    refine rg5_69 47 dX5_takeLine_44 (kOk_of hG rfl) rfl hx rfl ?_
    clear hx
    refine kV_ishl 48 dX5_takeLine_47 rfl ?_
    refine kV_aloadn 49 dX5_takeLine_48 rfl rfl ?_
    obtain ⟨x5, hx, h⟩ := kb_ex h
    refine rg5_69 52 dX5_takeLine_49 (kOk_of hG rfl) rfl hx rfl ?_
    clear hx
    obtain ⟨x6, S2, hx, h⟩ := kb2_ex h
    refine kC_V 55 [] [.int x6] dX5_takeLine_52 (okX0_settle hG (d + 2) ho_o1 hx) kmvX0_settle (wi_r21 _ (List.mem_of_getElem? (i := 17) rfl)) hO_o1 hc_o1 rfl rfl rfl rfl rfl ?_
    clear hx
    cases h
    exact kV_iret dX5_takeLine_55
  · refine kV_icmp_ne_t 56 dX5_takeLine_34 (by decide) hc ?_
    clear hc
    refine kV_aloadn 57 dX5_takeLine_56 rfl rfl ?_
    refine kV_aloadn 58 dX5_takeLine_57 rfl rfl ?_
    obtain ⟨x1, hx, h⟩ := kb_ex h
    refine rg5_66 61 dX5_takeLine_58 (kOk_of hG rfl) rfl hx rfl ?_
    clear hx
    refine kV_aloadn 62 dX5_takeLine_61 rfl rfl ?_
    obtain ⟨x2, hx, h⟩ := kb_ex h
    refine rg5_69 65 dX5_takeLine_62 (kOk_of hG rfl) rfl hx rfl ?_
    clear hx
    obtain ⟨S1, hx, h⟩ := kbi_ex h
    refine kC_V 68 [] [] dX5_takeLine_65 (okX0_strike hG (d + 3) ho_o1 hx) kmvX0_strike (wi_r22 _ (List.mem_of_getElem? (i := 9) rfl)) hO_o1 hc_o1 rfl rfl rfl rfl rfl ?_
    clear hx
    refine kV_iconst 69 dX5_takeLine_68 ic_m1 rfl ?_
    cases h
    exact kV_iret dX5_takeLine_69
theorem TX5_takeLine_J26 {G : kG} {n : Nat} {d : Nat} {X : kX} (hG : kg_N G = 55 + 14 * n) {o1 : Nat} (ho_o1 : kfm n o1 = true) {S : kS} {res : Int32 × kS} (h : FX5_takeLine_J26 o1 S = some res) : kV (X, RX5, 3, (some .int), G, krm (d + 6), (0, 0), kQ X G (some (.int res.1)) (kgl G n res.2)) cX5_takeLine (kgl G n S) [some (.ref (kg_ad G (kbo 0))), some (.ref (kg_ad G (kbo o1))), none] [] 26 := by
  have hO_o1 := kOk_fm hG ho_o1
  have hc_o1 := kci_fm ho_o1
  unfold FX5_takeLine_J26 at h
  refine kV_aloadn 27 dX5_takeLine_26 rfl rfl ?_
  refine kV_aloadn 28 dX5_takeLine_27 rfl rfl ?_
  obtain ⟨x1, S1, hx, h⟩ := kb2_ex h
  refine kC_V 31 [] [.int x1] dX5_takeLine_28 (okX5_fillPlaces hG d ho_o1 hx) kmvX5_fillPlaces (wi_r20 _ (List.mem_of_getElem? (i := 12) rfl)) (kOk_of hG rfl) rfl rfl rfl rfl rfl rfl ?_
  clear hx
  cases h
  exact kV_iret dX5_takeLine_31
theorem okX5_takeLine {l : Launch} {G : kG} {n : Nat} (hG : kg_N G = 55 + 14 * n) (d : Nat) {o1 : Nat} (ho_o1 : kfm n o1 = true) {S : kS} {res : Int32 × kS} (h : FX5_takeLine o1 S = some res) : kEv l G (d + 6) mX5_takeLine [.ref (kg_ad G (kbo 0)), .ref (kg_ad G (kbo o1))] (kgl G n S) (some (.int res.1)) (kgl G n res.2) := by
  refine kEv_of RX5 [some (.ref (kg_ad G (kbo 0))), some (.ref (kg_ad G (kbo o1))), none] rfl (by decide +kernel) rfl rfl rfl rfl (fun X hX => ?_)
  subst hX
  have hO_o1 := kOk_fm hG ho_o1
  have hc_o1 := kci_fm ho_o1
  unfold FX5_takeLine at h
  refine kV_aloadn 1 dX5_takeLine_0 rfl rfl ?_
  refine rg5_42 4 dX5_takeLine_1 (kOk_of hG rfl) rfl ?_
  obtain ⟨x1, hx, h⟩ := kbi_ex h
  refine kC_V 7 [] [.int x1] dX5_takeLine_4 (okX3_answer hG (d + 5)  hx) kmvX3_answer (wi_r20 _ (List.mem_of_getElem? (i := 8) rfl)) (kOk_of hG rfl) rfl rfl rfl rfl rfl rfl ?_
  clear hx
  refine kV_istoren 8 [some (.ref (kg_ad G (kbo 0))), some (.ref (kg_ad G (kbo o1))), some (.int x1)] dX5_takeLine_7 rfl rfl rfl ?_
  refine kV_aloadn 9 dX5_takeLine_8 rfl rfl ?_
  obtain ⟨x2, hx, h⟩ := kb_ex h
  refine rg5_66 12 dX5_takeLine_9 (kOk_of hG rfl) rfl hx rfl ?_
  clear hx
  refine kV_iconst 13 dX5_takeLine_12 ic_m1 rfl ?_
  rcases kif_ex h with ⟨hc, h⟩ | ⟨hc, h⟩
  · refine kV_icmp_eq_t 26 dX5_takeLine_13 (by decide) hc ?_
    clear hc
    refine kV_drop [true, true, false] rfl ?_
    exact TX5_takeLine_J26 hG ho_o1 h
  · refine kV_icmp_eq_f 26 16 dX5_takeLine_13 (by decide) hc rfl ?_
    clear hc
    refine kV_iloadn 17 dX5_takeLine_16 rfl rfl ?_
    refine kV_iconst 18 dX5_takeLine_17 ic_1 rfl ?_
    rcases kif_ex h with ⟨hc, h⟩ | ⟨hc, h⟩
    · refine kV_icmp_eq_t 32 dX5_takeLine_18 (by decide) hc ?_
      clear hc
      refine kV_drop [true, true, true] rfl ?_
      exact TX5_takeLine_J32 hG ho_o1 h
    · refine kV_icmp_eq_f 32 21 dX5_takeLine_18 (by decide) hc rfl ?_
      clear hc
      refine kV_iloadn 22 dX5_takeLine_21 rfl rfl ?_
      refine kV_iconst 23 dX5_takeLine_22 ic_2 rfl ?_
      rcases kif_ex h with ⟨hc, h⟩ | ⟨hc, h⟩
      · refine kV_icmp_eq_t 32 dX5_takeLine_23 (by decide) hc ?_
        clear hc
        refine kV_drop [true, true, true] rfl ?_
        exact TX5_takeLine_J32 hG ho_o1 h
      · refine kV_icmp_eq_f 32 26 dX5_takeLine_23 (by decide) hc rfl ?_
        clear hc
        refine kV_drop [true, true, false] rfl ?_
        exact TX5_takeLine_J26 hG ho_o1 h
abbrev mX5_uppermost : kM := (yX5_uppermost, cX5_uppermost, 1, (some .int))
theorem kmvX5_uppermost : kMv mX5_uppermost 0 5 := ⟨⟨(wi_r15 _ (List.mem_of_getElem? (i := 18) rfl)), (wi_r1 _ (List.mem_of_getElem? (i := 2) rfl)), ⟨by decide +kernel, by decide +kernel, by decide +kernel⟩, by decide⟩, (wi_r15 _ (List.mem_of_getElem? (i := 16) rfl)), (wi_r15 _ (List.mem_of_getElem? (i := 17) rfl)), rfl⟩
def FX5_uppermost_J22 (S : kS) (s0 : Int32) : Option (Int32) :=
  some s0
def FX5_uppermost (S : kS) : Option (Int32) :=
  kb (kI S 0 4) fun x1 => if x1 ≤ 0 then (FX5_uppermost_J22 S (-1 : Int32)) else (kb (kI S 0 4) fun x2 => kgd (kin (x2 - (1 : Int32)) 3) <| kb (kA S 0 3 (x2 - (1 : Int32))) fun x3 => FX5_uppermost_J22 S x3)
theorem TX5_uppermost_J22 {G : kG} {n : Nat} {d : Nat} {X : kX} (hG : kg_N G = 55 + 14 * n) {S : kS} {s0 : Int32} {res : Int32} (h : FX5_uppermost_J22 S s0 = some res) : kV (X, RX5, 1, (some .int), G, krm (d + 0), (0, 0), kQ X G (some (.int res)) (kgl G n S)) cX5_uppermost (kgl G n S) [none] [.int s0] 22 := by
  unfold FX5_uppermost_J22 at h
  cases h
  exact kV_iret dX5_uppermost_22
theorem okX5_uppermost {l : Launch} {G : kG} {n : Nat} (hG : kg_N G = 55 + 14 * n) (d : Nat) {S : kS} {res : Int32} (h : FX5_uppermost S = some res) : kEv l G (d + 0) mX5_uppermost [.ref (kg_ad G (kbo 0))] (kgl G n S) (some (.int res)) (kgl G n S) := by
  refine kEv_of RX5 [some (.ref (kg_ad G (kbo 0)))] rfl (by decide +kernel) rfl rfl rfl rfl (fun X hX => ?_)
  subst hX
  unfold FX5_uppermost at h
  refine kV_aloadn 1 dX5_uppermost_0 rfl rfl ?_
  obtain ⟨x1, hx, h⟩ := kb_ex h
  refine rg5_30 4 dX5_uppermost_1 (kOk_of hG rfl) rfl hx rfl ?_
  clear hx
  rcases kif_ex h with ⟨hc, h⟩ | ⟨hc, h⟩
  · refine kV_if_le_t 21 dX5_uppermost_4 (by decide) hc ?_
    clear hc
    refine kV_iconst 22 dX5_uppermost_21 ic_m1 rfl ?_
    refine kV_drop [false] rfl ?_
    exact TX5_uppermost_J22 hG h
  · refine kV_if_le_f 21 7 dX5_uppermost_4 (by decide) hc rfl ?_
    clear hc
    refine kV_aloadn 8 dX5_uppermost_7 rfl rfl ?_
    refine rg5_26 11 dX5_uppermost_8 (kOk_of hG rfl) rfl rfl ?_
    refine kV_aloadn 12 dX5_uppermost_11 rfl rfl ?_
    obtain ⟨x2, hx, h⟩ := kb_ex h
    refine rg5_30 15 dX5_uppermost_12 (kOk_of hG rfl) rfl hx rfl ?_
    clear hx
    refine kV_iconst 16 dX5_uppermost_15 ic_1 rfl ?_
    refine kV_isub 17 dX5_uppermost_16 rfl ?_
    obtain ⟨hi, h⟩ := kgd_ex h
    obtain ⟨x3, hx, h⟩ := kb_ex h
    refine rl5_3 18 dX5_uppermost_17 (kOk_of hG rfl) rfl hi hx rfl ?_
    clear hi hx
    refine kV_goto 22 dX5_uppermost_18 (by decide) ?_
    refine kV_drop [false] rfl ?_
    exact TX5_uppermost_J22 hG h
abbrev mX5_hear : kM := (yX5_hear, cX5_hear, 2, (some .int))
theorem kmvX5_hear : kMv mX5_hear 0 5 := ⟨⟨(wi_r15 _ (List.mem_of_getElem? (i := 10) rfl)), (wi_r1 _ (List.mem_of_getElem? (i := 2) rfl)), ⟨by decide +kernel, by decide +kernel, by decide +kernel⟩, by decide⟩, (wi_r15 _ (List.mem_of_getElem? (i := 8) rfl)), (wi_r15 _ (List.mem_of_getElem? (i := 9) rfl)), rfl⟩
def FX5_hear_J20 (n : Nat) (S : kS) : Option (Int32 × kS) :=
  some ((-3 : Int32), S)
def FX5_hear (n : Nat) (S : kS) : Option (Int32 × kS) :=
  (FX5_uppermost S).bind fun x1 => (FX5_formAt n S x1).bind fun z1 => kb (kI S 0 6) fun x2 => if x2 ≤ 0 then (FX5_hear_J20 n S) else (kopt z1 (FX5_hear_J20 n S) (fun w_1 => kgd (kfm n w_1) <| (FX5_uppermost S).bind fun x3 => kb (kI S 0 6) fun x4 => (FX3_read w_1 S x3 x4).bind fun S1 => kb (kpI S1 0 6 (0 : Int32)) fun S2 => kb (kpI S2 0 11 (-1 : Int32)) fun S3 => (FX3_isHeard S3).bind fun x5 => if x5 = 0 then (kb (kI S3 0 10) fun x8 => kb (kpI S3 0 10 (kmin (3 : Int32) (x8 + (1 : Int32)))) fun S9 => (FX3_leastCost S9).bind fun x9 => some (((100 : Int32) + x9), S9)) else (kb (kpI S3 0 10 (0 : Int32)) fun S4 => (FX1_keep n S4).bind fun S5 => kb2 (FX5_takeLine w_1 S5) fun x6 S6 => kb (kpI S6 0 11 x6) fun S7 => (FX5_forgetConfirm S7).bind fun S8 => (FX3_leastCost S8).bind fun x7 => some (x7, S8))))
theorem TX5_hear_J20 {G : kG} {n : Nat} {d : Nat} {X : kX} (hG : kg_N G = 55 + 14 * n) {S : kS} {res : Int32 × kS} (h : FX5_hear_J20 n S = some res) : kV (X, RX5, 2, (some .int), G, krm (d + 7), (0, 0), kQ X G (some (.int res.1)) (kgl G n res.2)) cX5_hear (kgl G n S) [none, none] [] 20 := by
  unfold FX5_hear_J20 at h
  refine kV_bipush 22 dX5_hear_20 bp_m3 rfl ?_
  cases h
  exact kV_iret dX5_hear_22
theorem okX5_hear {l : Launch} {G : kG} {n : Nat} (hG : kg_N G = 55 + 14 * n) (d : Nat) {S : kS} {res : Int32 × kS} (h : FX5_hear n S = some res) : kEv l G (d + 7) mX5_hear [.ref (kg_ad G (kbo 0))] (kgl G n S) (some (.int res.1)) (kgl G n res.2) := by
  refine kEv_of RX5 [some (.ref (kg_ad G (kbo 0))), none] rfl (by decide +kernel) rfl rfl rfl rfl (fun X hX => ?_)
  subst hX
  unfold FX5_hear at h
  refine kV_aloadn 1 dX5_hear_0 rfl rfl ?_
  refine kV_aloadn 2 dX5_hear_1 rfl rfl ?_
  obtain ⟨x1, hx, h⟩ := kbi_ex h
  refine kC_V 5 [.ref (kg_ad G (kbo 0))] [.int x1, .ref (kg_ad G (kbo 0))] dX5_hear_2 (okX5_uppermost hG (d + 6)  hx) kmvX5_uppermost (wi_r15 _ (List.mem_of_getElem? (i := 15) rfl)) (kOk_of hG rfl) rfl rfl rfl rfl rfl rfl ?_
  clear hx
  obtain ⟨z1, hx, h⟩ := kbi_ex h
  refine kC_V 8 [] [kvo G z1] dX5_hear_5 (okX5_formAt hG (d + 6)  hx) kmvX5_formAt (wi_r7 _ (List.mem_of_getElem? (i := 7) rfl)) (kOk_of hG rfl) rfl rfl rfl rfl rfl rfl ?_
  clear hx
  refine kV_astoreno 9 [some (.ref (kg_ad G (kbo 0))), some (kvo G z1)] dX5_hear_8 rfl rfl rfl ?_
  refine kV_aloadn 10 dX5_hear_9 rfl rfl ?_
  obtain ⟨x2, hx, h⟩ := kb_ex h
  refine rg5_36 13 dX5_hear_10 (kOk_of hG rfl) rfl hx rfl ?_
  clear hx
  rcases kif_ex h with ⟨hc, h⟩ | ⟨hc, h⟩
  · refine kV_if_le_t 20 dX5_hear_13 (by decide) hc ?_
    clear hc
    refine kV_drop [false, false] rfl ?_
    exact TX5_hear_J20 hG h
  · refine kV_if_le_f 20 16 dX5_hear_13 (by decide) hc rfl ?_
    clear hc
    refine kV_aloadno 17 dX5_hear_16 rfl rfl ?_
    rcases kopt_ex h with ⟨hv, h⟩ | ⟨w_1, hv, h⟩
    · subst hv
      show kV _ _ _ [some (.ref (kg_ad G (kbo 0))), some (.null)] (.null :: []) _
      refine kV_ifnonnullN 20 dX5_hear_17 rfl ?_
      refine kV_drop [false, false] rfl ?_
      exact TX5_hear_J20 hG h
    · subst hv
      show kV _ _ _ [some (.ref (kg_ad G (kbo 0))), some (.ref (kg_ad G (kbo w_1)))] (.ref (kg_ad G (kbo w_1)) :: []) _
      obtain ⟨ho_w_1, h⟩ := kgd_ex h
      have hO_w_1 := kOk_fm hG ho_w_1
      have hc_w_1 := kci_fm ho_w_1
      refine kV_ifnonnull 23 dX5_hear_17 (by decide) ?_
      refine kV_aloadn 24 dX5_hear_23 rfl rfl ?_
      refine rg5_42 27 dX5_hear_24 (kOk_of hG rfl) rfl ?_
      refine kV_aloadn 28 dX5_hear_27 rfl rfl ?_
      refine kV_aloadn 29 dX5_hear_28 rfl rfl ?_
      obtain ⟨x3, hx, h⟩ := kbi_ex h
      refine kC_V 32 [.ref (kg_ad G (kbo w_1)), .ref (kg_ad G (kbo 2))] [.int x3, .ref (kg_ad G (kbo w_1)), .ref (kg_ad G (kbo 2))] dX5_hear_29 (okX5_uppermost hG (d + 6)  hx) kmvX5_uppermost (wi_r15 _ (List.mem_of_getElem? (i := 15) rfl)) (kOk_of hG rfl) rfl rfl rfl rfl rfl rfl ?_
      clear hx
      refine kV_aloadn 33 dX5_hear_32 rfl rfl ?_
      refine rg5_22 36 dX5_hear_33 (kOk_of hG rfl) rfl ?_
      refine kV_aloadn 37 dX5_hear_36 rfl rfl ?_
      refine rg5_33 40 dX5_hear_37 (kOk_of hG rfl) rfl rfl ?_
      refine kV_aloadn 41 dX5_hear_40 rfl rfl ?_
      obtain ⟨x4, hx, h⟩ := kb_ex h
      refine rg5_36 44 dX5_hear_41 (kOk_of hG rfl) rfl hx rfl ?_
      clear hx
      obtain ⟨S1, hx, h⟩ := kbi_ex h
      refine kC_V 47 [] [] dX5_hear_44 (okX3_read hG (d + 1) ho_w_1 hx) kmvX3_read (wi_r15 _ (List.mem_of_getElem? (i := 19) rfl)) (kOk_of hG rfl) rfl rfl rfl rfl rfl rfl ?_
      clear hx
      refine kV_aloadn 48 dX5_hear_47 rfl rfl ?_
      refine kV_iconst 49 dX5_hear_48 ic_0 rfl ?_
      obtain ⟨S2, hx, h⟩ := kb_ex h
      refine rp5_36 52 dX5_hear_49 (kOk_of hG rfl) rfl hx rfl ?_
      clear hx
      refine kV_aloadn 53 dX5_hear_52 rfl rfl ?_
      refine kV_iconst 54 dX5_hear_53 ic_m1 rfl ?_
      obtain ⟨S3, hx, h⟩ := kb_ex h
      refine rp5_63 57 dX5_hear_54 (kOk_of hG rfl) rfl hx rfl ?_
      clear hx
      refine kV_aloadn 58 dX5_hear_57 rfl rfl ?_
      refine rg5_42 61 dX5_hear_58 (kOk_of hG rfl) rfl ?_
      obtain ⟨x5, hx, h⟩ := kbi_ex h
      refine kC_V 64 [] [.int x5] dX5_hear_61 (okX3_isHeard hG (d + 6)  hx) kmvX3_isHeard (wi_r19 _ (List.mem_of_getElem? (i := 4) rfl)) (kOk_of hG rfl) rfl rfl rfl rfl rfl rfl ?_
      clear hx
      rcases kif_ex h with ⟨hc, h⟩ | ⟨hc, h⟩
      · refine kV_if_ne_f 92 67 dX5_hear_64 (by decide) hc rfl ?_
        clear hc
        refine kV_aloadn 68 dX5_hear_67 rfl rfl ?_
        refine kV_iconst 69 dX5_hear_68 ic_3 rfl ?_
        refine kV_aloadn 70 dX5_hear_69 rfl rfl ?_
        obtain ⟨x8, hx, h⟩ := kb_ex h
        refine rg5_60 73 dX5_hear_70 (kOk_of hG rfl) rfl hx rfl ?_
        clear hx
        refine kV_iconst 74 dX5_hear_73 ic_1 rfl ?_
        refine kV_iadd 75 dX5_hear_74 rfl ?_
        refine kC_min 78 dX5_hear_75 (wi_r15 _ (List.mem_of_getElem? (i := 11) rfl)) rfl rfl ?_
        obtain ⟨S9, hx, h⟩ := kb_ex h
        refine rp5_60 81 dX5_hear_78 (kOk_of hG rfl) rfl hx rfl ?_
        clear hx
        refine kV_bipush 83 dX5_hear_81 bp_100 rfl ?_
        refine kV_aloadn 84 dX5_hear_83 rfl rfl ?_
        refine rg5_42 87 dX5_hear_84 (kOk_of hG rfl) rfl ?_
        obtain ⟨x9, hx, h⟩ := kbi_ex h
        refine kC_V 90 [.int (100 : Int32)] [.int x9, .int (100 : Int32)] dX5_hear_87 (okX3_leastCost hG (d + 6)  hx) kmvX3_leastCost (wi_r19 _ (List.mem_of_getElem? (i := 8) rfl)) (kOk_of hG rfl) rfl rfl rfl rfl rfl rfl ?_
        clear hx
        refine kV_iadd 91 dX5_hear_90 rfl ?_
        cases h
        exact kV_iret dX5_hear_91
      · refine kV_if_ne_t 92 dX5_hear_64 (by decide) hc ?_
        clear hc
        refine kV_aloadn 93 dX5_hear_92 rfl rfl ?_
        refine kV_iconst 94 dX5_hear_93 ic_0 rfl ?_
        obtain ⟨S4, hx, h⟩ := kb_ex h
        refine rp5_60 97 dX5_hear_94 (kOk_of hG rfl) rfl hx rfl ?_
        clear hx
        refine kV_aloadn 98 dX5_hear_97 rfl rfl ?_
        refine rg5_56 101 dX5_hear_98 (kOk_of hG rfl) rfl ?_
        refine kV_aloadn 102 dX5_hear_101 rfl rfl ?_
        refine rg5_11 105 dX5_hear_102 (kOk_of hG rfl) rfl rfl ?_
        obtain ⟨S5, hx, h⟩ := kbi_ex h
        refine kC_V 108 [] [] dX5_hear_105 (okX1_keep hG (d + 4)  hx) kmvX1_keep (wi_r19 _ (List.mem_of_getElem? (i := 12) rfl)) (kOk_of hG rfl) rfl rfl rfl rfl rfl rfl ?_
        clear hx
        refine kV_aloadn 109 dX5_hear_108 rfl rfl ?_
        refine kV_aloadn 110 dX5_hear_109 rfl rfl ?_
        refine kV_aloadn 111 dX5_hear_110 rfl rfl ?_
        obtain ⟨x6, S6, hx, h⟩ := kb2_ex h
        refine kC_V 114 [.ref (kg_ad G (kbo 0))] [.int x6, .ref (kg_ad G (kbo 0))] dX5_hear_111 (okX5_takeLine hG d ho_w_1 hx) kmvX5_takeLine (wi_r20 _ (List.mem_of_getElem? (i := 4) rfl)) (kOk_of hG rfl) rfl rfl rfl rfl rfl rfl ?_
        clear hx
        obtain ⟨S7, hx, h⟩ := kb_ex h
        refine rp5_63 117 dX5_hear_114 (kOk_of hG rfl) rfl hx rfl ?_
        clear hx
        refine kV_aloadn 118 dX5_hear_117 rfl rfl ?_
        obtain ⟨S8, hx, h⟩ := kbi_ex h
        refine kC_V 121 [] [] dX5_hear_118 (okX5_forgetConfirm hG (d + 6)  hx) kmvX5_forgetConfirm (wi_r14 _ (List.mem_of_getElem? (i := 5) rfl)) (kOk_of hG rfl) rfl rfl rfl rfl rfl rfl ?_
        clear hx
        refine kV_aloadn 122 dX5_hear_121 rfl rfl ?_
        refine rg5_42 125 dX5_hear_122 (kOk_of hG rfl) rfl ?_
        obtain ⟨x7, hx, h⟩ := kbi_ex h
        refine kC_V 128 [] [.int x7] dX5_hear_125 (okX3_leastCost hG (d + 6)  hx) kmvX3_leastCost (wi_r19 _ (List.mem_of_getElem? (i := 8) rfl)) (kOk_of hG rfl) rfl rfl rfl rfl rfl rfl ?_
        clear hx
        cases h
        exact kV_iret dX5_hear_128
abbrev mX5_back : kM := (yX5_back, cX5_back, 1, (some .int))
theorem kmvX5_back : kMv mX5_back 0 5 := ⟨⟨(wi_r25 _ (List.mem_of_getElem? (i := 14) rfl)), (wi_r1 _ (List.mem_of_getElem? (i := 2) rfl)), ⟨by decide +kernel, by decide +kernel, by decide +kernel⟩, by decide⟩, (wi_r25 _ (List.mem_of_getElem? (i := 12) rfl)), (wi_r25 _ (List.mem_of_getElem? (i := 13) rfl)), rfl⟩
def FX5_back (n : Nat) (S : kS) : Option (Int32 × kS) :=
  (FX1_size S).bind fun x1 => if 0 < x1 then ((FX1_restore n S).bind fun S1 => (FX5_forgetConfirm S1).bind fun S2 => (FX1_size S2).bind fun x2 => some (x2, S2)) else (some ((-3 : Int32), S))
theorem okX5_back {l : Launch} {G : kG} {n : Nat} (hG : kg_N G = 55 + 14 * n) (d : Nat) {S : kS} {res : Int32 × kS} (h : FX5_back n S = some res) : kEv l G (d + 3) mX5_back [.ref (kg_ad G (kbo 0))] (kgl G n S) (some (.int res.1)) (kgl G n res.2) := by
  refine kEv_of RX5 [some (.ref (kg_ad G (kbo 0)))] rfl (by decide +kernel) rfl rfl rfl rfl (fun X hX => ?_)
  subst hX
  unfold FX5_back at h
  refine kV_aloadn 1 dX5_back_0 rfl rfl ?_
  refine rg5_56 4 dX5_back_1 (kOk_of hG rfl) rfl ?_
  obtain ⟨x1, hx, h⟩ := kbi_ex h
  refine kC_V 7 [] [.int x1] dX5_back_4 (okX1_size hG (d + 2)  hx) kmvX1_size (wi_r25 _ (List.mem_of_getElem? (i := 15) rfl)) (kOk_of hG rfl) rfl rfl rfl rfl rfl rfl ?_
  clear hx
  rcases kif_ex h with ⟨hc, h⟩ | ⟨hc, h⟩
  · refine kV_if_gt_t 13 dX5_back_7 (by decide) hc ?_
    clear hc
    refine kV_aloadn 14 dX5_back_13 rfl rfl ?_
    refine rg5_56 17 dX5_back_14 (kOk_of hG rfl) rfl ?_
    refine kV_aloadn 18 dX5_back_17 rfl rfl ?_
    refine rg5_11 21 dX5_back_18 (kOk_of hG rfl) rfl rfl ?_
    obtain ⟨S1, hx, h⟩ := kbi_ex h
    refine kC_V 24 [] [] dX5_back_21 (okX1_restore hG d  hx) kmvX1_restore (wi_r25 _ (List.mem_of_getElem? (i := 19) rfl)) (kOk_of hG rfl) rfl rfl rfl rfl rfl rfl ?_
    clear hx
    refine kV_aloadn 25 dX5_back_24 rfl rfl ?_
    obtain ⟨S2, hx, h⟩ := kbi_ex h
    refine kC_V 28 [] [] dX5_back_25 (okX5_forgetConfirm hG (d + 2)  hx) kmvX5_forgetConfirm (wi_r14 _ (List.mem_of_getElem? (i := 5) rfl)) (kOk_of hG rfl) rfl rfl rfl rfl rfl rfl ?_
    clear hx
    refine kV_aloadn 29 dX5_back_28 rfl rfl ?_
    refine rg5_56 32 dX5_back_29 (kOk_of hG rfl) rfl ?_
    obtain ⟨x2, hx, h⟩ := kbi_ex h
    refine kC_V 35 [] [.int x2] dX5_back_32 (okX1_size hG (d + 2)  hx) kmvX1_size (wi_r25 _ (List.mem_of_getElem? (i := 15) rfl)) (kOk_of hG rfl) rfl rfl rfl rfl rfl rfl ?_
    clear hx
    cases h
    exact kV_iret dX5_back_35
  · refine kV_if_gt_f 13 10 dX5_back_7 (by decide) hc rfl ?_
    clear hc
    refine kV_bipush 12 dX5_back_10 bp_m3 rfl ?_
    cases h
    exact kV_iret dX5_back_12
abbrev mX5_act : kM := (yX5_act, cX5_act, 3, (some .int))
theorem kmvX5_act : kMv mX5_act 0 5 := ⟨⟨(wi_r26 _ (List.mem_of_getElem? (i := 11) rfl)), (wi_r1 _ (List.mem_of_getElem? (i := 2) rfl)), ⟨by decide +kernel, by decide +kernel, by decide +kernel⟩, by decide⟩, (wi_r26 _ (List.mem_of_getElem? (i := 9) rfl)), (wi_r26 _ (List.mem_of_getElem? (i := 10) rfl)), rfl⟩
def FX5_act (n : Nat) (S : kS) : Option (Int32 × kS) :=
  (FX5_uppermost S).bind fun x1 => (FX5_formAt n S x1).bind fun z1 => kopt z1 (some ((-3 : Int32), S)) (fun w_1 => kgd (kfm n w_1) <| (FX5_forgetConfirm S).bind fun S1 => (FX0_questions w_1 S1).bind fun x2 => if x2 = 0 then (some ((0 : Int32), S1)) else ((FX0_placeToConfirm w_1 S1).bind fun x3 => if x3 = (-1 : Int32) then (kb2 (FX2_placeToAsk w_1 S1) fun x4 S2 => some (((200 : Int32) + ((10 : Int32) * x4)), S2)) else (kb (kpI S1 0 12 x3) fun S3 => (FX0_leastValue w_1 S3 x3).bind fun x5 => kb (kpI S3 0 13 x5) fun S4 => kb (kI S4 0 12) fun x6 => kb (kI S4 0 13) fun x7 => some ((((100 : Int32) + ((10 : Int32) * x6)) + x7), S4))))
theorem okX5_act {l : Launch} {G : kG} {n : Nat} (hG : kg_N G = 55 + 14 * n) (d : Nat) {S : kS} {res : Int32 × kS} (h : FX5_act n S = some res) : kEv l G (d + 18) mX5_act [.ref (kg_ad G (kbo 0))] (kgl G n S) (some (.int res.1)) (kgl G n res.2) := by
  refine kEv_of RX5 [some (.ref (kg_ad G (kbo 0))), none, none] rfl (by decide +kernel) rfl rfl rfl rfl (fun X hX => ?_)
  subst hX
  unfold FX5_act at h
  refine kV_aloadn 1 dX5_act_0 rfl rfl ?_
  refine kV_aloadn 2 dX5_act_1 rfl rfl ?_
  obtain ⟨x1, hx, h⟩ := kbi_ex h
  refine kC_V 5 [.ref (kg_ad G (kbo 0))] [.int x1, .ref (kg_ad G (kbo 0))] dX5_act_2 (okX5_uppermost hG (d + 17)  hx) kmvX5_uppermost (wi_r15 _ (List.mem_of_getElem? (i := 15) rfl)) (kOk_of hG rfl) rfl rfl rfl rfl rfl rfl ?_
  clear hx
  obtain ⟨z1, hx, h⟩ := kbi_ex h
  refine kC_V 8 [] [kvo G z1] dX5_act_5 (okX5_formAt hG (d + 17)  hx) kmvX5_formAt (wi_r7 _ (List.mem_of_getElem? (i := 7) rfl)) (kOk_of hG rfl) rfl rfl rfl rfl rfl rfl ?_
  clear hx
  refine kV_astoreno 9 [some (.ref (kg_ad G (kbo 0))), some (kvo G z1), none] dX5_act_8 rfl rfl rfl ?_
  refine kV_aloadno 10 dX5_act_9 rfl rfl ?_
  rcases kopt_ex h with ⟨hv, h⟩ | ⟨w_1, hv, h⟩
  · subst hv
    show kV _ _ _ [some (.ref (kg_ad G (kbo 0))), some (.null), none] (.null :: []) _
    refine kV_ifnonnullN 13 dX5_act_10 rfl ?_
    refine kV_bipush 15 dX5_act_13 bp_m3 rfl ?_
    cases h
    exact kV_iret dX5_act_15
  · subst hv
    show kV _ _ _ [some (.ref (kg_ad G (kbo 0))), some (.ref (kg_ad G (kbo w_1))), none] (.ref (kg_ad G (kbo w_1)) :: []) _
    obtain ⟨ho_w_1, h⟩ := kgd_ex h
    have hO_w_1 := kOk_fm hG ho_w_1
    have hc_w_1 := kci_fm ho_w_1
    refine kV_ifnonnull 16 dX5_act_10 (by decide) ?_
    refine kV_aloadn 17 dX5_act_16 rfl rfl ?_
    obtain ⟨S1, hx, h⟩ := kbi_ex h
    refine kC_V 20 [] [] dX5_act_17 (okX5_forgetConfirm hG (d + 17)  hx) kmvX5_forgetConfirm (wi_r14 _ (List.mem_of_getElem? (i := 5) rfl)) (kOk_of hG rfl) rfl rfl rfl rfl rfl rfl ?_
    clear hx
    refine kV_aloadn 21 dX5_act_20 rfl rfl ?_
    obtain ⟨x2, hx, h⟩ := kbi_ex h
    refine kC_V 24 [] [.int x2] dX5_act_21 (okX0_questions hG (d + 14) ho_w_1 hx) kmvX0_questions (wi_r26 _ (List.mem_of_getElem? (i := 12) rfl)) hO_w_1 hc_w_1 rfl rfl rfl rfl rfl ?_
    clear hx
    rcases kif_ex h with ⟨hc, h⟩ | ⟨hc, h⟩
    · refine kV_if_ne_f 29 27 dX5_act_24 (by decide) hc rfl ?_
      clear hc
      refine kV_iconst 28 dX5_act_27 ic_0 rfl ?_
      cases h
      exact kV_iret dX5_act_28
    · refine kV_if_ne_t 29 dX5_act_24 (by decide) hc ?_
      clear hc
      refine kV_aloadn 30 dX5_act_29 rfl rfl ?_
      obtain ⟨x3, hx, h⟩ := kbi_ex h
      refine kC_V 33 [] [.int x3] dX5_act_30 (okX0_placeToConfirm hG (d + 13) ho_w_1 hx) kmvX0_placeToConfirm (wi_r26 _ (List.mem_of_getElem? (i := 20) rfl)) hO_w_1 hc_w_1 rfl rfl rfl rfl rfl ?_
      clear hx
      refine kV_istoren 34 [some (.ref (kg_ad G (kbo 0))), some (.ref (kg_ad G (kbo w_1))), some (.int x3)] dX5_act_33 rfl rfl rfl ?_
      refine kV_iloadn 35 dX5_act_34 rfl rfl ?_
      refine kV_iconst 36 dX5_act_35 ic_m1 rfl ?_
      rcases kif_ex h with ⟨hc, h⟩ | ⟨hc, h⟩
      · refine kV_icmp_eq_t 69 dX5_act_36 (by decide) hc ?_
        clear hc
        refine kV_sipush 72 dX5_act_69 sp_200 rfl ?_
        refine kV_bipush 74 dX5_act_72 bp_10 rfl ?_
        refine kV_aloadn 75 dX5_act_74 rfl rfl ?_
        refine rg5_49 78 dX5_act_75 (kOk_of hG rfl) rfl ?_
        refine kV_aloadn 79 dX5_act_78 rfl rfl ?_
        obtain ⟨x4, S2, hx, h⟩ := kb2_ex h
        refine kC_V 82 [.int (10 : Int32), .int (200 : Int32)] [.int x4, .int (10 : Int32), .int (200 : Int32)] dX5_act_79 (okX2_placeToAsk hG d ho_w_1 hx) kmvX2_placeToAsk (wi_r27 _ (List.mem_of_getElem? (i := 5) rfl)) (kOk_of hG rfl) rfl rfl rfl rfl rfl rfl ?_
        clear hx
        refine kV_imul 83 dX5_act_82 rfl ?_
        refine kV_iadd 84 dX5_act_83 rfl ?_
        cases h
        exact kV_iret dX5_act_84
      · refine kV_icmp_eq_f 69 39 dX5_act_36 (by decide) hc rfl ?_
        clear hc
        refine kV_aloadn 40 dX5_act_39 rfl rfl ?_
        refine kV_iloadn 41 dX5_act_40 rfl rfl ?_
        obtain ⟨S3, hx, h⟩ := kb_ex h
        refine rp5_66 44 dX5_act_41 (kOk_of hG rfl) rfl hx rfl ?_
        clear hx
        refine kV_aloadn 45 dX5_act_44 rfl rfl ?_
        refine kV_aloadn 46 dX5_act_45 rfl rfl ?_
        refine kV_iloadn 47 dX5_act_46 rfl rfl ?_
        obtain ⟨x5, hx, h⟩ := kbi_ex h
        refine kC_V 50 [.ref (kg_ad G (kbo 0))] [.int x5, .ref (kg_ad G (kbo 0))] dX5_act_47 (okX0_leastValue hG (d + 14) ho_w_1 hx) kmvX0_leastValue (wi_r27 _ (List.mem_of_getElem? (i := 1) rfl)) hO_w_1 hc_w_1 rfl rfl rfl rfl rfl ?_
        clear hx
        obtain ⟨S4, hx, h⟩ := kb_ex h
        refine rp5_69 53 dX5_act_50 (kOk_of hG rfl) rfl hx rfl ?_
        clear hx
        refine kV_bipush 55 dX5_act_53 bp_100 rfl ?_
        refine kV_bipush 57 dX5_act_55 bp_10 rfl ?_
        refine kV_aloadn 58 dX5_act_57 rfl rfl ?_
        obtain ⟨x6, hx, h⟩ := kb_ex h
        refine rg5_66 61 dX5_act_58 (kOk_of hG rfl) rfl hx rfl ?_
        clear hx
        refine kV_imul 62 dX5_act_61 rfl ?_
        refine kV_iadd 63 dX5_act_62 rfl ?_
        refine kV_aloadn 64 dX5_act_63 rfl rfl ?_
        obtain ⟨x7, hx, h⟩ := kb_ex h
        refine rg5_69 67 dX5_act_64 (kOk_of hG rfl) rfl hx rfl ?_
        clear hx
        refine kV_iadd 68 dX5_act_67 rfl ?_
        cases h
        exact kV_iret dX5_act_68
abbrev mX5_worst : kM := (yX5_worst, cX5_worst, 2, (some .int))
theorem kmvX5_worst : kMv mX5_worst 0 5 := ⟨⟨(wi_r29 _ (List.mem_of_getElem? (i := 20) rfl)), (wi_r1 _ (List.mem_of_getElem? (i := 2) rfl)), ⟨by decide +kernel, by decide +kernel, by decide +kernel⟩, by decide⟩, (wi_r29 _ (List.mem_of_getElem? (i := 18) rfl)), (wi_r29 _ (List.mem_of_getElem? (i := 19) rfl)), rfl⟩
def FX5_worst (n : Nat) (S : kS) : Option (Int32 × kS) :=
  (FX5_uppermost S).bind fun x1 => (FX5_formAt n S x1).bind fun z1 => kopt z1 (some ((-3 : Int32), S)) (fun w_1 => kgd (kfm n w_1) <| kb2 (FX2_fewestQuestions w_1 S) fun x2 S1 => some (x2, S1))
theorem okX5_worst {l : Launch} {G : kG} {n : Nat} (hG : kg_N G = 55 + 14 * n) (d : Nat) {S : kS} {res : Int32 × kS} (h : FX5_worst n S = some res) : kEv l G (d + 17) mX5_worst [.ref (kg_ad G (kbo 0))] (kgl G n S) (some (.int res.1)) (kgl G n res.2) := by
  refine kEv_of RX5 [some (.ref (kg_ad G (kbo 0))), none] rfl (by decide +kernel) rfl rfl rfl rfl (fun X hX => ?_)
  subst hX
  unfold FX5_worst at h
  refine kV_aloadn 1 dX5_worst_0 rfl rfl ?_
  refine kV_aloadn 2 dX5_worst_1 rfl rfl ?_
  obtain ⟨x1, hx, h⟩ := kbi_ex h
  refine kC_V 5 [.ref (kg_ad G (kbo 0))] [.int x1, .ref (kg_ad G (kbo 0))] dX5_worst_2 (okX5_uppermost hG (d + 16)  hx) kmvX5_uppermost (wi_r15 _ (List.mem_of_getElem? (i := 15) rfl)) (kOk_of hG rfl) rfl rfl rfl rfl rfl rfl ?_
  clear hx
  obtain ⟨z1, hx, h⟩ := kbi_ex h
  refine kC_V 8 [] [kvo G z1] dX5_worst_5 (okX5_formAt hG (d + 16)  hx) kmvX5_formAt (wi_r7 _ (List.mem_of_getElem? (i := 7) rfl)) (kOk_of hG rfl) rfl rfl rfl rfl rfl rfl ?_
  clear hx
  refine kV_astoreno 9 [some (.ref (kg_ad G (kbo 0))), some (kvo G z1)] dX5_worst_8 rfl rfl rfl ?_
  refine kV_aloadno 10 dX5_worst_9 rfl rfl ?_
  rcases kopt_ex h with ⟨hv, h⟩ | ⟨w_1, hv, h⟩
  · subst hv
    show kV _ _ _ [some (.ref (kg_ad G (kbo 0))), some (.null)] (.null :: []) _
    refine kV_ifnonnullN 13 dX5_worst_10 rfl ?_
    refine kV_bipush 15 dX5_worst_13 bp_m3 rfl ?_
    cases h
    exact kV_iret dX5_worst_15
  · subst hv
    show kV _ _ _ [some (.ref (kg_ad G (kbo 0))), some (.ref (kg_ad G (kbo w_1)))] (.ref (kg_ad G (kbo w_1)) :: []) _
    obtain ⟨ho_w_1, h⟩ := kgd_ex h
    have hO_w_1 := kOk_fm hG ho_w_1
    have hc_w_1 := kci_fm ho_w_1
    refine kV_ifnonnull 16 dX5_worst_10 (by decide) ?_
    refine kV_aloadn 17 dX5_worst_16 rfl rfl ?_
    refine rg5_49 20 dX5_worst_17 (kOk_of hG rfl) rfl ?_
    refine kV_aloadn 21 dX5_worst_20 rfl rfl ?_
    obtain ⟨x2, S1, hx, h⟩ := kb2_ex h
    refine kC_V 24 [] [.int x2] dX5_worst_21 (okX2_fewestQuestions hG d ho_w_1 hx) kmvX2_fewestQuestions (wi_r29 _ (List.mem_of_getElem? (i := 21) rfl)) (kOk_of hG rfl) rfl rfl rfl rfl rfl rfl ?_
    clear hx
    cases h
    exact kV_iret dX5_worst_24
abbrev mX5_asNumber : kM := (yX5_asNumber, cX5_asNumber, 1, (some .int))
theorem kmtX5_asNumber : kMt mX5_asNumber 1 := ⟨⟨(wi_r30 _ (List.mem_of_getElem? (i := 12) rfl)), (wi_r1 _ (List.mem_of_getElem? (i := 2) rfl)), ⟨by decide +kernel, by decide +kernel, by decide +kernel⟩, by decide⟩, (wi_r30 _ (List.mem_of_getElem? (i := 11) rfl))⟩
def FX5_asNumber_J9 (S : kS) (s0 : Int32) : Option (Int32) :=
  some s0
def FX5_asNumber (S : kS) (a1 : Int32) : Option (Int32) :=
  if a1 = 0 then (FX5_asNumber_J9 S (0 : Int32)) else (FX5_asNumber_J9 S (1 : Int32))
theorem TX5_asNumber_J9 {G : kG} {n : Nat} {d : Nat} {X : kX} (hG : kg_N G = 55 + 14 * n) {S : kS} {s0 : Int32} {res : Int32} (h : FX5_asNumber_J9 S s0 = some res) : kV (X, RX5, 1, (some .int), G, krm (d + 0), (0, 0), kQ X G (some (.int res)) (kgl G n S)) cX5_asNumber (kgl G n S) [none] [.int s0] 9 := by
  unfold FX5_asNumber_J9 at h
  cases h
  exact kV_iret dX5_asNumber_9
theorem okX5_asNumber {l : Launch} {G : kG} {n : Nat} (hG : kg_N G = 55 + 14 * n) (d : Nat) {S : kS} {a1 : Int32} {res : Int32} (h : FX5_asNumber S a1 = some res) : kEv l G (d + 0) mX5_asNumber [.int a1] (kgl G n S) (some (.int res)) (kgl G n S) := by
  refine kEv_of RX5 [some (.int a1)] rfl (by decide +kernel) rfl rfl rfl rfl (fun X hX => ?_)
  subst hX
  unfold FX5_asNumber at h
  refine kV_iloadn 1 dX5_asNumber_0 rfl rfl ?_
  rcases kif_ex h with ⟨hc, h⟩ | ⟨hc, h⟩
  · refine kV_if_eq_t 8 dX5_asNumber_1 (by decide) hc ?_
    clear hc
    refine kV_iconst 9 dX5_asNumber_8 ic_0 rfl ?_
    refine kV_drop [false] rfl ?_
    exact TX5_asNumber_J9 hG h
  · refine kV_if_eq_f 8 4 dX5_asNumber_1 (by decide) hc rfl ?_
    clear hc
    refine kV_iconst 5 dX5_asNumber_4 ic_1 rfl ?_
    refine kV_goto 9 dX5_asNumber_5 (by decide) ?_
    refine kV_drop [false] rfl ?_
    exact TX5_asNumber_J9 hG h
abbrev mX5_about : kM := (yX5_about, cX5_about, 5, (some .int))
theorem kmvX5_about : kMv mX5_about 3 5 := ⟨⟨(wi_r30 _ (List.mem_of_getElem? (i := 8) rfl)), (wi_r1 _ (List.mem_of_getElem? (i := 2) rfl)), ⟨by decide +kernel, by decide +kernel, by decide +kernel⟩, by decide⟩, (wi_r30 _ (List.mem_of_getElem? (i := 6) rfl)), (wi_r30 _ (List.mem_of_getElem? (i := 7) rfl)), rfl⟩
def FX5_about_J82 (n : Nat) (S : kS) (s0 : Int32) : Option (Int32) :=
  (FX5_asNumber S s0).bind fun x1 => some x1
def FX5_about_J21 (n : Nat) (S : kS) : Option (Int32) :=
  some (-1 : Int32)
def FX5_about (n : Nat) (S : kS) (a1 : Int32) (a2 : Int32) (a3 : Int32) : Option (Int32) :=
  (FX5_formAt n S a1).bind fun z1 => kopt z1 (FX5_about_J21 n S) (fun w_1 => kgd (kfm n w_1) <| (FX0_hasPlace w_1 S a2).bind fun x1 => if x1 = 0 then (FX5_about_J21 n S) else (if a3 = (0 : Int32) then ((FX0_setOf w_1 S a2).bind fun x2 => some x2) else (if a3 = (1 : Int32) then ((FX0_sureValue w_1 S a2).bind fun x3 => if x3 = (-1 : Int32) then (FX5_about_J82 n S (0 : Int32)) else (FX5_about_J82 n S (1 : Int32))) else (if a3 = (2 : Int32) then ((FX0_isWanted w_1 S a2).bind fun x4 => (FX5_asNumber S x4).bind fun x5 => some x5) else (if a3 = (3 : Int32) then ((FX0_kindOf w_1 S a2).bind fun x6 => some x6) else (if a3 = (4 : Int32) then ((FX0_sizeOf w_1 S a2).bind fun x7 => some x7) else (some (-1 : Int32))))))))
theorem TX5_about_J82 {G : kG} {n : Nat} {d : Nat} {X : kX} (hG : kg_N G = 55 + 14 * n) {S : kS} {s0 : Int32} {res : Int32} (h : FX5_about_J82 n S s0 = some res) : kV (X, RX5, 5, (some .int), G, krm (d + 3), (0, 0), kQ X G (some (.int res)) (kgl G n S)) cX5_about (kgl G n S) [none, none, none, none, none] [.int s0] 82 := by
  unfold FX5_about_J82 at h
  obtain ⟨x1, hx, h⟩ := kbi_ex h
  refine kC_S 85 [] [.int x1] dX5_about_82 (okX5_asNumber hG (d + 2)  hx) kmtX5_asNumber (wi_r30 _ (List.mem_of_getElem? (i := 10) rfl)) rfl rfl rfl rfl rfl ?_
  clear hx
  cases h
  exact kV_iret dX5_about_85
theorem TX5_about_J21 {G : kG} {n : Nat} {d : Nat} {X : kX} (hG : kg_N G = 55 + 14 * n) {S : kS} {res : Int32} (h : FX5_about_J21 n S = some res) : kV (X, RX5, 5, (some .int), G, krm (d + 3), (0, 0), kQ X G (some (.int res)) (kgl G n S)) cX5_about (kgl G n S) [none, none, none, none, none] [] 21 := by
  unfold FX5_about_J21 at h
  refine kV_iconst 22 dX5_about_21 ic_m1 rfl ?_
  cases h
  exact kV_iret dX5_about_22
theorem okX5_about {l : Launch} {G : kG} {n : Nat} (hG : kg_N G = 55 + 14 * n) (d : Nat) {S : kS} {a1 : Int32} {a2 : Int32} {a3 : Int32} {res : Int32} (h : FX5_about n S a1 a2 a3 = some res) : kEv l G (d + 3) mX5_about [.ref (kg_ad G (kbo 0)), .int a1, .int a2, .int a3] (kgl G n S) (some (.int res)) (kgl G n S) := by
  refine kEv_of RX5 [some (.ref (kg_ad G (kbo 0))), some (.int a1), some (.int a2), some (.int a3), none] rfl (by decide +kernel) rfl rfl rfl rfl (fun X hX => ?_)
  subst hX
  unfold FX5_about at h
  refine kV_aloadn 1 dX5_about_0 rfl rfl ?_
  refine kV_iloadn 2 dX5_about_1 rfl rfl ?_
  obtain ⟨z1, hx, h⟩ := kbi_ex h
  refine kC_V 5 [] [kvo G z1] dX5_about_2 (okX5_formAt hG (d + 2)  hx) kmvX5_formAt (wi_r7 _ (List.mem_of_getElem? (i := 7) rfl)) (kOk_of hG rfl) rfl rfl rfl rfl rfl rfl ?_
  clear hx
  refine kV_astoreo 7 [some (.ref (kg_ad G (kbo 0))), some (.int a1), some (.int a2), some (.int a3), some (kvo G z1)] dX5_about_5 rfl rfl rfl ?_
  refine kV_aloado 9 dX5_about_7 rfl rfl ?_
  rcases kopt_ex h with ⟨hv, h⟩ | ⟨w_1, hv, h⟩
  · subst hv
    show kV _ _ _ [some (.ref (kg_ad G (kbo 0))), some (.int a1), some (.int a2), some (.int a3), some (.null)] (.null :: []) _
    refine kV_ifnullN 21 dX5_about_9 (by decide) ?_
    refine kV_drop [false, false, false, false, false] rfl ?_
    exact TX5_about_J21 hG h
  · subst hv
    show kV _ _ _ [some (.ref (kg_ad G (kbo 0))), some (.int a1), some (.int a2), some (.int a3), some (.ref (kg_ad G (kbo w_1)))] (.ref (kg_ad G (kbo w_1)) :: []) _
    obtain ⟨ho_w_1, h⟩ := kgd_ex h
    have hO_w_1 := kOk_fm hG ho_w_1
    have hc_w_1 := kci_fm ho_w_1
    refine kV_ifnull 12 dX5_about_9 rfl ?_
    refine kV_aload 14 dX5_about_12 rfl rfl ?_
    refine kV_iloadn 15 dX5_about_14 rfl rfl ?_
    obtain ⟨x1, hx, h⟩ := kbi_ex h
    refine kC_V 18 [] [.int x1] dX5_about_15 (okX0_hasPlace hG (d + 2) ho_w_1 hx) kmvX0_hasPlace (wi_r8 _ (List.mem_of_getElem? (i := 22) rfl)) hO_w_1 hc_w_1 rfl rfl rfl rfl rfl ?_
    clear hx
    rcases kif_ex h with ⟨hc, h⟩ | ⟨hc, h⟩
    · refine kV_if_ne_f 23 21 dX5_about_18 (by decide) hc rfl ?_
      clear hc
      refine kV_drop [false, false, false, false, false] rfl ?_
      exact TX5_about_J21 hG h
    · refine kV_if_ne_t 23 dX5_about_18 (by decide) hc ?_
      clear hc
      refine kV_iloadn 24 dX5_about_23 rfl rfl ?_
      rcases kif_ex h with ⟨hc, h⟩ | ⟨hc0, h⟩
      · refine kV_tableIn (off := 36) 60 dX5_about_24 (by rw [hc]; decide) (by rw [hc]; decide) (by rw [hc]; decide) (by decide) ?_
        clear hc
        refine kV_aload 62 dX5_about_60 rfl rfl ?_
        refine kV_iloadn 63 dX5_about_62 rfl rfl ?_
        obtain ⟨x2, hx, h⟩ := kbi_ex h
        refine kC_V 66 [] [.int x2] dX5_about_63 (okX0_setOf hG d ho_w_1 hx) kmvX0_setOf (wi_r21 _ (List.mem_of_getElem? (i := 8) rfl)) hO_w_1 hc_w_1 rfl rfl rfl rfl rfl ?_
        clear hx
        cases h
        exact kV_iret dX5_about_66
      · rcases kif_ex h with ⟨hc, h⟩ | ⟨hc1, h⟩
        · refine kV_tableIn (off := 43) 67 dX5_about_24 (by rw [hc]; decide) (by rw [hc]; decide) (by rw [hc]; decide) (by decide) ?_
          clear hc
          refine kV_aload 69 dX5_about_67 rfl rfl ?_
          refine kV_iloadn 70 dX5_about_69 rfl rfl ?_
          obtain ⟨x3, hx, h⟩ := kbi_ex h
          refine kC_V 73 [] [.int x3] dX5_about_70 (okX0_sureValue hG (d + 1) ho_w_1 hx) kmvX0_sureValue (wi_r30 _ (List.mem_of_getElem? (i := 9) rfl)) hO_w_1 hc_w_1 rfl rfl rfl rfl rfl ?_
          clear hx
          refine kV_iconst 74 dX5_about_73 ic_m1 rfl ?_
          rcases kif_ex h with ⟨hc, h⟩ | ⟨hc, h⟩
          · refine kV_icmp_eq_t 81 dX5_about_74 (by decide) hc ?_
            clear hc
            refine kV_iconst 82 dX5_about_81 ic_0 rfl ?_
            refine kV_drop [false, false, false, false, false] rfl ?_
            exact TX5_about_J82 hG h
          · refine kV_icmp_eq_f 81 77 dX5_about_74 (by decide) hc rfl ?_
            clear hc
            refine kV_iconst 78 dX5_about_77 ic_1 rfl ?_
            refine kV_goto 82 dX5_about_78 (by decide) ?_
            refine kV_drop [false, false, false, false, false] rfl ?_
            exact TX5_about_J82 hG h
        · rcases kif_ex h with ⟨hc, h⟩ | ⟨hc2, h⟩
          · refine kV_tableIn (off := 62) 86 dX5_about_24 (by rw [hc]; decide) (by rw [hc]; decide) (by rw [hc]; decide) (by decide) ?_
            clear hc
            refine kV_aload 88 dX5_about_86 rfl rfl ?_
            refine kV_iloadn 89 dX5_about_88 rfl rfl ?_
            obtain ⟨x4, hx, h⟩ := kbi_ex h
            refine kC_V 92 [] [.int x4] dX5_about_89 (okX0_isWanted hG d ho_w_1 hx) kmvX0_isWanted (wi_r30 _ (List.mem_of_getElem? (i := 13) rfl)) hO_w_1 hc_w_1 rfl rfl rfl rfl rfl ?_
            clear hx
            obtain ⟨x5, hx, h⟩ := kbi_ex h
            refine kC_S 95 [] [.int x5] dX5_about_92 (okX5_asNumber hG (d + 2)  hx) kmtX5_asNumber (wi_r30 _ (List.mem_of_getElem? (i := 10) rfl)) rfl rfl rfl rfl rfl ?_
            clear hx
            cases h
            exact kV_iret dX5_about_95
          · rcases kif_ex h with ⟨hc, h⟩ | ⟨hc3, h⟩
            · refine kV_tableIn (off := 72) 96 dX5_about_24 (by rw [hc]; decide) (by rw [hc]; decide) (by rw [hc]; decide) (by decide) ?_
              clear hc
              refine kV_aload 98 dX5_about_96 rfl rfl ?_
              refine kV_iloadn 99 dX5_about_98 rfl rfl ?_
              obtain ⟨x6, hx, h⟩ := kbi_ex h
              refine kC_V 102 [] [.int x6] dX5_about_99 (okX0_kindOf hG (d + 1) ho_w_1 hx) kmvX0_kindOf (wi_r30 _ (List.mem_of_getElem? (i := 14) rfl)) hO_w_1 hc_w_1 rfl rfl rfl rfl rfl ?_
              clear hx
              cases h
              exact kV_iret dX5_about_102
            · rcases kif_ex h with ⟨hc, h⟩ | ⟨hc4, h⟩
              · refine kV_tableIn (off := 79) 103 dX5_about_24 (by rw [hc]; decide) (by rw [hc]; decide) (by rw [hc]; decide) (by decide) ?_
                clear hc
                refine kV_aload 105 dX5_about_103 rfl rfl ?_
                refine kV_iloadn 106 dX5_about_105 rfl rfl ?_
                obtain ⟨x7, hx, h⟩ := kbi_ex h
                refine kC_V 109 [] [.int x7] dX5_about_106 (okX0_sizeOf hG (d + 1) ho_w_1 hx) kmvX0_sizeOf (wi_r30 _ (List.mem_of_getElem? (i := 18) rfl)) hO_w_1 hc_w_1 rfl rfl rfl rfl rfl ?_
                clear hx
                cases h
                exact kV_iret dX5_about_109
              · refine kV_tableOut 110 dX5_about_24 (ktab_out 4 _ (fun j hj => match j, hj with | 0, _ => hc0 | 1, _ => hc1 | 2, _ => hc2 | 3, _ => hc3 | 4, _ => hc4 | j + 5, hj => absurd hj (by omega))) (by decide) ?_
                refine kV_iconst 111 dX5_about_110 ic_m1 rfl ?_
                cases h
                exact kV_iret dX5_about_111
abbrev mX5_said : kM := (yX5_said, cX5_said, 5, (some .int))
theorem kmvX5_said : kMv mX5_said 3 5 := ⟨⟨(wi_r31 _ (List.mem_of_getElem? (i := 2) rfl)), (wi_r1 _ (List.mem_of_getElem? (i := 2) rfl)), ⟨by decide +kernel, by decide +kernel, by decide +kernel⟩, by decide⟩, (wi_r31 _ (List.mem_of_getElem? (i := 0) rfl)), (wi_r31 _ (List.mem_of_getElem? (i := 1) rfl)), rfl⟩
def FX5_said_J22 (n : Nat) (S : kS) : Option (Int32) :=
  some (-1 : Int32)
def FX5_said (n : Nat) (S : kS) (a1 : Int32) (a2 : Int32) (a3 : Int32) : Option (Int32) :=
  (FX5_formAt n S a1).bind fun z1 => kopt z1 (FX5_said_J22 n S) (fun w_1 => kgd (kfm n w_1) <| (FX0_hasValue w_1 S a2 a3).bind fun x1 => if x1 = 0 then (FX5_said_J22 n S) else ((FX0_leastWord w_1 S a2 a3).bind fun x2 => some x2))
theorem TX5_said_J22 {G : kG} {n : Nat} {d : Nat} {X : kX} (hG : kg_N G = 55 + 14 * n) {S : kS} {res : Int32} (h : FX5_said_J22 n S = some res) : kV (X, RX5, 5, (some .int), G, krm (d + 2), (0, 0), kQ X G (some (.int res)) (kgl G n S)) cX5_said (kgl G n S) [none, none, none, none, none] [] 22 := by
  unfold FX5_said_J22 at h
  refine kV_iconst 23 dX5_said_22 ic_m1 rfl ?_
  cases h
  exact kV_iret dX5_said_23
theorem okX5_said {l : Launch} {G : kG} {n : Nat} (hG : kg_N G = 55 + 14 * n) (d : Nat) {S : kS} {a1 : Int32} {a2 : Int32} {a3 : Int32} {res : Int32} (h : FX5_said n S a1 a2 a3 = some res) : kEv l G (d + 2) mX5_said [.ref (kg_ad G (kbo 0)), .int a1, .int a2, .int a3] (kgl G n S) (some (.int res)) (kgl G n S) := by
  refine kEv_of RX5 [some (.ref (kg_ad G (kbo 0))), some (.int a1), some (.int a2), some (.int a3), none] rfl (by decide +kernel) rfl rfl rfl rfl (fun X hX => ?_)
  subst hX
  unfold FX5_said at h
  refine kV_aloadn 1 dX5_said_0 rfl rfl ?_
  refine kV_iloadn 2 dX5_said_1 rfl rfl ?_
  obtain ⟨z1, hx, h⟩ := kbi_ex h
  refine kC_V 5 [] [kvo G z1] dX5_said_2 (okX5_formAt hG (d + 1)  hx) kmvX5_formAt (wi_r7 _ (List.mem_of_getElem? (i := 7) rfl)) (kOk_of hG rfl) rfl rfl rfl rfl rfl rfl ?_
  clear hx
  refine kV_astoreo 7 [some (.ref (kg_ad G (kbo 0))), some (.int a1), some (.int a2), some (.int a3), some (kvo G z1)] dX5_said_5 rfl rfl rfl ?_
  refine kV_aloado 9 dX5_said_7 rfl rfl ?_
  rcases kopt_ex h with ⟨hv, h⟩ | ⟨w_1, hv, h⟩
  · subst hv
    show kV _ _ _ [some (.ref (kg_ad G (kbo 0))), some (.int a1), some (.int a2), some (.int a3), some (.null)] (.null :: []) _
    refine kV_ifnullN 22 dX5_said_9 (by decide) ?_
    refine kV_drop [false, false, false, false, false] rfl ?_
    exact TX5_said_J22 hG h
  · subst hv
    show kV _ _ _ [some (.ref (kg_ad G (kbo 0))), some (.int a1), some (.int a2), some (.int a3), some (.ref (kg_ad G (kbo w_1)))] (.ref (kg_ad G (kbo w_1)) :: []) _
    obtain ⟨ho_w_1, h⟩ := kgd_ex h
    have hO_w_1 := kOk_fm hG ho_w_1
    have hc_w_1 := kci_fm ho_w_1
    refine kV_ifnull 12 dX5_said_9 rfl ?_
    refine kV_aload 14 dX5_said_12 rfl rfl ?_
    refine kV_iloadn 15 dX5_said_14 rfl rfl ?_
    refine kV_iloadn 16 dX5_said_15 rfl rfl ?_
    obtain ⟨x1, hx, h⟩ := kbi_ex h
    refine kC_V 19 [] [.int x1] dX5_said_16 (okX0_hasValue hG d ho_w_1 hx) kmvX0_hasValue (wi_r9 _ (List.mem_of_getElem? (i := 19) rfl)) hO_w_1 hc_w_1 rfl rfl rfl rfl rfl ?_
    clear hx
    rcases kif_ex h with ⟨hc, h⟩ | ⟨hc, h⟩
    · refine kV_if_ne_f 24 22 dX5_said_19 (by decide) hc rfl ?_
      clear hc
      refine kV_drop [false, false, false, false, false] rfl ?_
      exact TX5_said_J22 hG h
    · refine kV_if_ne_t 24 dX5_said_19 (by decide) hc ?_
      clear hc
      refine kV_aload 26 dX5_said_24 rfl rfl ?_
      refine kV_iloadn 27 dX5_said_26 rfl rfl ?_
      refine kV_iloadn 28 dX5_said_27 rfl rfl ?_
      obtain ⟨x2, hx, h⟩ := kbi_ex h
      refine kC_V 31 [] [.int x2] dX5_said_28 (okX0_leastWord hG (d + 1) ho_w_1 hx) kmvX0_leastWord (wi_r31 _ (List.mem_of_getElem? (i := 3) rfl)) hO_w_1 hc_w_1 rfl rfl rfl rfl rfl ?_
      clear hx
      cases h
      exact kV_iret dX5_said_31
abbrev mX5_heard : kM := (yX5_heard, cX5_heard, 2, (some .int))
theorem kmvX5_heard : kMv mX5_heard 1 5 := ⟨⟨(wi_r31 _ (List.mem_of_getElem? (i := 14) rfl)), (wi_r1 _ (List.mem_of_getElem? (i := 2) rfl)), ⟨by decide +kernel, by decide +kernel, by decide +kernel⟩, by decide⟩, (wi_r31 _ (List.mem_of_getElem? (i := 12) rfl)), (wi_r31 _ (List.mem_of_getElem? (i := 13) rfl)), rfl⟩
def FX5_heard (S : kS) (a1 : Int32) : Option (Int32) :=
  if a1 = (0 : Int32) then ((FX3_leastCost S).bind fun x1 => some x1) else (if a1 = (1 : Int32) then ((FX3_isHeard S).bind fun x2 => (FX5_asNumber S x2).bind fun x3 => some x3) else (if a1 = (2 : Int32) then ((FX3_mostPassed S).bind fun x4 => some x4) else (if a1 = (3 : Int32) then ((FX3_leastReadings S).bind fun x5 => some x5) else (if a1 = (4 : Int32) then (kb (kI S 0 11) fun x6 => some x6) else (some (-1 : Int32))))))
theorem okX5_heard {l : Launch} {G : kG} {n : Nat} (hG : kg_N G = 55 + 14 * n) (d : Nat) {S : kS} {a1 : Int32} {res : Int32} (h : FX5_heard S a1 = some res) : kEv l G (d + 1) mX5_heard [.ref (kg_ad G (kbo 0)), .int a1] (kgl G n S) (some (.int res)) (kgl G n S) := by
  refine kEv_of RX5 [some (.ref (kg_ad G (kbo 0))), some (.int a1)] rfl (by decide +kernel) rfl rfl rfl rfl (fun X hX => ?_)
  subst hX
  unfold FX5_heard at h
  refine kV_iloadn 1 dX5_heard_0 rfl rfl ?_
  rcases kif_ex h with ⟨hc, h⟩ | ⟨hc0, h⟩
  · refine kV_tableIn (off := 35) 36 dX5_heard_1 (by rw [hc]; decide) (by rw [hc]; decide) (by rw [hc]; decide) (by decide) ?_
    clear hc
    refine kV_aloadn 37 dX5_heard_36 rfl rfl ?_
    refine rg5_42 40 dX5_heard_37 (kOk_of hG rfl) rfl ?_
    obtain ⟨x1, hx, h⟩ := kbi_ex h
    refine kC_V 43 [] [.int x1] dX5_heard_40 (okX3_leastCost hG d  hx) kmvX3_leastCost (wi_r19 _ (List.mem_of_getElem? (i := 8) rfl)) (kOk_of hG rfl) rfl rfl rfl rfl rfl rfl ?_
    clear hx
    cases h
    exact kV_iret dX5_heard_43
  · rcases kif_ex h with ⟨hc, h⟩ | ⟨hc1, h⟩
    · refine kV_tableIn (off := 43) 44 dX5_heard_1 (by rw [hc]; decide) (by rw [hc]; decide) (by rw [hc]; decide) (by decide) ?_
      clear hc
      refine kV_aloadn 45 dX5_heard_44 rfl rfl ?_
      refine rg5_42 48 dX5_heard_45 (kOk_of hG rfl) rfl ?_
      obtain ⟨x2, hx, h⟩ := kbi_ex h
      refine kC_V 51 [] [.int x2] dX5_heard_48 (okX3_isHeard hG d  hx) kmvX3_isHeard (wi_r19 _ (List.mem_of_getElem? (i := 4) rfl)) (kOk_of hG rfl) rfl rfl rfl rfl rfl rfl ?_
      clear hx
      obtain ⟨x3, hx, h⟩ := kbi_ex h
      refine kC_S 54 [] [.int x3] dX5_heard_51 (okX5_asNumber hG d  hx) kmtX5_asNumber (wi_r30 _ (List.mem_of_getElem? (i := 10) rfl)) rfl rfl rfl rfl rfl ?_
      clear hx
      cases h
      exact kV_iret dX5_heard_54
    · rcases kif_ex h with ⟨hc, h⟩ | ⟨hc2, h⟩
      · refine kV_tableIn (off := 54) 55 dX5_heard_1 (by rw [hc]; decide) (by rw [hc]; decide) (by rw [hc]; decide) (by decide) ?_
        clear hc
        refine kV_aloadn 56 dX5_heard_55 rfl rfl ?_
        refine rg5_42 59 dX5_heard_56 (kOk_of hG rfl) rfl ?_
        obtain ⟨x4, hx, h⟩ := kbi_ex h
        refine kC_V 62 [] [.int x4] dX5_heard_59 (okX3_mostPassed hG d  hx) kmvX3_mostPassed (wi_r31 _ (List.mem_of_getElem? (i := 15) rfl)) (kOk_of hG rfl) rfl rfl rfl rfl rfl rfl ?_
        clear hx
        cases h
        exact kV_iret dX5_heard_62
      · rcases kif_ex h with ⟨hc, h⟩ | ⟨hc3, h⟩
        · refine kV_tableIn (off := 62) 63 dX5_heard_1 (by rw [hc]; decide) (by rw [hc]; decide) (by rw [hc]; decide) (by decide) ?_
          clear hc
          refine kV_aloadn 64 dX5_heard_63 rfl rfl ?_
          refine rg5_42 67 dX5_heard_64 (kOk_of hG rfl) rfl ?_
          obtain ⟨x5, hx, h⟩ := kbi_ex h
          refine kC_V 70 [] [.int x5] dX5_heard_67 (okX3_leastReadings hG d  hx) kmvX3_leastReadings (wi_r31 _ (List.mem_of_getElem? (i := 19) rfl)) (kOk_of hG rfl) rfl rfl rfl rfl rfl rfl ?_
          clear hx
          cases h
          exact kV_iret dX5_heard_70
        · rcases kif_ex h with ⟨hc, h⟩ | ⟨hc4, h⟩
          · refine kV_tableIn (off := 70) 71 dX5_heard_1 (by rw [hc]; decide) (by rw [hc]; decide) (by rw [hc]; decide) (by decide) ?_
            clear hc
            refine kV_aloadn 72 dX5_heard_71 rfl rfl ?_
            obtain ⟨x6, hx, h⟩ := kb_ex h
            refine rg5_63 75 dX5_heard_72 (kOk_of hG rfl) rfl hx rfl ?_
            clear hx
            cases h
            exact kV_iret dX5_heard_75
          · refine kV_tableOut 76 dX5_heard_1 (ktab_out 4 _ (fun j hj => match j, hj with | 0, _ => hc0 | 1, _ => hc1 | 2, _ => hc2 | 3, _ => hc3 | 4, _ => hc4 | j + 5, hj => absurd hj (by omega))) (by decide) ?_
            refine kV_iconst 77 dX5_heard_76 ic_m1 rfl ?_
            cases h
            exact kV_iret dX5_heard_77
abbrev mX5_count : kM := (yX5_count, cX5_count, 2, (some .int))
theorem kmvX5_count : kMv mX5_count 1 5 := ⟨⟨(wi_r32 _ (List.mem_of_getElem? (i := 6) rfl)), (wi_r1 _ (List.mem_of_getElem? (i := 2) rfl)), ⟨by decide +kernel, by decide +kernel, by decide +kernel⟩, by decide⟩, (wi_r32 _ (List.mem_of_getElem? (i := 4) rfl)), (wi_r32 _ (List.mem_of_getElem? (i := 5) rfl)), rfl⟩
def FX5_count_J71 (S : kS) (s0 : Int32) : Option (Int32) :=
  (FX5_asNumber S s0).bind fun x1 => some x1
def FX5_count (S : kS) (a1 : Int32) : Option (Int32) :=
  if a1 = (0 : Int32) then (kb (kI S 0 4) fun x1 => some x1) else (if a1 = (1 : Int32) then ((FX5_uppermost S).bind fun x2 => some x2) else (if a1 = (2 : Int32) then (kb (kI S 0 10) fun x3 => if x3 < (3 : Int32) then (FX5_count_J71 S (0 : Int32)) else (FX5_count_J71 S (1 : Int32))) else (if a1 = (3 : Int32) then ((FX1_size S).bind fun x4 => some x4) else (if a1 = (4 : Int32) then (kb (kI S 0 6) fun x5 => some x5) else (if a1 = (5 : Int32) then ((FX4_itemCount S).bind fun x6 => some x6) else (if a1 = (6 : Int32) then (kb (kI S 0 1) fun x7 => some x7) else (if a1 = (7 : Int32) then ((FX4_rowCount S).bind fun x8 => some x8) else (some (-1 : Int32)))))))))
theorem TX5_count_J71 {G : kG} {n : Nat} {d : Nat} {X : kX} (hG : kg_N G = 55 + 14 * n) {S : kS} {s0 : Int32} {res : Int32} (h : FX5_count_J71 S s0 = some res) : kV (X, RX5, 2, (some .int), G, krm (d + 1), (0, 0), kQ X G (some (.int res)) (kgl G n S)) cX5_count (kgl G n S) [none, none] [.int s0] 71 := by
  unfold FX5_count_J71 at h
  obtain ⟨x1, hx, h⟩ := kbi_ex h
  refine kC_S 74 [] [.int x1] dX5_count_71 (okX5_asNumber hG d  hx) kmtX5_asNumber (wi_r30 _ (List.mem_of_getElem? (i := 10) rfl)) rfl rfl rfl rfl rfl ?_
  clear hx
  cases h
  exact kV_iret dX5_count_74
theorem okX5_count {l : Launch} {G : kG} {n : Nat} (hG : kg_N G = 55 + 14 * n) (d : Nat) {S : kS} {a1 : Int32} {res : Int32} (h : FX5_count S a1 = some res) : kEv l G (d + 1) mX5_count [.ref (kg_ad G (kbo 0)), .int a1] (kgl G n S) (some (.int res)) (kgl G n S) := by
  refine kEv_of RX5 [some (.ref (kg_ad G (kbo 0))), some (.int a1)] rfl (by decide +kernel) rfl rfl rfl rfl (fun X hX => ?_)
  subst hX
  unfold FX5_count at h
  refine kV_iloadn 1 dX5_count_0 rfl rfl ?_
  rcases kif_ex h with ⟨hc, h⟩ | ⟨hc0, h⟩
  · refine kV_tableIn (off := 47) 48 dX5_count_1 (by rw [hc]; decide) (by rw [hc]; decide) (by rw [hc]; decide) (by decide) ?_
    clear hc
    refine kV_aloadn 49 dX5_count_48 rfl rfl ?_
    obtain ⟨x1, hx, h⟩ := kb_ex h
    refine rg5_30 52 dX5_count_49 (kOk_of hG rfl) rfl hx rfl ?_
    clear hx
    cases h
    exact kV_iret dX5_count_52
  · rcases kif_ex h with ⟨hc, h⟩ | ⟨hc1, h⟩
    · refine kV_tableIn (off := 52) 53 dX5_count_1 (by rw [hc]; decide) (by rw [hc]; decide) (by rw [hc]; decide) (by decide) ?_
      clear hc
      refine kV_aloadn 54 dX5_count_53 rfl rfl ?_
      obtain ⟨x2, hx, h⟩ := kbi_ex h
      refine kC_V 57 [] [.int x2] dX5_count_54 (okX5_uppermost hG d  hx) kmvX5_uppermost (wi_r15 _ (List.mem_of_getElem? (i := 15) rfl)) (kOk_of hG rfl) rfl rfl rfl rfl rfl rfl ?_
      clear hx
      cases h
      exact kV_iret dX5_count_57
    · rcases kif_ex h with ⟨hc, h⟩ | ⟨hc2, h⟩
      · refine kV_tableIn (off := 57) 58 dX5_count_1 (by rw [hc]; decide) (by rw [hc]; decide) (by rw [hc]; decide) (by decide) ?_
        clear hc
        refine kV_aloadn 59 dX5_count_58 rfl rfl ?_
        obtain ⟨x3, hx, h⟩ := kb_ex h
        refine rg5_60 62 dX5_count_59 (kOk_of hG rfl) rfl hx rfl ?_
        clear hx
        refine kV_iconst 63 dX5_count_62 ic_3 rfl ?_
        rcases kif_ex h with ⟨hc, h⟩ | ⟨hc, h⟩
        · refine kV_icmp_lt_t 70 dX5_count_63 (by decide) hc ?_
          clear hc
          refine kV_iconst 71 dX5_count_70 ic_0 rfl ?_
          refine kV_drop [false, false] rfl ?_
          exact TX5_count_J71 hG h
        · refine kV_icmp_lt_f 70 66 dX5_count_63 (by decide) hc rfl ?_
          clear hc
          refine kV_iconst 67 dX5_count_66 ic_1 rfl ?_
          refine kV_goto 71 dX5_count_67 (by decide) ?_
          refine kV_drop [false, false] rfl ?_
          exact TX5_count_J71 hG h
      · rcases kif_ex h with ⟨hc, h⟩ | ⟨hc3, h⟩
        · refine kV_tableIn (off := 74) 75 dX5_count_1 (by rw [hc]; decide) (by rw [hc]; decide) (by rw [hc]; decide) (by decide) ?_
          clear hc
          refine kV_aloadn 76 dX5_count_75 rfl rfl ?_
          refine rg5_56 79 dX5_count_76 (kOk_of hG rfl) rfl ?_
          obtain ⟨x4, hx, h⟩ := kbi_ex h
          refine kC_V 82 [] [.int x4] dX5_count_79 (okX1_size hG d  hx) kmvX1_size (wi_r25 _ (List.mem_of_getElem? (i := 15) rfl)) (kOk_of hG rfl) rfl rfl rfl rfl rfl rfl ?_
          clear hx
          cases h
          exact kV_iret dX5_count_82
        · rcases kif_ex h with ⟨hc, h⟩ | ⟨hc4, h⟩
          · refine kV_tableIn (off := 82) 83 dX5_count_1 (by rw [hc]; decide) (by rw [hc]; decide) (by rw [hc]; decide) (by decide) ?_
            clear hc
            refine kV_aloadn 84 dX5_count_83 rfl rfl ?_
            obtain ⟨x5, hx, h⟩ := kb_ex h
            refine rg5_36 87 dX5_count_84 (kOk_of hG rfl) rfl hx rfl ?_
            clear hx
            cases h
            exact kV_iret dX5_count_87
          · rcases kif_ex h with ⟨hc, h⟩ | ⟨hc5, h⟩
            · refine kV_tableIn (off := 87) 88 dX5_count_1 (by rw [hc]; decide) (by rw [hc]; decide) (by rw [hc]; decide) (by decide) ?_
              clear hc
              refine kV_aloadn 89 dX5_count_88 rfl rfl ?_
              refine rg5_22 92 dX5_count_89 (kOk_of hG rfl) rfl ?_
              obtain ⟨x6, hx, h⟩ := kbi_ex h
              refine kC_V 95 [] [.int x6] dX5_count_92 (okX4_itemCount hG d  hx) kmvX4_itemCount (wi_r32 _ (List.mem_of_getElem? (i := 7) rfl)) (kOk_of hG rfl) rfl rfl rfl rfl rfl rfl ?_
              clear hx
              cases h
              exact kV_iret dX5_count_95
            · rcases kif_ex h with ⟨hc, h⟩ | ⟨hc6, h⟩
              · refine kV_tableIn (off := 95) 96 dX5_count_1 (by rw [hc]; decide) (by rw [hc]; decide) (by rw [hc]; decide) (by decide) ?_
                clear hc
                refine kV_aloadn 97 dX5_count_96 rfl rfl ?_
                obtain ⟨x7, hx, h⟩ := kb_ex h
                refine rg5_15 100 dX5_count_97 (kOk_of hG rfl) rfl hx rfl ?_
                clear hx
                cases h
                exact kV_iret dX5_count_100
              · rcases kif_ex h with ⟨hc, h⟩ | ⟨hc7, h⟩
                · refine kV_tableIn (off := 100) 101 dX5_count_1 (by rw [hc]; decide) (by rw [hc]; decide) (by rw [hc]; decide) (by decide) ?_
                  clear hc
                  refine kV_aloadn 102 dX5_count_101 rfl rfl ?_
                  refine rg5_22 105 dX5_count_102 (kOk_of hG rfl) rfl ?_
                  obtain ⟨x8, hx, h⟩ := kbi_ex h
                  refine kC_V 108 [] [.int x8] dX5_count_105 (okX4_rowCount hG d  hx) kmvX4_rowCount (wi_r32 _ (List.mem_of_getElem? (i := 11) rfl)) (kOk_of hG rfl) rfl rfl rfl rfl rfl rfl ?_
                  clear hx
                  cases h
                  exact kV_iret dX5_count_108
                · refine kV_tableOut 109 dX5_count_1 (ktab_out 7 _ (fun j hj => match j, hj with | 0, _ => hc0 | 1, _ => hc1 | 2, _ => hc2 | 3, _ => hc3 | 4, _ => hc4 | 5, _ => hc5 | 6, _ => hc6 | 7, _ => hc7 | j + 8, hj => absurd hj (by omega))) (by decide) ?_
                  refine kV_iconst 110 dX5_count_109 ic_m1 rfl ?_
                  cases h
                  exact kV_iret dX5_count_110
