abbrev mX1_size : kM := (yX1_size, cX1_size, 1, (some .int))
theorem kmvX1_size : kMv mX1_size 0 1 := ⟨⟨(wi_r25 _ (List.mem_of_getElem? (i := 18) rfl)), (wi_r2 _ (List.mem_of_getElem? (i := 10) rfl)), ⟨by decide +kernel, by decide +kernel, by decide +kernel⟩, by decide⟩, (wi_r25 _ (List.mem_of_getElem? (i := 16) rfl)), (wi_r25 _ (List.mem_of_getElem? (i := 17) rfl)), rfl⟩
def FX1_size (S : kS) : Option (Int32) :=
  kb (kI S 4 3) fun x1 => some x1
theorem okX1_size {l : Launch} {G : kG} {n : Nat} (hG : kg_N G = 55 + 14 * n) (d : Nat) {S : kS} {res : Int32} (h : FX1_size S = some res) : kEv l G (d + 0) mX1_size [.ref (kg_ad G (kbo 4))] (kgl G n S) (some (.int res)) (kgl G n S) := by
  refine kEv_of RX1 [some (.ref (kg_ad G (kbo 4)))] rfl (by decide +kernel) rfl rfl rfl rfl (fun X hX => ?_)
  subst hX
  unfold FX1_size at h
  refine kV_aloadn 1 dX1_size_0 rfl rfl ?_
  obtain ⟨x1, hx, h⟩ := kb_ex h
  refine rg1_22 4 dX1_size_1 (kOk_of hG rfl) rfl hx rfl ?_
  clear hx
  cases h
  exact kV_iret dX1_size_4
abbrev mX1_clear : kM := (yX1_clear, cX1_clear, 1, none)
theorem kmvX1_clear : kMv mX1_clear 0 1 := ⟨⟨(wi_r14 _ (List.mem_of_getElem? (i := 4) rfl)), (wi_r2 _ (List.mem_of_getElem? (i := 10) rfl)), ⟨by decide +kernel, by decide +kernel, by decide +kernel⟩, by decide⟩, (wi_r14 _ (List.mem_of_getElem? (i := 2) rfl)), (wi_r14 _ (List.mem_of_getElem? (i := 3) rfl)), rfl⟩
def FX1_clear (S : kS) : Option (kS) :=
  kb (kpI S 4 3 (0 : Int32)) fun S1 => some S1
theorem okX1_clear {l : Launch} {G : kG} {n : Nat} (hG : kg_N G = 55 + 14 * n) (d : Nat) {S : kS} {res : kS} (h : FX1_clear S = some res) : kEv l G (d + 0) mX1_clear [.ref (kg_ad G (kbo 4))] (kgl G n S) none (kgl G n res) := by
  refine kEv_of RX1 [some (.ref (kg_ad G (kbo 4)))] rfl (by decide +kernel) rfl rfl rfl rfl (fun X hX => ?_)
  subst hX
  unfold FX1_clear at h
  refine kV_aloadn 1 dX1_clear_0 rfl rfl ?_
  refine kV_iconst 2 dX1_clear_1 ic_0 rfl ?_
  obtain ⟨S1, hx, h⟩ := kb_ex h
  refine rp1_22 5 dX1_clear_2 (kOk_of hG rfl) rfl hx rfl ?_
  clear hx
  cases h
  exact kV_vret dX1_clear_5
abbrev mX1_keep : kM := (yX1_keep, cX1_keep, 3, none)
theorem kmvX1_keep : kMv mX1_keep 1 1 := ⟨⟨(wi_r19 _ (List.mem_of_getElem? (i := 15) rfl)), (wi_r2 _ (List.mem_of_getElem? (i := 10) rfl)), ⟨by decide +kernel, by decide +kernel, by decide +kernel⟩, by decide⟩, (wi_r19 _ (List.mem_of_getElem? (i := 13) rfl)), (wi_r19 _ (List.mem_of_getElem? (i := 14) rfl)), rfl⟩
def FX1_keep_J44 (n : Nat) (c2 : kS × Int32 → Option (kS)) (S : kS) (v2 : Int32) : Option (kS) :=
  c2 (S, (v2 + (1 : Int32)))
def FX1_keep_J50 (n : Nat) (S : kS) : Option (kS) :=
  kb (kI S 4 2) fun x1 => kb (kpI S 4 2 ((x1 + (1 : Int32)) - (x1 + (1 : Int32)) / (10 : Int32) * (10 : Int32))) fun S1 => kb (kI S1 4 3) fun x2 => kb (kpI S1 4 3 (kmin (10 : Int32) (x2 + (1 : Int32)))) fun S2 => some S2
def FX1_keep_B2 (n : Nat) (c2 : kS × Int32 → Option (kS)) (S : kS) (v2 : Int32) : Option (kS) :=
  if (3 : Int32) ≤ v2 then (FX1_keep_J50 n S) else (if (3 : Int32) ≤ v2 then (FX1_keep_J50 n S) else (kgd (kin v2 3) <| kb (kfo n v2) fun z1 => kopt z1 (FX1_keep_J44 n c2 S v2) (fun w_1 => kgd (kfm n w_1) <| kgd (kin v2 3) <| kb (kfo n v2) fun z2 => kb (kI S 4 2) fun x1 => kopt z2 none (fun w_2 => kgd (kfm n w_2) <| (FX0_copyTo w_2 S ((x1 * (15 : Int32)) + (v2 * (5 : Int32)))).bind fun S1 => FX1_keep_J44 n c2 S1 v2))))
def FX1_keep_L2 (n : Nat) (S : kS) (v2 : Int32) : Option (kS) :=
  kfix (fun rec (q : kS × Int32) => FX1_keep_B2 n rec q.1 q.2) kfuel (S, v2)
def FX1_keep (n : Nat) (S : kS) : Option (kS) :=
  FX1_keep_L2 n S (0 : Int32)
theorem TX1_keep_J44 {G : kG} {n : Nat} {d : Nat} {X : kX} (hG : kg_N G = 55 + 14 * n) {c2 : kS × Int32 → Option (kS)} {S : kS} (hc2 : ∀ (q : kS × Int32) (res : kS), c2 q = some res → kV (X, RX1, 3, none, G, krm (d + 2), (0, 0), kQ X G none (kgl G n res)) cX1_keep (kgl G n q.1) [some (.ref (kg_ad G (kbo 4))), some (.ref (kg_ad G (kbo 0 + 1))), some (.int (q.2))] [] 2) {v2 : Int32} {res : kS} (h : FX1_keep_J44 n c2 S v2 = some res) : kV (X, RX1, 3, none, G, krm (d + 2), (0, 0), kQ X G none (kgl G n res)) cX1_keep (kgl G n S) [some (.ref (kg_ad G (kbo 4))), some (.ref (kg_ad G (kbo 0 + 1))), some (.int v2)] [] 44 := by
  unfold FX1_keep_J44 at h
  refine kV_iinc 47 [some (.ref (kg_ad G (kbo 4))), some (.ref (kg_ad G (kbo 0 + 1))), some (.int (v2 + (1 : Int32)))] dX1_keep_44 rfl (kinc_1 _) rfl rfl rfl ?_
  refine kV_goto 2 dX1_keep_47 (by decide) ?_
  refine kV_drop [true, true, true] rfl ?_
  exact hc2 _ _ h
theorem TX1_keep_J50 {G : kG} {n : Nat} {d : Nat} {X : kX} (hG : kg_N G = 55 + 14 * n) {S : kS} {res : kS} (h : FX1_keep_J50 n S = some res) : kV (X, RX1, 3, none, G, krm (d + 2), (0, 0), kQ X G none (kgl G n res)) cX1_keep (kgl G n S) [some (.ref (kg_ad G (kbo 4))), none, none] [] 50 := by
  unfold FX1_keep_J50 at h
  refine kV_aloadn 51 dX1_keep_50 rfl rfl ?_
  refine kV_aloadn 52 dX1_keep_51 rfl rfl ?_
  obtain ⟨x1, hx, h⟩ := kb_ex h
  refine rg1_18 55 dX1_keep_52 (kOk_of hG rfl) rfl hx rfl ?_
  clear hx
  refine kV_iconst 56 dX1_keep_55 ic_1 rfl ?_
  refine kV_iadd 57 dX1_keep_56 rfl ?_
  refine kV_bipush 59 dX1_keep_57 bp_10 rfl ?_
  refine kV_irem 60 dX1_keep_59 (by decide) rfl ?_
  obtain ⟨S1, hx, h⟩ := kb_ex h
  refine rp1_18 63 dX1_keep_60 (kOk_of hG rfl) rfl hx rfl ?_
  clear hx
  refine kV_aloadn 64 dX1_keep_63 rfl rfl ?_
  refine kV_bipush 66 dX1_keep_64 bp_10 rfl ?_
  refine kV_aloadn 67 dX1_keep_66 rfl rfl ?_
  obtain ⟨x2, hx, h⟩ := kb_ex h
  refine rg1_22 70 dX1_keep_67 (kOk_of hG rfl) rfl hx rfl ?_
  clear hx
  refine kV_iconst 71 dX1_keep_70 ic_1 rfl ?_
  refine kV_iadd 72 dX1_keep_71 rfl ?_
  refine kC_min 75 dX1_keep_72 (wi_r19 _ (List.mem_of_getElem? (i := 16) rfl)) rfl rfl ?_
  obtain ⟨S2, hx, h⟩ := kb_ex h
  refine rp1_22 78 dX1_keep_75 (kOk_of hG rfl) rfl hx rfl ?_
  clear hx
  cases h
  exact kV_vret dX1_keep_78
theorem TX1_keep_B2 {G : kG} {n : Nat} {d : Nat} {X : kX} (hG : kg_N G = 55 + 14 * n) {c2 : kS × Int32 → Option (kS)} (hc2 : ∀ (q : kS × Int32) (res : kS), c2 q = some res → kV (X, RX1, 3, none, G, krm (d + 2), (0, 0), kQ X G none (kgl G n res)) cX1_keep (kgl G n q.1) [some (.ref (kg_ad G (kbo 4))), some (.ref (kg_ad G (kbo 0 + 1))), some (.int (q.2))] [] 2) {S : kS} {v2 : Int32} {res : kS} (h : FX1_keep_B2 n c2 S v2 = some res) : kV (X, RX1, 3, none, G, krm (d + 2), (0, 0), kQ X G none (kgl G n res)) cX1_keep (kgl G n S) [some (.ref (kg_ad G (kbo 4))), some (.ref (kg_ad G (kbo 0 + 1))), some (.int v2)] [] 2 := by
  unfold FX1_keep_B2 at h
  refine kV_iloadn 3 dX1_keep_2 rfl rfl ?_
  refine kV_aloadn 4 dX1_keep_3 rfl rfl ?_
  refine rf_len (v := (3 : Int32)) 5 dX1_keep_4 (kOk_of hG rfl) (by decide) rfl ?_
  rcases kif_ex h with ⟨hc, h⟩ | ⟨hc, h⟩
  · refine kV_icmp_ge_t 50 dX1_keep_5 (by decide) hc ?_
    clear hc
    refine kV_drop [true, false, false] rfl ?_
    exact TX1_keep_J50 hG h
  · refine kV_icmp_ge_f 50 8 dX1_keep_5 (by decide) hc rfl ?_
    clear hc
    refine kV_iloadn 9 dX1_keep_8 rfl rfl ?_
    refine kV_iconst 10 dX1_keep_9 ic_3 rfl ?_
    rcases kif_ex h with ⟨hc, h⟩ | ⟨hc, h⟩
    · refine kV_icmp_ge_t 50 dX1_keep_10 (by decide) hc ?_
      clear hc
      refine kV_drop [true, false, false] rfl ?_
      exact TX1_keep_J50 hG h
    · refine kV_icmp_ge_f 50 13 dX1_keep_10 (by decide) hc rfl ?_
      clear hc
      refine kV_aloadn 14 dX1_keep_13 rfl rfl ?_
      refine kV_iloadn 15 dX1_keep_14 rfl rfl ?_
      obtain ⟨hi, h⟩ := kgd_ex h
      obtain ⟨z1, hx, h⟩ := kb_ex h
      refine kf_get 16 dX1_keep_15 (kOk_of hG rfl) hi hx rfl ?_
      clear hi hx
      rcases kopt_ex h with ⟨hv, h⟩ | ⟨w_1, hv, h⟩
      · subst hv
        show kV _ _ _ [some (.ref (kg_ad G (kbo 4))), some (.ref (kg_ad G (kbo 0 + 1))), some (.int v2)] (.null :: []) _
        refine kV_ifnullN 44 dX1_keep_16 (by decide) ?_
        refine kV_drop [true, true, true] rfl ?_
        exact TX1_keep_J44 hG hc2 h
      · subst hv
        show kV _ _ _ [some (.ref (kg_ad G (kbo 4))), some (.ref (kg_ad G (kbo 0 + 1))), some (.int v2)] (.ref (kg_ad G (kbo w_1)) :: []) _
        obtain ⟨ho_w_1, h⟩ := kgd_ex h
        have hO_w_1 := kOk_fm hG ho_w_1
        have hc_w_1 := kci_fm ho_w_1
        refine kV_ifnull 19 dX1_keep_16 rfl ?_
        refine kV_aloadn 20 dX1_keep_19 rfl rfl ?_
        refine kV_iloadn 21 dX1_keep_20 rfl rfl ?_
        obtain ⟨hi, h⟩ := kgd_ex h
        obtain ⟨z2, hx, h⟩ := kb_ex h
        refine kf_get 22 dX1_keep_21 (kOk_of hG rfl) hi hx rfl ?_
        clear hi hx
        refine kV_aloadn 23 dX1_keep_22 rfl rfl ?_
        refine rg1_11 26 dX1_keep_23 (kOk_of hG rfl) rfl rfl ?_
        refine kV_aloadn 27 dX1_keep_26 rfl rfl ?_
        refine rg1_15 30 dX1_keep_27 (kOk_of hG rfl) rfl rfl ?_
        refine kV_aloadn 31 dX1_keep_30 rfl rfl ?_
        obtain ⟨x1, hx, h⟩ := kb_ex h
        refine rg1_18 34 dX1_keep_31 (kOk_of hG rfl) rfl hx rfl ?_
        clear hx
        refine kV_bipush 36 dX1_keep_34 bp_15 rfl ?_
        refine kV_imul 37 dX1_keep_36 rfl ?_
        refine kV_iloadn 38 dX1_keep_37 rfl rfl ?_
        refine kV_iconst 39 dX1_keep_38 ic_5 rfl ?_
        refine kV_imul 40 dX1_keep_39 rfl ?_
        refine kV_iadd 41 dX1_keep_40 rfl ?_
        rcases kopt_ex h with ⟨hv, h⟩ | ⟨w_2, hv, h⟩
        · cases h
        subst hv
        obtain ⟨ho_w_2, h⟩ := kgd_ex h
        have hO_w_2 := kOk_fm hG ho_w_2
        have hc_w_2 := kci_fm ho_w_2
        show kV _ _ _ [some (.ref (kg_ad G (kbo 4))), some (.ref (kg_ad G (kbo 0 + 1))), some (.int v2)] [.int ((x1 * (15 : Int32)) + (v2 * (5 : Int32))), .ref (kg_ad G (kbo 4 + 2)), .ref (kg_ad G (kbo 4 + 1)), .ref (kg_ad G (kbo w_2))] _
        obtain ⟨S1, hx, h⟩ := kbi_ex h
        refine kC_V 44 [] [] dX1_keep_41 (okX0_copyTo hG d ho_w_2 hx) kmvX0_copyTo (wi_r19 _ (List.mem_of_getElem? (i := 17) rfl)) hO_w_2 hc_w_2 rfl rfl rfl rfl rfl ?_
        clear hx
        refine kV_drop [true, true, true] rfl ?_
        exact TX1_keep_J44 hG hc2 h
theorem TX1_keep_L2 {G : kG} {n : Nat} {d : Nat} {X : kX} (hG : kg_N G = 55 + 14 * n) {S : kS} {v2 : Int32} {res : kS} (h : FX1_keep_L2 n S v2 = some res) : kV (X, RX1, 3, none, G, krm (d + 2), (0, 0), kQ X G none (kgl G n res)) cX1_keep (kgl G n S) [some (.ref (kg_ad G (kbo 4))), some (.ref (kg_ad G (kbo 0 + 1))), some (.int v2)] [] 2 := by
  unfold FX1_keep_L2 at h
  exact kfix_ok (P := fun (q : kS × Int32) (res : kS) => kV (X, RX1, 3, none, G, krm (d + 2), (0, 0), kQ X G none (kgl G n res)) cX1_keep (kgl G n q.1) [some (.ref (kg_ad G (kbo 4))), some (.ref (kg_ad G (kbo 0 + 1))), some (.int (q.2))] [] 2) (fun rec hrec q res hq => TX1_keep_B2 hG hrec hq) kfuel _ _ h
theorem okX1_keep {l : Launch} {G : kG} {n : Nat} (hG : kg_N G = 55 + 14 * n) (d : Nat) {S : kS} {res : kS} (h : FX1_keep n S = some res) : kEv l G (d + 2) mX1_keep [.ref (kg_ad G (kbo 4)), .ref (kg_ad G (kbo 0 + 1))] (kgl G n S) none (kgl G n res) := by
  refine kEv_of RX1 [some (.ref (kg_ad G (kbo 4))), some (.ref (kg_ad G (kbo 0 + 1))), none] rfl (by decide +kernel) rfl rfl rfl rfl (fun X hX => ?_)
  subst hX
  unfold FX1_keep at h
  refine kV_iconst 1 dX1_keep_0 ic_0 rfl ?_
  refine kV_istoren 2 [some (.ref (kg_ad G (kbo 4))), some (.ref (kg_ad G (kbo 0 + 1))), some (.int (0 : Int32))] dX1_keep_1 rfl rfl rfl ?_
  refine kV_drop [true, true, true] rfl ?_
  exact TX1_keep_L2 hG h
abbrev mX1_restore : kM := (yX1_restore, cX1_restore, 3, none)
theorem kmvX1_restore : kMv mX1_restore 1 1 := ⟨⟨(wi_r25 _ (List.mem_of_getElem? (i := 22) rfl)), (wi_r2 _ (List.mem_of_getElem? (i := 10) rfl)), ⟨by decide +kernel, by decide +kernel, by decide +kernel⟩, by decide⟩, (wi_r25 _ (List.mem_of_getElem? (i := 20) rfl)), (wi_r25 _ (List.mem_of_getElem? (i := 21) rfl)), rfl⟩
def FX1_restore_J74 (n : Nat) (c32 : kS × Int32 → Option (kS)) (S : kS) (v2 : Int32) : Option (kS) :=
  c32 (S, (v2 + (1 : Int32)))
def FX1_restore_J80 (n : Nat) (S : kS) : Option (kS) :=
  some S
def FX1_restore_B32 (n : Nat) (c32 : kS × Int32 → Option (kS)) (S : kS) (v2 : Int32) : Option (kS) :=
  if (3 : Int32) ≤ v2 then (FX1_restore_J80 n S) else (if (3 : Int32) ≤ v2 then (FX1_restore_J80 n S) else (kgd (kin v2 3) <| kb (kfo n v2) fun z1 => kopt z1 (FX1_restore_J74 n c32 S v2) (fun w_1 => kgd (kfm n w_1) <| kgd (kin v2 3) <| kb (kfo n v2) fun z2 => kb (kI S 4 2) fun x1 => kopt z2 none (fun w_2 => kgd (kfm n w_2) <| (FX0_copyFrom w_2 S ((x1 * (15 : Int32)) + (v2 * (5 : Int32)))).bind fun S1 => FX1_restore_J74 n c32 S1 v2))))
def FX1_restore_L32 (n : Nat) (S : kS) (v2 : Int32) : Option (kS) :=
  kfix (fun rec (q : kS × Int32) => FX1_restore_B32 n rec q.1 q.2) kfuel (S, v2)
def FX1_restore (n : Nat) (S : kS) : Option (kS) :=
  kb (kI S 4 2) fun x1 => kb (kpI S 4 2 (((x1 + (10 : Int32)) - (1 : Int32)) - ((x1 + (10 : Int32)) - (1 : Int32)) / (10 : Int32) * (10 : Int32))) fun S1 => kb (kI S1 4 3) fun x2 => kb (kpI S1 4 3 (kmax (0 : Int32) (x2 - (1 : Int32)))) fun S2 => FX1_restore_L32 n S2 (0 : Int32)
theorem TX1_restore_J74 {G : kG} {n : Nat} {d : Nat} {X : kX} (hG : kg_N G = 55 + 14 * n) {c32 : kS × Int32 → Option (kS)} {S : kS} (hc32 : ∀ (q : kS × Int32) (res : kS), c32 q = some res → kV (X, RX1, 3, none, G, krm (d + 2), (0, 0), kQ X G none (kgl G n res)) cX1_restore (kgl G n q.1) [some (.ref (kg_ad G (kbo 4))), some (.ref (kg_ad G (kbo 0 + 1))), some (.int (q.2))] [] 32) {v2 : Int32} {res : kS} (h : FX1_restore_J74 n c32 S v2 = some res) : kV (X, RX1, 3, none, G, krm (d + 2), (0, 0), kQ X G none (kgl G n res)) cX1_restore (kgl G n S) [some (.ref (kg_ad G (kbo 4))), some (.ref (kg_ad G (kbo 0 + 1))), some (.int v2)] [] 74 := by
  unfold FX1_restore_J74 at h
  refine kV_iinc 77 [some (.ref (kg_ad G (kbo 4))), some (.ref (kg_ad G (kbo 0 + 1))), some (.int (v2 + (1 : Int32)))] dX1_restore_74 rfl (kinc_1 _) rfl rfl rfl ?_
  refine kV_goto 32 dX1_restore_77 (by decide) ?_
  refine kV_drop [true, true, true] rfl ?_
  exact hc32 _ _ h
theorem TX1_restore_J80 {G : kG} {n : Nat} {d : Nat} {X : kX} (hG : kg_N G = 55 + 14 * n) {S : kS} {res : kS} (h : FX1_restore_J80 n S = some res) : kV (X, RX1, 3, none, G, krm (d + 2), (0, 0), kQ X G none (kgl G n res)) cX1_restore (kgl G n S) [none, none, none] [] 80 := by
  unfold FX1_restore_J80 at h
  cases h
  exact kV_vret dX1_restore_80
theorem TX1_restore_B32 {G : kG} {n : Nat} {d : Nat} {X : kX} (hG : kg_N G = 55 + 14 * n) {c32 : kS × Int32 → Option (kS)} (hc32 : ∀ (q : kS × Int32) (res : kS), c32 q = some res → kV (X, RX1, 3, none, G, krm (d + 2), (0, 0), kQ X G none (kgl G n res)) cX1_restore (kgl G n q.1) [some (.ref (kg_ad G (kbo 4))), some (.ref (kg_ad G (kbo 0 + 1))), some (.int (q.2))] [] 32) {S : kS} {v2 : Int32} {res : kS} (h : FX1_restore_B32 n c32 S v2 = some res) : kV (X, RX1, 3, none, G, krm (d + 2), (0, 0), kQ X G none (kgl G n res)) cX1_restore (kgl G n S) [some (.ref (kg_ad G (kbo 4))), some (.ref (kg_ad G (kbo 0 + 1))), some (.int v2)] [] 32 := by
  unfold FX1_restore_B32 at h
  refine kV_iloadn 33 dX1_restore_32 rfl rfl ?_
  refine kV_aloadn 34 dX1_restore_33 rfl rfl ?_
  refine rf_len (v := (3 : Int32)) 35 dX1_restore_34 (kOk_of hG rfl) (by decide) rfl ?_
  rcases kif_ex h with ⟨hc, h⟩ | ⟨hc, h⟩
  · refine kV_icmp_ge_t 80 dX1_restore_35 (by decide) hc ?_
    clear hc
    refine kV_drop [false, false, false] rfl ?_
    exact TX1_restore_J80 hG h
  · refine kV_icmp_ge_f 80 38 dX1_restore_35 (by decide) hc rfl ?_
    clear hc
    refine kV_iloadn 39 dX1_restore_38 rfl rfl ?_
    refine kV_iconst 40 dX1_restore_39 ic_3 rfl ?_
    rcases kif_ex h with ⟨hc, h⟩ | ⟨hc, h⟩
    · refine kV_icmp_ge_t 80 dX1_restore_40 (by decide) hc ?_
      clear hc
      refine kV_drop [false, false, false] rfl ?_
      exact TX1_restore_J80 hG h
    · refine kV_icmp_ge_f 80 43 dX1_restore_40 (by decide) hc rfl ?_
      clear hc
      refine kV_aloadn 44 dX1_restore_43 rfl rfl ?_
      refine kV_iloadn 45 dX1_restore_44 rfl rfl ?_
      obtain ⟨hi, h⟩ := kgd_ex h
      obtain ⟨z1, hx, h⟩ := kb_ex h
      refine kf_get 46 dX1_restore_45 (kOk_of hG rfl) hi hx rfl ?_
      clear hi hx
      rcases kopt_ex h with ⟨hv, h⟩ | ⟨w_1, hv, h⟩
      · subst hv
        show kV _ _ _ [some (.ref (kg_ad G (kbo 4))), some (.ref (kg_ad G (kbo 0 + 1))), some (.int v2)] (.null :: []) _
        refine kV_ifnullN 74 dX1_restore_46 (by decide) ?_
        refine kV_drop [true, true, true] rfl ?_
        exact TX1_restore_J74 hG hc32 h
      · subst hv
        show kV _ _ _ [some (.ref (kg_ad G (kbo 4))), some (.ref (kg_ad G (kbo 0 + 1))), some (.int v2)] (.ref (kg_ad G (kbo w_1)) :: []) _
        obtain ⟨ho_w_1, h⟩ := kgd_ex h
        have hO_w_1 := kOk_fm hG ho_w_1
        have hc_w_1 := kci_fm ho_w_1
        refine kV_ifnull 49 dX1_restore_46 rfl ?_
        refine kV_aloadn 50 dX1_restore_49 rfl rfl ?_
        refine kV_iloadn 51 dX1_restore_50 rfl rfl ?_
        obtain ⟨hi, h⟩ := kgd_ex h
        obtain ⟨z2, hx, h⟩ := kb_ex h
        refine kf_get 52 dX1_restore_51 (kOk_of hG rfl) hi hx rfl ?_
        clear hi hx
        refine kV_aloadn 53 dX1_restore_52 rfl rfl ?_
        refine rg1_11 56 dX1_restore_53 (kOk_of hG rfl) rfl rfl ?_
        refine kV_aloadn 57 dX1_restore_56 rfl rfl ?_
        refine rg1_15 60 dX1_restore_57 (kOk_of hG rfl) rfl rfl ?_
        refine kV_aloadn 61 dX1_restore_60 rfl rfl ?_
        obtain ⟨x1, hx, h⟩ := kb_ex h
        refine rg1_18 64 dX1_restore_61 (kOk_of hG rfl) rfl hx rfl ?_
        clear hx
        refine kV_bipush 66 dX1_restore_64 bp_15 rfl ?_
        refine kV_imul 67 dX1_restore_66 rfl ?_
        refine kV_iloadn 68 dX1_restore_67 rfl rfl ?_
        refine kV_iconst 69 dX1_restore_68 ic_5 rfl ?_
        refine kV_imul 70 dX1_restore_69 rfl ?_
        refine kV_iadd 71 dX1_restore_70 rfl ?_
        rcases kopt_ex h with ⟨hv, h⟩ | ⟨w_2, hv, h⟩
        · cases h
        subst hv
        obtain ⟨ho_w_2, h⟩ := kgd_ex h
        have hO_w_2 := kOk_fm hG ho_w_2
        have hc_w_2 := kci_fm ho_w_2
        show kV _ _ _ [some (.ref (kg_ad G (kbo 4))), some (.ref (kg_ad G (kbo 0 + 1))), some (.int v2)] [.int ((x1 * (15 : Int32)) + (v2 * (5 : Int32))), .ref (kg_ad G (kbo 4 + 2)), .ref (kg_ad G (kbo 4 + 1)), .ref (kg_ad G (kbo w_2))] _
        obtain ⟨S1, hx, h⟩ := kbi_ex h
        refine kC_V 74 [] [] dX1_restore_71 (okX0_copyFrom hG d ho_w_2 hx) kmvX0_copyFrom (wi_r26 _ (List.mem_of_getElem? (i := 0) rfl)) hO_w_2 hc_w_2 rfl rfl rfl rfl rfl ?_
        clear hx
        refine kV_drop [true, true, true] rfl ?_
        exact TX1_restore_J74 hG hc32 h
theorem TX1_restore_L32 {G : kG} {n : Nat} {d : Nat} {X : kX} (hG : kg_N G = 55 + 14 * n) {S : kS} {v2 : Int32} {res : kS} (h : FX1_restore_L32 n S v2 = some res) : kV (X, RX1, 3, none, G, krm (d + 2), (0, 0), kQ X G none (kgl G n res)) cX1_restore (kgl G n S) [some (.ref (kg_ad G (kbo 4))), some (.ref (kg_ad G (kbo 0 + 1))), some (.int v2)] [] 32 := by
  unfold FX1_restore_L32 at h
  exact kfix_ok (P := fun (q : kS × Int32) (res : kS) => kV (X, RX1, 3, none, G, krm (d + 2), (0, 0), kQ X G none (kgl G n res)) cX1_restore (kgl G n q.1) [some (.ref (kg_ad G (kbo 4))), some (.ref (kg_ad G (kbo 0 + 1))), some (.int (q.2))] [] 32) (fun rec hrec q res hq => TX1_restore_B32 hG hrec hq) kfuel _ _ h
theorem okX1_restore {l : Launch} {G : kG} {n : Nat} (hG : kg_N G = 55 + 14 * n) (d : Nat) {S : kS} {res : kS} (h : FX1_restore n S = some res) : kEv l G (d + 2) mX1_restore [.ref (kg_ad G (kbo 4)), .ref (kg_ad G (kbo 0 + 1))] (kgl G n S) none (kgl G n res) := by
  refine kEv_of RX1 [some (.ref (kg_ad G (kbo 4))), some (.ref (kg_ad G (kbo 0 + 1))), none] rfl (by decide +kernel) rfl rfl rfl rfl (fun X hX => ?_)
  subst hX
  unfold FX1_restore at h
  refine kV_aloadn 1 dX1_restore_0 rfl rfl ?_
  refine kV_aloadn 2 dX1_restore_1 rfl rfl ?_
  obtain ⟨x1, hx, h⟩ := kb_ex h
  refine rg1_18 5 dX1_restore_2 (kOk_of hG rfl) rfl hx rfl ?_
  clear hx
  refine kV_bipush 7 dX1_restore_5 bp_10 rfl ?_
  refine kV_iadd 8 dX1_restore_7 rfl ?_
  refine kV_iconst 9 dX1_restore_8 ic_1 rfl ?_
  refine kV_isub 10 dX1_restore_9 rfl ?_
  refine kV_bipush 12 dX1_restore_10 bp_10 rfl ?_
  refine kV_irem 13 dX1_restore_12 (by decide) rfl ?_
  obtain ⟨S1, hx, h⟩ := kb_ex h
  refine rp1_18 16 dX1_restore_13 (kOk_of hG rfl) rfl hx rfl ?_
  clear hx
  refine kV_aloadn 17 dX1_restore_16 rfl rfl ?_
  refine kV_iconst 18 dX1_restore_17 ic_0 rfl ?_
  refine kV_aloadn 19 dX1_restore_18 rfl rfl ?_
  obtain ⟨x2, hx, h⟩ := kb_ex h
  refine rg1_22 22 dX1_restore_19 (kOk_of hG rfl) rfl hx rfl ?_
  clear hx
  refine kV_iconst 23 dX1_restore_22 ic_1 rfl ?_
  refine kV_isub 24 dX1_restore_23 rfl ?_
  refine kC_max 27 dX1_restore_24 (wi_r25 _ (List.mem_of_getElem? (i := 23) rfl)) rfl rfl ?_
  obtain ⟨S2, hx, h⟩ := kb_ex h
  refine rp1_22 30 dX1_restore_27 (kOk_of hG rfl) rfl hx rfl ?_
  clear hx
  refine kV_iconst 31 dX1_restore_30 ic_0 rfl ?_
  refine kV_istoren 32 [some (.ref (kg_ad G (kbo 4))), some (.ref (kg_ad G (kbo 0 + 1))), some (.int (0 : Int32))] dX1_restore_31 rfl rfl rfl ?_
  refine kV_drop [true, true, true] rfl ?_
  exact TX1_restore_L32 hG h
abbrev mX2_fewest : kM := (yX2_fewest, cX2_fewest, 8, (some .int))
theorem kmvX2_fewest : kMv mX2_fewest 3 2 := ⟨⟨(wi_r28 _ (List.mem_of_getElem? (i := 9) rfl)), (wi_r2 _ (List.mem_of_getElem? (i := 6) rfl)), ⟨by decide +kernel, by decide +kernel, by decide +kernel⟩, by decide⟩, (wi_r28 _ (List.mem_of_getElem? (i := 7) rfl)), (wi_r28 _ (List.mem_of_getElem? (i := 8) rfl)), rfl⟩
abbrev mX2_fewestBy : kM := (yX2_fewestBy, cX2_fewestBy, 9, (some .int))
theorem kmvX2_fewestBy : kMv mX2_fewestBy 4 2 := ⟨⟨(wi_r28 _ (List.mem_of_getElem? (i := 0) rfl)), (wi_r2 _ (List.mem_of_getElem? (i := 6) rfl)), ⟨by decide +kernel, by decide +kernel, by decide +kernel⟩, by decide⟩, (wi_r27 _ (List.mem_of_getElem? (i := 22) rfl)), (wi_r27 _ (List.mem_of_getElem? (i := 23) rfl)), rfl⟩
def FX2_fewestBy_J100 (o1 : Nat) (rc : kS × Nat × Int32 × Int32 → Option (Int32 × kS)) (c31 : kS × Int32 × Int32 × Int32 × Int32 × Int32 × Int32 → Option (Int32 × kS)) (S : kS) (v2 : Int32) (v3 : Int32) (v4 : Int32) (v5 : Int32) (v6 : Int32) (v7 : Int32) : Option (Int32 × kS) :=
  c31 (S, v2, v3, v4, v5, v6, (v7 + (1 : Int32)))
def FX2_fewestBy_J134 (o1 : Nat) (rc : kS × Nat × Int32 × Int32 → Option (Int32 × kS)) (S : kS) (s0 : Int32) : Option (Int32 × kS) :=
  some (s0, S)
def FX2_fewestBy_J106 (o1 : Nat) (rc : kS × Nat × Int32 × Int32 → Option (Int32 × kS)) (S : kS) (v2 : Int32) (v5 : Int32) (v6 : Int32) : Option (Int32 × kS) :=
  (FX0_put o1 S v2 v5 (-1 : Int32)).bind fun S1 => if v6 = (-1 : Int32) then (FX2_fewestBy_J134 o1 rc S1 (100 : Int32)) else (FX2_fewestBy_J134 o1 rc S1 (kmin (100 : Int32) (v6 + (1 : Int32))))
def FX2_fewestBy_B31 (o1 : Nat) (rc : kS × Nat × Int32 × Int32 → Option (Int32 × kS)) (c31 : kS × Int32 × Int32 × Int32 × Int32 × Int32 × Int32 → Option (Int32 × kS)) (S : kS) (v2 : Int32) (v3 : Int32) (v4 : Int32) (v5 : Int32) (v6 : Int32) (v7 : Int32) : Option (Int32 × kS) :=
  (FX0_sizeOf o1 S v2).bind fun x1 => if x1 ≤ v7 then (FX2_fewestBy_J106 o1 rc S v2 v5 v6) else (if (100 : Int32) ≤ v6 then (FX2_fewestBy_J106 o1 rc S v2 v5 v6) else ((FX0_put o1 S v2 ((1 : Int32) <<< (v7 &&& 31)) v7).bind fun S1 => (FX0_firstBrokenBar o1 S1).bind fun x2 => if x2 = (-1 : Int32) then (kgd (kin v2 5) <| kb (kA S1 3 1 v2) fun x3 => kb2 (rc (S1, o1, (v3 + (x3 * (v7 + (1 : Int32)))), (v4 + (1 : Int32)))) fun x4 S2 => FX2_fewestBy_J100 o1 rc c31 S2 v2 v3 v4 v5 (kmax v6 x4) v7) else (FX2_fewestBy_J100 o1 rc c31 S1 v2 v3 v4 v5 v6 v7)))
def FX2_fewestBy_L31 (o1 : Nat) (rc : kS × Nat × Int32 × Int32 → Option (Int32 × kS)) (S : kS) (v2 : Int32) (v3 : Int32) (v4 : Int32) (v5 : Int32) (v6 : Int32) (v7 : Int32) : Option (Int32 × kS) :=
  kfix (fun rec (q : kS × Int32 × Int32 × Int32 × Int32 × Int32 × Int32) => FX2_fewestBy_B31 o1 rc rec q.1 q.2.1 q.2.2.1 q.2.2.2.1 q.2.2.2.2.1 q.2.2.2.2.2.1 q.2.2.2.2.2.2) kfuel (S, v2, v3, v4, v5, v6, v7)
def FX2_fewestBy_J15 (o1 : Nat) (rc : kS × Nat × Int32 × Int32 → Option (Int32 × kS)) (S : kS) : Option (Int32 × kS) :=
  some ((100 : Int32), S)
def FX2_fewestBy (o1 : Nat) (rc : kS × Nat × Int32 × Int32 → Option (Int32 × kS)) (S : kS) (a2 : Int32) (a3 : Int32) (a4 : Int32) : Option (Int32 × kS) :=
  if (5 : Int32) ≤ a4 then (FX2_fewestBy_J15 o1 rc S) else (if a2 < 0 then (FX2_fewestBy_J15 o1 rc S) else (if a2 < (5 : Int32) then ((FX0_setOf o1 S a2).bind fun x1 => FX2_fewestBy_L31 o1 rc S a2 a3 a4 x1 (-1 : Int32) (0 : Int32)) else (FX2_fewestBy_J15 o1 rc S)))
theorem TX2_fewestBy_J100 {G : kG} {n : Nat} {m d : Nat} {X : kX} (hG : kg_N G = 55 + 14 * n) {o1 : Nat} {rc : kS × Nat × Int32 × Int32 → Option (Int32 × kS)} (ho_o1 : kfm n o1 = true) (hrc : ∀ (q : kS × Nat × Int32 × Int32) (res : Int32 × kS), kfm n q.2.1 = true → rc q = some res → kEv X.2.1 G ((d + 2 * m) + 3) mX2_fewest [.ref (kg_ad G (kbo 3)), .ref (kg_ad G (kbo q.2.1)), .int q.2.2.1, .int q.2.2.2] (kgl G n q.1) (some (.int res.1)) (kgl G n res.2)) {c31 : kS × Int32 × Int32 × Int32 × Int32 × Int32 × Int32 → Option (Int32 × kS)} {S : kS} (hc31 : ∀ (q : kS × Int32 × Int32 × Int32 × Int32 × Int32 × Int32) (res : Int32 × kS), c31 q = some res → kV (X, RX2, 9, (some .int), G, krm ((d + 2 * m) + 4), (0, 0), kQ X G (some (.int res.1)) (kgl G n res.2)) cX2_fewestBy (kgl G n q.1) [some (.ref (kg_ad G (kbo 3))), some (.ref (kg_ad G (kbo o1))), some (.int (q.2.1)), some (.int (q.2.2.1)), some (.int (q.2.2.2.1)), some (.int (q.2.2.2.2.1)), some (.int (q.2.2.2.2.2.1)), some (.int (q.2.2.2.2.2.2)), none] [] 31) {v2 : Int32} {v3 : Int32} {v4 : Int32} {v5 : Int32} {v6 : Int32} {v7 : Int32} {res : Int32 × kS} (h : FX2_fewestBy_J100 o1 rc c31 S v2 v3 v4 v5 v6 v7 = some res) : kV (X, RX2, 9, (some .int), G, krm ((d + 2 * m) + 4), (0, 0), kQ X G (some (.int res.1)) (kgl G n res.2)) cX2_fewestBy (kgl G n S) [some (.ref (kg_ad G (kbo 3))), some (.ref (kg_ad G (kbo o1))), some (.int v2), some (.int v3), some (.int v4), some (.int v5), some (.int v6), some (.int v7), none] [] 100 := by
  have hO_o1 := kOk_fm hG ho_o1
  have hc_o1 := kci_fm ho_o1
  unfold FX2_fewestBy_J100 at h
  refine kV_iinc 103 [some (.ref (kg_ad G (kbo 3))), some (.ref (kg_ad G (kbo o1))), some (.int v2), some (.int v3), some (.int v4), some (.int v5), some (.int v6), some (.int (v7 + (1 : Int32))), none] dX2_fewestBy_100 rfl (kinc_1 _) rfl rfl rfl ?_
  refine kV_goto 31 dX2_fewestBy_103 (by decide) ?_
  refine kV_drop [true, true, true, true, true, true, true, true, false] rfl ?_
  exact hc31 _ _ h
theorem TX2_fewestBy_J134 {G : kG} {n : Nat} {m d : Nat} {X : kX} (hG : kg_N G = 55 + 14 * n) {o1 : Nat} {rc : kS × Nat × Int32 × Int32 → Option (Int32 × kS)} (ho_o1 : kfm n o1 = true) (hrc : ∀ (q : kS × Nat × Int32 × Int32) (res : Int32 × kS), kfm n q.2.1 = true → rc q = some res → kEv X.2.1 G ((d + 2 * m) + 3) mX2_fewest [.ref (kg_ad G (kbo 3)), .ref (kg_ad G (kbo q.2.1)), .int q.2.2.1, .int q.2.2.2] (kgl G n q.1) (some (.int res.1)) (kgl G n res.2)) {S : kS} {s0 : Int32} {res : Int32 × kS} (h : FX2_fewestBy_J134 o1 rc S s0 = some res) : kV (X, RX2, 9, (some .int), G, krm ((d + 2 * m) + 4), (0, 0), kQ X G (some (.int res.1)) (kgl G n res.2)) cX2_fewestBy (kgl G n S) [none, none, none, none, none, none, none, none, none] [.int s0] 134 := by
  have hO_o1 := kOk_fm hG ho_o1
  have hc_o1 := kci_fm ho_o1
  unfold FX2_fewestBy_J134 at h
  cases h
  exact kV_iret dX2_fewestBy_134
theorem TX2_fewestBy_J106 {G : kG} {n : Nat} {m d : Nat} {X : kX} (hG : kg_N G = 55 + 14 * n) {o1 : Nat} {rc : kS × Nat × Int32 × Int32 → Option (Int32 × kS)} (ho_o1 : kfm n o1 = true) (hrc : ∀ (q : kS × Nat × Int32 × Int32) (res : Int32 × kS), kfm n q.2.1 = true → rc q = some res → kEv X.2.1 G ((d + 2 * m) + 3) mX2_fewest [.ref (kg_ad G (kbo 3)), .ref (kg_ad G (kbo q.2.1)), .int q.2.2.1, .int q.2.2.2] (kgl G n q.1) (some (.int res.1)) (kgl G n res.2)) {S : kS} {v2 : Int32} {v5 : Int32} {v6 : Int32} {res : Int32 × kS} (h : FX2_fewestBy_J106 o1 rc S v2 v5 v6 = some res) : kV (X, RX2, 9, (some .int), G, krm ((d + 2 * m) + 4), (0, 0), kQ X G (some (.int res.1)) (kgl G n res.2)) cX2_fewestBy (kgl G n S) [none, some (.ref (kg_ad G (kbo o1))), some (.int v2), none, none, some (.int v5), some (.int v6), none, none] [] 106 := by
  have hO_o1 := kOk_fm hG ho_o1
  have hc_o1 := kci_fm ho_o1
  unfold FX2_fewestBy_J106 at h
  refine kV_aloadn 107 dX2_fewestBy_106 rfl rfl ?_
  refine kV_iloadn 108 dX2_fewestBy_107 rfl rfl ?_
  refine kV_iload 110 dX2_fewestBy_108 rfl rfl ?_
  refine kV_iconst 111 dX2_fewestBy_110 ic_m1 rfl ?_
  obtain ⟨S1, hx, h⟩ := kbi_ex h
  refine kC_V 114 [] [] dX2_fewestBy_111 (okX0_put hG ((d + 2 * m) + 2) ho_o1 hx) kmvX0_put (wi_r28 _ (List.mem_of_getElem? (i := 4) rfl)) hO_o1 hc_o1 rfl rfl rfl rfl rfl ?_
  clear hx
  refine kV_iload 116 dX2_fewestBy_114 rfl rfl ?_
  refine kV_iconst 117 dX2_fewestBy_116 ic_m1 rfl ?_
  rcases kif_ex h with ⟨hc, h⟩ | ⟨hc, h⟩
  · refine kV_icmp_ne_f 125 120 dX2_fewestBy_117 (by decide) hc rfl ?_
    clear hc
    refine kV_bipush 122 dX2_fewestBy_120 bp_100 rfl ?_
    refine kV_goto 134 dX2_fewestBy_122 (by decide) ?_
    refine kV_drop [false, false, false, false, false, false, false, false, false] rfl ?_
    exact TX2_fewestBy_J134 hG ho_o1 hrc h
  · refine kV_icmp_ne_t 125 dX2_fewestBy_117 (by decide) hc ?_
    clear hc
    refine kV_bipush 127 dX2_fewestBy_125 bp_100 rfl ?_
    refine kV_iload 129 dX2_fewestBy_127 rfl rfl ?_
    refine kV_iconst 130 dX2_fewestBy_129 ic_1 rfl ?_
    refine kV_iadd 131 dX2_fewestBy_130 rfl ?_
    refine kC_min 134 dX2_fewestBy_131 (wi_r28 _ (List.mem_of_getElem? (i := 2) rfl)) rfl rfl ?_
    refine kV_drop [false, false, false, false, false, false, false, false, false] rfl ?_
    exact TX2_fewestBy_J134 hG ho_o1 hrc h
theorem TX2_fewestBy_B31 {G : kG} {n : Nat} {m d : Nat} {X : kX} (hG : kg_N G = 55 + 14 * n) {o1 : Nat} {rc : kS × Nat × Int32 × Int32 → Option (Int32 × kS)} (ho_o1 : kfm n o1 = true) (hrc : ∀ (q : kS × Nat × Int32 × Int32) (res : Int32 × kS), kfm n q.2.1 = true → rc q = some res → kEv X.2.1 G ((d + 2 * m) + 3) mX2_fewest [.ref (kg_ad G (kbo 3)), .ref (kg_ad G (kbo q.2.1)), .int q.2.2.1, .int q.2.2.2] (kgl G n q.1) (some (.int res.1)) (kgl G n res.2)) {c31 : kS × Int32 × Int32 × Int32 × Int32 × Int32 × Int32 → Option (Int32 × kS)} (hc31 : ∀ (q : kS × Int32 × Int32 × Int32 × Int32 × Int32 × Int32) (res : Int32 × kS), c31 q = some res → kV (X, RX2, 9, (some .int), G, krm ((d + 2 * m) + 4), (0, 0), kQ X G (some (.int res.1)) (kgl G n res.2)) cX2_fewestBy (kgl G n q.1) [some (.ref (kg_ad G (kbo 3))), some (.ref (kg_ad G (kbo o1))), some (.int (q.2.1)), some (.int (q.2.2.1)), some (.int (q.2.2.2.1)), some (.int (q.2.2.2.2.1)), some (.int (q.2.2.2.2.2.1)), some (.int (q.2.2.2.2.2.2)), none] [] 31) {S : kS} {v2 : Int32} {v3 : Int32} {v4 : Int32} {v5 : Int32} {v6 : Int32} {v7 : Int32} {res : Int32 × kS} (h : FX2_fewestBy_B31 o1 rc c31 S v2 v3 v4 v5 v6 v7 = some res) : kV (X, RX2, 9, (some .int), G, krm ((d + 2 * m) + 4), (0, 0), kQ X G (some (.int res.1)) (kgl G n res.2)) cX2_fewestBy (kgl G n S) [some (.ref (kg_ad G (kbo 3))), some (.ref (kg_ad G (kbo o1))), some (.int v2), some (.int v3), some (.int v4), some (.int v5), some (.int v6), some (.int v7), none] [] 31 := by
  have hO_o1 := kOk_fm hG ho_o1
  have hc_o1 := kci_fm ho_o1
  unfold FX2_fewestBy_B31 at h
  refine kV_iload 33 dX2_fewestBy_31 rfl rfl ?_
  refine kV_aloadn 34 dX2_fewestBy_33 rfl rfl ?_
  refine kV_iloadn 35 dX2_fewestBy_34 rfl rfl ?_
  obtain ⟨x1, hx, h⟩ := kbi_ex h
  refine kC_V 38 [.int v7] [.int x1, .int v7] dX2_fewestBy_35 (okX0_sizeOf hG ((d + 2 * m) + 2) ho_o1 hx) kmvX0_sizeOf (wi_r27 _ (List.mem_of_getElem? (i := 16) rfl)) hO_o1 hc_o1 rfl rfl rfl rfl rfl ?_
  clear hx
  rcases kif_ex h with ⟨hc, h⟩ | ⟨hc, h⟩
  · refine kV_icmp_ge_t 106 dX2_fewestBy_38 (by decide) hc ?_
    clear hc
    refine kV_drop [false, true, true, false, false, true, true, false, false] rfl ?_
    exact TX2_fewestBy_J106 hG ho_o1 hrc h
  · refine kV_icmp_ge_f 106 41 dX2_fewestBy_38 (by decide) hc rfl ?_
    clear hc
    refine kV_iload 43 dX2_fewestBy_41 rfl rfl ?_
    refine kV_bipush 45 dX2_fewestBy_43 bp_100 rfl ?_
    rcases kif_ex h with ⟨hc, h⟩ | ⟨hc, h⟩
    · refine kV_icmp_ge_t 106 dX2_fewestBy_45 (by decide) hc ?_
      clear hc
      refine kV_drop [false, true, true, false, false, true, true, false, false] rfl ?_
      exact TX2_fewestBy_J106 hG ho_o1 hrc h
    · refine kV_icmp_ge_f 106 48 dX2_fewestBy_45 (by decide) hc rfl ?_
      clear hc
      refine kV_aloadn 49 dX2_fewestBy_48 rfl rfl ?_
      refine kV_iloadn 50 dX2_fewestBy_49 rfl rfl ?_
      refine kV_iconst 51 dX2_fewestBy_50 ic_1 rfl ?_
      refine kV_iload 53 dX2_fewestBy_51 rfl rfl ?_
      refine kV_ishl 54 dX2_fewestBy_53 rfl ?_
      refine kV_iload 56 dX2_fewestBy_54 rfl rfl ?_
      obtain ⟨S1, hx, h⟩ := kbi_ex h
      refine kC_V 59 [] [] dX2_fewestBy_56 (okX0_put hG ((d + 2 * m) + 2) ho_o1 hx) kmvX0_put (wi_r28 _ (List.mem_of_getElem? (i := 4) rfl)) hO_o1 hc_o1 rfl rfl rfl rfl rfl ?_
      clear hx
      refine kV_aloadn 60 dX2_fewestBy_59 rfl rfl ?_
      obtain ⟨x2, hx, h⟩ := kbi_ex h
      refine kC_V 63 [] [.int x2] dX2_fewestBy_60 (okX0_firstBrokenBar hG ((d + 2 * m) + 1) ho_o1 hx) kmvX0_firstBrokenBar (wi_r28 _ (List.mem_of_getElem? (i := 5) rfl)) hO_o1 hc_o1 rfl rfl rfl rfl rfl ?_
      clear hx
      refine kV_iconst 64 dX2_fewestBy_63 ic_m1 rfl ?_
      rcases kif_ex h with ⟨hc, h⟩ | ⟨hc, h⟩
      · refine kV_icmp_ne_f 100 67 dX2_fewestBy_64 (by decide) hc rfl ?_
        clear hc
        refine kV_aloadn 68 dX2_fewestBy_67 rfl rfl ?_
        refine kV_aloadn 69 dX2_fewestBy_68 rfl rfl ?_
        refine kV_iloadn 70 dX2_fewestBy_69 rfl rfl ?_
        refine kV_aloadn 71 dX2_fewestBy_70 rfl rfl ?_
        refine rg2_15 74 dX2_fewestBy_71 (kOk_of hG rfl) rfl rfl ?_
        refine kV_iloadn 75 dX2_fewestBy_74 rfl rfl ?_
        obtain ⟨hi, h⟩ := kgd_ex h
        obtain ⟨x3, hx, h⟩ := kb_ex h
        refine rl2_1 76 dX2_fewestBy_75 (kOk_of hG rfl) rfl hi hx rfl ?_
        clear hi hx
        refine kV_iload 78 dX2_fewestBy_76 rfl rfl ?_
        refine kV_iconst 79 dX2_fewestBy_78 ic_1 rfl ?_
        refine kV_iadd 80 dX2_fewestBy_79 rfl ?_
        refine kV_imul 81 dX2_fewestBy_80 rfl ?_
        refine kV_iadd 82 dX2_fewestBy_81 rfl ?_
        refine kV_iload 84 dX2_fewestBy_82 rfl rfl ?_
        refine kV_iconst 85 dX2_fewestBy_84 ic_1 rfl ?_
        refine kV_iadd 86 dX2_fewestBy_85 rfl ?_
        obtain ⟨x4, S2, hx, h⟩ := kb2_ex h
        refine kC_V 89 [] [.int x4] dX2_fewestBy_86 (hrc _ _ ho_o1 hx) kmvX2_fewest (wi_r28 _ (List.mem_of_getElem? (i := 6) rfl)) (kOk_of hG rfl) rfl rfl rfl rfl rfl rfl ?_
        clear hx
        refine kV_istore 91 [some (.ref (kg_ad G (kbo 3))), some (.ref (kg_ad G (kbo o1))), some (.int v2), some (.int v3), some (.int v4), some (.int v5), some (.int v6), some (.int v7), some (.int x4)] dX2_fewestBy_89 rfl rfl rfl ?_
        refine kV_iload 93 dX2_fewestBy_91 rfl rfl ?_
        refine kV_iload 95 dX2_fewestBy_93 rfl rfl ?_
        refine kC_max 98 dX2_fewestBy_95 (wi_r28 _ (List.mem_of_getElem? (i := 1) rfl)) rfl rfl ?_
        refine kV_istore 100 [some (.ref (kg_ad G (kbo 3))), some (.ref (kg_ad G (kbo o1))), some (.int v2), some (.int v3), some (.int v4), some (.int v5), some (.int (kmax v6 x4)), some (.int v7), some (.int x4)] dX2_fewestBy_98 rfl rfl rfl ?_
        refine kV_drop [true, true, true, true, true, true, true, true, false] rfl ?_
        exact TX2_fewestBy_J100 hG ho_o1 hrc hc31 h
      · refine kV_icmp_ne_t 100 dX2_fewestBy_64 (by decide) hc ?_
        clear hc
        refine kV_drop [true, true, true, true, true, true, true, true, false] rfl ?_
        exact TX2_fewestBy_J100 hG ho_o1 hrc hc31 h
theorem TX2_fewestBy_L31 {G : kG} {n : Nat} {m d : Nat} {X : kX} (hG : kg_N G = 55 + 14 * n) {o1 : Nat} {rc : kS × Nat × Int32 × Int32 → Option (Int32 × kS)} (ho_o1 : kfm n o1 = true) (hrc : ∀ (q : kS × Nat × Int32 × Int32) (res : Int32 × kS), kfm n q.2.1 = true → rc q = some res → kEv X.2.1 G ((d + 2 * m) + 3) mX2_fewest [.ref (kg_ad G (kbo 3)), .ref (kg_ad G (kbo q.2.1)), .int q.2.2.1, .int q.2.2.2] (kgl G n q.1) (some (.int res.1)) (kgl G n res.2)) {S : kS} {v2 : Int32} {v3 : Int32} {v4 : Int32} {v5 : Int32} {v6 : Int32} {v7 : Int32} {res : Int32 × kS} (h : FX2_fewestBy_L31 o1 rc S v2 v3 v4 v5 v6 v7 = some res) : kV (X, RX2, 9, (some .int), G, krm ((d + 2 * m) + 4), (0, 0), kQ X G (some (.int res.1)) (kgl G n res.2)) cX2_fewestBy (kgl G n S) [some (.ref (kg_ad G (kbo 3))), some (.ref (kg_ad G (kbo o1))), some (.int v2), some (.int v3), some (.int v4), some (.int v5), some (.int v6), some (.int v7), none] [] 31 := by
  unfold FX2_fewestBy_L31 at h
  exact kfix_ok (P := fun (q : kS × Int32 × Int32 × Int32 × Int32 × Int32 × Int32) (res : Int32 × kS) => kV (X, RX2, 9, (some .int), G, krm ((d + 2 * m) + 4), (0, 0), kQ X G (some (.int res.1)) (kgl G n res.2)) cX2_fewestBy (kgl G n q.1) [some (.ref (kg_ad G (kbo 3))), some (.ref (kg_ad G (kbo o1))), some (.int (q.2.1)), some (.int (q.2.2.1)), some (.int (q.2.2.2.1)), some (.int (q.2.2.2.2.1)), some (.int (q.2.2.2.2.2.1)), some (.int (q.2.2.2.2.2.2)), none] [] 31) (fun rec hrec q res hq => TX2_fewestBy_B31 hG ho_o1 hrc hrec hq) kfuel _ _ h
theorem TX2_fewestBy_J15 {G : kG} {n : Nat} {m d : Nat} {X : kX} (hG : kg_N G = 55 + 14 * n) {o1 : Nat} {rc : kS × Nat × Int32 × Int32 → Option (Int32 × kS)} (ho_o1 : kfm n o1 = true) (hrc : ∀ (q : kS × Nat × Int32 × Int32) (res : Int32 × kS), kfm n q.2.1 = true → rc q = some res → kEv X.2.1 G ((d + 2 * m) + 3) mX2_fewest [.ref (kg_ad G (kbo 3)), .ref (kg_ad G (kbo q.2.1)), .int q.2.2.1, .int q.2.2.2] (kgl G n q.1) (some (.int res.1)) (kgl G n res.2)) {S : kS} {res : Int32 × kS} (h : FX2_fewestBy_J15 o1 rc S = some res) : kV (X, RX2, 9, (some .int), G, krm ((d + 2 * m) + 4), (0, 0), kQ X G (some (.int res.1)) (kgl G n res.2)) cX2_fewestBy (kgl G n S) [none, none, none, none, none, none, none, none, none] [] 15 := by
  have hO_o1 := kOk_fm hG ho_o1
  have hc_o1 := kci_fm ho_o1
  unfold FX2_fewestBy_J15 at h
  refine kV_bipush 17 dX2_fewestBy_15 bp_100 rfl ?_
  cases h
  exact kV_iret dX2_fewestBy_17
theorem okX2_fewestBy {l : Launch} {G : kG} {n : Nat} (hG : kg_N G = 55 + 14 * n) (m d : Nat) {o1 : Nat} {rc : kS × Nat × Int32 × Int32 → Option (Int32 × kS)} (ho_o1 : kfm n o1 = true) (hrc : ∀ (q : kS × Nat × Int32 × Int32) (res : Int32 × kS), kfm n q.2.1 = true → rc q = some res → kEv l G ((d + 2 * m) + 3) mX2_fewest [.ref (kg_ad G (kbo 3)), .ref (kg_ad G (kbo q.2.1)), .int q.2.2.1, .int q.2.2.2] (kgl G n q.1) (some (.int res.1)) (kgl G n res.2)) {S : kS} {a2 : Int32} {a3 : Int32} {a4 : Int32} {res : Int32 × kS} (h : FX2_fewestBy o1 rc S a2 a3 a4 = some res) : kEv l G ((d + 2 * m) + 4) mX2_fewestBy [.ref (kg_ad G (kbo 3)), .ref (kg_ad G (kbo o1)), .int a2, .int a3, .int a4] (kgl G n S) (some (.int res.1)) (kgl G n res.2) := by
  refine kEv_of RX2 [some (.ref (kg_ad G (kbo 3))), some (.ref (kg_ad G (kbo o1))), some (.int a2), some (.int a3), some (.int a4), none, none, none, none] rfl (by decide +kernel) rfl rfl rfl rfl (fun X hX => ?_)
  subst hX
  have hO_o1 := kOk_fm hG ho_o1
  have hc_o1 := kci_fm ho_o1
  unfold FX2_fewestBy at h
  refine kV_iload 2 dX2_fewestBy_0 rfl rfl ?_
  refine kV_iconst 3 dX2_fewestBy_2 ic_5 rfl ?_
  rcases kif_ex h with ⟨hc, h⟩ | ⟨hc, h⟩
  · refine kV_icmp_ge_t 15 dX2_fewestBy_3 (by decide) hc ?_
    clear hc
    refine kV_drop [false, false, false, false, false, false, false, false, false] rfl ?_
    exact TX2_fewestBy_J15 hG ho_o1 hrc h
  · refine kV_icmp_ge_f 15 6 dX2_fewestBy_3 (by decide) hc rfl ?_
    clear hc
    refine kV_iloadn 7 dX2_fewestBy_6 rfl rfl ?_
    rcases kif_ex h with ⟨hc, h⟩ | ⟨hc, h⟩
    · refine kV_if_lt_t 15 dX2_fewestBy_7 (by decide) hc ?_
      clear hc
      refine kV_drop [false, false, false, false, false, false, false, false, false] rfl ?_
      exact TX2_fewestBy_J15 hG ho_o1 hrc h
    · refine kV_if_lt_f 15 10 dX2_fewestBy_7 (by decide) hc rfl ?_
      clear hc
      refine kV_iloadn 11 dX2_fewestBy_10 rfl rfl ?_
      refine kV_iconst 12 dX2_fewestBy_11 ic_5 rfl ?_
      rcases kif_ex h with ⟨hc, h⟩ | ⟨hc, h⟩
      · refine kV_icmp_lt_t 18 dX2_fewestBy_12 (by decide) hc ?_
        clear hc
        refine kV_aloadn 19 dX2_fewestBy_18 rfl rfl ?_
        refine kV_iloadn 20 dX2_fewestBy_19 rfl rfl ?_
        obtain ⟨x1, hx, h⟩ := kbi_ex h
        refine kC_V 23 [] [.int x1] dX2_fewestBy_20 (okX0_setOf hG ((d + 2 * m) + 1) ho_o1 hx) kmvX0_setOf (wi_r28 _ (List.mem_of_getElem? (i := 3) rfl)) hO_o1 hc_o1 rfl rfl rfl rfl rfl ?_
        clear hx
        refine kV_istore 25 [some (.ref (kg_ad G (kbo 3))), some (.ref (kg_ad G (kbo o1))), some (.int a2), some (.int a3), some (.int a4), some (.int x1), none, none, none] dX2_fewestBy_23 rfl rfl rfl ?_
        refine kV_iconst 26 dX2_fewestBy_25 ic_m1 rfl ?_
        refine kV_istore 28 [some (.ref (kg_ad G (kbo 3))), some (.ref (kg_ad G (kbo o1))), some (.int a2), some (.int a3), some (.int a4), some (.int x1), some (.int (-1 : Int32)), none, none] dX2_fewestBy_26 rfl rfl rfl ?_
        refine kV_iconst 29 dX2_fewestBy_28 ic_0 rfl ?_
        refine kV_istore 31 [some (.ref (kg_ad G (kbo 3))), some (.ref (kg_ad G (kbo o1))), some (.int a2), some (.int a3), some (.int a4), some (.int x1), some (.int (-1 : Int32)), some (.int (0 : Int32)), none] dX2_fewestBy_29 rfl rfl rfl ?_
        refine kV_drop [true, true, true, true, true, true, true, true, false] rfl ?_
        exact TX2_fewestBy_L31 hG ho_o1 hrc h
      · refine kV_icmp_lt_f 18 15 dX2_fewestBy_12 (by decide) hc rfl ?_
        clear hc
        refine kV_drop [false, false, false, false, false, false, false, false, false] rfl ?_
        exact TX2_fewestBy_J15 hG ho_o1 hrc h
def FX2_fewest_J105 (o1 : Nat) (rc : kS × Nat × Int32 × Int32 → Option (Int32 × kS)) (S : kS) (v2 : Int32) (v6 : Int32) : Option (Int32 × kS) :=
  kgd (kin v2 3125) <| kb (kpA S 3 0 v2 v6) fun S1 => some (v6, S1)
def FX2_fewest_J99 (o1 : Nat) (rc : kS × Nat × Int32 × Int32 → Option (Int32 × kS)) (c60 : kS × Int32 × Int32 × Int32 × Int32 × Int32 × Int32 → Option (Int32 × kS)) (S : kS) (v2 : Int32) (v3 : Int32) (v4 : Int32) (v5 : Int32) (v6 : Int32) (v7 : Int32) : Option (Int32 × kS) :=
  c60 (S, v2, v3, v4, v5, v6, (v7 + (1 : Int32)))
def FX2_fewest_B60 (o1 : Nat) (rc : kS × Nat × Int32 × Int32 → Option (Int32 × kS)) (c60 : kS × Int32 × Int32 × Int32 × Int32 × Int32 × Int32 → Option (Int32 × kS)) (S : kS) (v2 : Int32) (v3 : Int32) (v4 : Int32) (v5 : Int32) (v6 : Int32) (v7 : Int32) : Option (Int32 × kS) :=
  if (5 : Int32) ≤ v7 then (FX2_fewest_J105 o1 rc S v2 v6) else (if v6 ≤ v5 then (FX2_fewest_J105 o1 rc S v2 v6) else (if ((v4 >>> (v7 &&& 31)) &&& (1 : Int32)) = 0 then (FX2_fewest_J99 o1 rc c60 S v2 v3 v4 v5 v6 v7) else (kb2 (FX2_fewestBy o1 rc S v7 v2 v3) fun x1 S1 => FX2_fewest_J99 o1 rc c60 S1 v2 v3 v4 v5 (kmin v6 x1) v7)))
def FX2_fewest_L60 (o1 : Nat) (rc : kS × Nat × Int32 × Int32 → Option (Int32 × kS)) (S : kS) (v2 : Int32) (v3 : Int32) (v4 : Int32) (v5 : Int32) (v6 : Int32) (v7 : Int32) : Option (Int32 × kS) :=
  kfix (fun rec (q : kS × Int32 × Int32 × Int32 × Int32 × Int32 × Int32) => FX2_fewest_B60 o1 rc rec q.1 q.2.1 q.2.2.1 q.2.2.2.1 q.2.2.2.2.1 q.2.2.2.2.2.1 q.2.2.2.2.2.2) kfuel (S, v2, v3, v4, v5, v6, v7)
def FX2_fewest_J55 (o1 : Nat) (rc : kS × Nat × Int32 × Int32 → Option (Int32 × kS)) (S : kS) (v2 : Int32) (v3 : Int32) (v4 : Int32) (v5 : Int32) (s0 : Int32) : Option (Int32 × kS) :=
  FX2_fewest_L60 o1 rc S v2 v3 v4 v5 s0 (0 : Int32)
def FX2_fewest_J11 (o1 : Nat) (rc : kS × Nat × Int32 × Int32 → Option (Int32 × kS)) (S : kS) : Option (Int32 × kS) :=
  some ((100 : Int32), S)
def FX2_fewest (o1 : Nat) (rc : kS × Nat × Int32 × Int32 → Option (Int32 × kS)) (S : kS) (a2 : Int32) (a3 : Int32) : Option (Int32 × kS) :=
  if a2 < 0 then (FX2_fewest_J11 o1 rc S) else (if a2 < (3125 : Int32) then (kgd (kin a2 3125) <| kb (kA S 3 0 a2) fun x1 => if x1 = (-1 : Int32) then ((FX0_questions o1 S).bind fun x2 => (FJ6_bitCount_0f7a4 S x2).bind fun x3 => if x3 = 0 then (FX2_fewest_J55 o1 rc S a2 a3 x2 x3 (0 : Int32)) else (FX2_fewest_J55 o1 rc S a2 a3 x2 x3 (100 : Int32))) else (kgd (kin a2 3125) <| kb (kA S 3 0 a2) fun x4 => some (x4, S))) else (FX2_fewest_J11 o1 rc S))
theorem TX2_fewest_J105 {G : kG} {n : Nat} {m d : Nat} {X : kX} (hG : kg_N G = 55 + 14 * n) {o1 : Nat} {rc : kS × Nat × Int32 × Int32 → Option (Int32 × kS)} (ho_o1 : kfm n o1 = true) (hrc : ∀ (q : kS × Nat × Int32 × Int32) (res : Int32 × kS), kfm n q.2.1 = true → rc q = some res → kEv X.2.1 G ((d + 2 * m) + 3) mX2_fewest [.ref (kg_ad G (kbo 3)), .ref (kg_ad G (kbo q.2.1)), .int q.2.2.1, .int q.2.2.2] (kgl G n q.1) (some (.int res.1)) (kgl G n res.2)) {S : kS} {v2 : Int32} {v6 : Int32} {res : Int32 × kS} (h : FX2_fewest_J105 o1 rc S v2 v6 = some res) : kV (X, RX2, 8, (some .int), G, krm ((d + 2 * m) + 5), (0, 0), kQ X G (some (.int res.1)) (kgl G n res.2)) cX2_fewest (kgl G n S) [some (.ref (kg_ad G (kbo 3))), none, some (.int v2), none, none, none, some (.int v6), none] [] 105 := by
  have hO_o1 := kOk_fm hG ho_o1
  have hc_o1 := kci_fm ho_o1
  unfold FX2_fewest_J105 at h
  refine kV_aloadn 106 dX2_fewest_105 rfl rfl ?_
  refine rg2_11 109 dX2_fewest_106 (kOk_of hG rfl) rfl rfl ?_
  refine kV_iloadn 110 dX2_fewest_109 rfl rfl ?_
  refine kV_iload 112 dX2_fewest_110 rfl rfl ?_
  obtain ⟨hi, h⟩ := kgd_ex h
  obtain ⟨S1, hx, h⟩ := kb_ex h
  refine rs2_0 113 dX2_fewest_112 (kOk_of hG rfl) rfl hi hx rfl ?_
  clear hi hx
  refine kV_iload 115 dX2_fewest_113 rfl rfl ?_
  cases h
  exact kV_iret dX2_fewest_115
theorem TX2_fewest_J99 {G : kG} {n : Nat} {m d : Nat} {X : kX} (hG : kg_N G = 55 + 14 * n) {o1 : Nat} {rc : kS × Nat × Int32 × Int32 → Option (Int32 × kS)} (ho_o1 : kfm n o1 = true) (hrc : ∀ (q : kS × Nat × Int32 × Int32) (res : Int32 × kS), kfm n q.2.1 = true → rc q = some res → kEv X.2.1 G ((d + 2 * m) + 3) mX2_fewest [.ref (kg_ad G (kbo 3)), .ref (kg_ad G (kbo q.2.1)), .int q.2.2.1, .int q.2.2.2] (kgl G n q.1) (some (.int res.1)) (kgl G n res.2)) {c60 : kS × Int32 × Int32 × Int32 × Int32 × Int32 × Int32 → Option (Int32 × kS)} {S : kS} (hc60 : ∀ (q : kS × Int32 × Int32 × Int32 × Int32 × Int32 × Int32) (res : Int32 × kS), c60 q = some res → kV (X, RX2, 8, (some .int), G, krm ((d + 2 * m) + 5), (0, 0), kQ X G (some (.int res.1)) (kgl G n res.2)) cX2_fewest (kgl G n q.1) [some (.ref (kg_ad G (kbo 3))), some (.ref (kg_ad G (kbo o1))), some (.int (q.2.1)), some (.int (q.2.2.1)), some (.int (q.2.2.2.1)), some (.int (q.2.2.2.2.1)), some (.int (q.2.2.2.2.2.1)), some (.int (q.2.2.2.2.2.2))] [] 60) {v2 : Int32} {v3 : Int32} {v4 : Int32} {v5 : Int32} {v6 : Int32} {v7 : Int32} {res : Int32 × kS} (h : FX2_fewest_J99 o1 rc c60 S v2 v3 v4 v5 v6 v7 = some res) : kV (X, RX2, 8, (some .int), G, krm ((d + 2 * m) + 5), (0, 0), kQ X G (some (.int res.1)) (kgl G n res.2)) cX2_fewest (kgl G n S) [some (.ref (kg_ad G (kbo 3))), some (.ref (kg_ad G (kbo o1))), some (.int v2), some (.int v3), some (.int v4), some (.int v5), some (.int v6), some (.int v7)] [] 99 := by
  have hO_o1 := kOk_fm hG ho_o1
  have hc_o1 := kci_fm ho_o1
  unfold FX2_fewest_J99 at h
  refine kV_iinc 102 [some (.ref (kg_ad G (kbo 3))), some (.ref (kg_ad G (kbo o1))), some (.int v2), some (.int v3), some (.int v4), some (.int v5), some (.int v6), some (.int (v7 + (1 : Int32)))] dX2_fewest_99 rfl (kinc_1 _) rfl rfl rfl ?_
  refine kV_goto 60 dX2_fewest_102 (by decide) ?_
  refine kV_drop [true, true, true, true, true, true, true, true] rfl ?_
  exact hc60 _ _ h
theorem TX2_fewest_B60 {G : kG} {n : Nat} {m d : Nat} {X : kX} (hG : kg_N G = 55 + 14 * n) {o1 : Nat} {rc : kS × Nat × Int32 × Int32 → Option (Int32 × kS)} (ho_o1 : kfm n o1 = true) (hrc : ∀ (q : kS × Nat × Int32 × Int32) (res : Int32 × kS), kfm n q.2.1 = true → rc q = some res → kEv X.2.1 G ((d + 2 * m) + 3) mX2_fewest [.ref (kg_ad G (kbo 3)), .ref (kg_ad G (kbo q.2.1)), .int q.2.2.1, .int q.2.2.2] (kgl G n q.1) (some (.int res.1)) (kgl G n res.2)) {c60 : kS × Int32 × Int32 × Int32 × Int32 × Int32 × Int32 → Option (Int32 × kS)} (hc60 : ∀ (q : kS × Int32 × Int32 × Int32 × Int32 × Int32 × Int32) (res : Int32 × kS), c60 q = some res → kV (X, RX2, 8, (some .int), G, krm ((d + 2 * m) + 5), (0, 0), kQ X G (some (.int res.1)) (kgl G n res.2)) cX2_fewest (kgl G n q.1) [some (.ref (kg_ad G (kbo 3))), some (.ref (kg_ad G (kbo o1))), some (.int (q.2.1)), some (.int (q.2.2.1)), some (.int (q.2.2.2.1)), some (.int (q.2.2.2.2.1)), some (.int (q.2.2.2.2.2.1)), some (.int (q.2.2.2.2.2.2))] [] 60) {S : kS} {v2 : Int32} {v3 : Int32} {v4 : Int32} {v5 : Int32} {v6 : Int32} {v7 : Int32} {res : Int32 × kS} (h : FX2_fewest_B60 o1 rc c60 S v2 v3 v4 v5 v6 v7 = some res) : kV (X, RX2, 8, (some .int), G, krm ((d + 2 * m) + 5), (0, 0), kQ X G (some (.int res.1)) (kgl G n res.2)) cX2_fewest (kgl G n S) [some (.ref (kg_ad G (kbo 3))), some (.ref (kg_ad G (kbo o1))), some (.int v2), some (.int v3), some (.int v4), some (.int v5), some (.int v6), some (.int v7)] [] 60 := by
  have hO_o1 := kOk_fm hG ho_o1
  have hc_o1 := kci_fm ho_o1
  unfold FX2_fewest_B60 at h
  refine kV_iload 62 dX2_fewest_60 rfl rfl ?_
  refine kV_iconst 63 dX2_fewest_62 ic_5 rfl ?_
  rcases kif_ex h with ⟨hc, h⟩ | ⟨hc, h⟩
  · refine kV_icmp_ge_t 105 dX2_fewest_63 (by decide) hc ?_
    clear hc
    refine kV_drop [true, false, true, false, false, false, true, false] rfl ?_
    exact TX2_fewest_J105 hG ho_o1 hrc h
  · refine kV_icmp_ge_f 105 66 dX2_fewest_63 (by decide) hc rfl ?_
    clear hc
    refine kV_iload 68 dX2_fewest_66 rfl rfl ?_
    refine kV_iload 70 dX2_fewest_68 rfl rfl ?_
    rcases kif_ex h with ⟨hc, h⟩ | ⟨hc, h⟩
    · refine kV_icmp_le_t 105 dX2_fewest_70 (by decide) hc ?_
      clear hc
      refine kV_drop [true, false, true, false, false, false, true, false] rfl ?_
      exact TX2_fewest_J105 hG ho_o1 hrc h
    · refine kV_icmp_le_f 105 73 dX2_fewest_70 (by decide) hc rfl ?_
      clear hc
      refine kV_iload 75 dX2_fewest_73 rfl rfl ?_
      refine kV_iload 77 dX2_fewest_75 rfl rfl ?_
      refine kV_ishr 78 dX2_fewest_77 rfl ?_
      refine kV_iconst 79 dX2_fewest_78 ic_1 rfl ?_
      refine kV_iand 80 dX2_fewest_79 rfl ?_
      rcases kif_ex h with ⟨hc, h⟩ | ⟨hc, h⟩
      · refine kV_if_eq_t 99 dX2_fewest_80 (by decide) hc ?_
        clear hc
        refine kV_drop [true, true, true, true, true, true, true, true] rfl ?_
        exact TX2_fewest_J99 hG ho_o1 hrc hc60 h
      · refine kV_if_eq_f 99 83 dX2_fewest_80 (by decide) hc rfl ?_
        clear hc
        refine kV_iload 85 dX2_fewest_83 rfl rfl ?_
        refine kV_aloadn 86 dX2_fewest_85 rfl rfl ?_
        refine kV_aloadn 87 dX2_fewest_86 rfl rfl ?_
        refine kV_iload 89 dX2_fewest_87 rfl rfl ?_
        refine kV_iloadn 90 dX2_fewest_89 rfl rfl ?_
        refine kV_iloadn 91 dX2_fewest_90 rfl rfl ?_
        obtain ⟨x1, S1, hx, h⟩ := kb2_ex h
        refine kC_V 94 [.int v6] [.int x1, .int v6] dX2_fewest_91 (okX2_fewestBy hG m d ho_o1 hrc hx) kmvX2_fewestBy (wi_r27 _ (List.mem_of_getElem? (i := 21) rfl)) (kOk_of hG rfl) rfl rfl rfl rfl rfl rfl ?_
        clear hx
        refine kC_min 97 dX2_fewest_94 (wi_r28 _ (List.mem_of_getElem? (i := 2) rfl)) rfl rfl ?_
        refine kV_istore 99 [some (.ref (kg_ad G (kbo 3))), some (.ref (kg_ad G (kbo o1))), some (.int v2), some (.int v3), some (.int v4), some (.int v5), some (.int (kmin v6 x1)), some (.int v7)] dX2_fewest_97 rfl rfl rfl ?_
        refine kV_drop [true, true, true, true, true, true, true, true] rfl ?_
        exact TX2_fewest_J99 hG ho_o1 hrc hc60 h
theorem TX2_fewest_L60 {G : kG} {n : Nat} {m d : Nat} {X : kX} (hG : kg_N G = 55 + 14 * n) {o1 : Nat} {rc : kS × Nat × Int32 × Int32 → Option (Int32 × kS)} (ho_o1 : kfm n o1 = true) (hrc : ∀ (q : kS × Nat × Int32 × Int32) (res : Int32 × kS), kfm n q.2.1 = true → rc q = some res → kEv X.2.1 G ((d + 2 * m) + 3) mX2_fewest [.ref (kg_ad G (kbo 3)), .ref (kg_ad G (kbo q.2.1)), .int q.2.2.1, .int q.2.2.2] (kgl G n q.1) (some (.int res.1)) (kgl G n res.2)) {S : kS} {v2 : Int32} {v3 : Int32} {v4 : Int32} {v5 : Int32} {v6 : Int32} {v7 : Int32} {res : Int32 × kS} (h : FX2_fewest_L60 o1 rc S v2 v3 v4 v5 v6 v7 = some res) : kV (X, RX2, 8, (some .int), G, krm ((d + 2 * m) + 5), (0, 0), kQ X G (some (.int res.1)) (kgl G n res.2)) cX2_fewest (kgl G n S) [some (.ref (kg_ad G (kbo 3))), some (.ref (kg_ad G (kbo o1))), some (.int v2), some (.int v3), some (.int v4), some (.int v5), some (.int v6), some (.int v7)] [] 60 := by
  unfold FX2_fewest_L60 at h
  exact kfix_ok (P := fun (q : kS × Int32 × Int32 × Int32 × Int32 × Int32 × Int32) (res : Int32 × kS) => kV (X, RX2, 8, (some .int), G, krm ((d + 2 * m) + 5), (0, 0), kQ X G (some (.int res.1)) (kgl G n res.2)) cX2_fewest (kgl G n q.1) [some (.ref (kg_ad G (kbo 3))), some (.ref (kg_ad G (kbo o1))), some (.int (q.2.1)), some (.int (q.2.2.1)), some (.int (q.2.2.2.1)), some (.int (q.2.2.2.2.1)), some (.int (q.2.2.2.2.2.1)), some (.int (q.2.2.2.2.2.2))] [] 60) (fun rec hrec q res hq => TX2_fewest_B60 hG ho_o1 hrc hrec hq) kfuel _ _ h
theorem TX2_fewest_J55 {G : kG} {n : Nat} {m d : Nat} {X : kX} (hG : kg_N G = 55 + 14 * n) {o1 : Nat} {rc : kS × Nat × Int32 × Int32 → Option (Int32 × kS)} (ho_o1 : kfm n o1 = true) (hrc : ∀ (q : kS × Nat × Int32 × Int32) (res : Int32 × kS), kfm n q.2.1 = true → rc q = some res → kEv X.2.1 G ((d + 2 * m) + 3) mX2_fewest [.ref (kg_ad G (kbo 3)), .ref (kg_ad G (kbo q.2.1)), .int q.2.2.1, .int q.2.2.2] (kgl G n q.1) (some (.int res.1)) (kgl G n res.2)) {S : kS} {v2 : Int32} {v3 : Int32} {v4 : Int32} {v5 : Int32} {s0 : Int32} {res : Int32 × kS} (h : FX2_fewest_J55 o1 rc S v2 v3 v4 v5 s0 = some res) : kV (X, RX2, 8, (some .int), G, krm ((d + 2 * m) + 5), (0, 0), kQ X G (some (.int res.1)) (kgl G n res.2)) cX2_fewest (kgl G n S) [some (.ref (kg_ad G (kbo 3))), some (.ref (kg_ad G (kbo o1))), some (.int v2), some (.int v3), some (.int v4), some (.int v5), none, none] [.int s0] 55 := by
  have hO_o1 := kOk_fm hG ho_o1
  have hc_o1 := kci_fm ho_o1
  unfold FX2_fewest_J55 at h
  refine kV_istore 57 [some (.ref (kg_ad G (kbo 3))), some (.ref (kg_ad G (kbo o1))), some (.int v2), some (.int v3), some (.int v4), some (.int v5), some (.int s0), none] dX2_fewest_55 rfl rfl rfl ?_
  refine kV_iconst 58 dX2_fewest_57 ic_0 rfl ?_
  refine kV_istore 60 [some (.ref (kg_ad G (kbo 3))), some (.ref (kg_ad G (kbo o1))), some (.int v2), some (.int v3), some (.int v4), some (.int v5), some (.int s0), some (.int (0 : Int32))] dX2_fewest_58 rfl rfl rfl ?_
  refine kV_drop [true, true, true, true, true, true, true, true] rfl ?_
  exact TX2_fewest_L60 hG ho_o1 hrc h
theorem TX2_fewest_J11 {G : kG} {n : Nat} {m d : Nat} {X : kX} (hG : kg_N G = 55 + 14 * n) {o1 : Nat} {rc : kS × Nat × Int32 × Int32 → Option (Int32 × kS)} (ho_o1 : kfm n o1 = true) (hrc : ∀ (q : kS × Nat × Int32 × Int32) (res : Int32 × kS), kfm n q.2.1 = true → rc q = some res → kEv X.2.1 G ((d + 2 * m) + 3) mX2_fewest [.ref (kg_ad G (kbo 3)), .ref (kg_ad G (kbo q.2.1)), .int q.2.2.1, .int q.2.2.2] (kgl G n q.1) (some (.int res.1)) (kgl G n res.2)) {S : kS} {res : Int32 × kS} (h : FX2_fewest_J11 o1 rc S = some res) : kV (X, RX2, 8, (some .int), G, krm ((d + 2 * m) + 5), (0, 0), kQ X G (some (.int res.1)) (kgl G n res.2)) cX2_fewest (kgl G n S) [none, none, none, none, none, none, none, none] [] 11 := by
  have hO_o1 := kOk_fm hG ho_o1
  have hc_o1 := kci_fm ho_o1
  unfold FX2_fewest_J11 at h
  refine kV_bipush 13 dX2_fewest_11 bp_100 rfl ?_
  cases h
  exact kV_iret dX2_fewest_13
theorem okX2_fewest {l : Launch} {G : kG} {n : Nat} (hG : kg_N G = 55 + 14 * n) (m d : Nat) {o1 : Nat} {rc : kS × Nat × Int32 × Int32 → Option (Int32 × kS)} (ho_o1 : kfm n o1 = true) (hrc : ∀ (q : kS × Nat × Int32 × Int32) (res : Int32 × kS), kfm n q.2.1 = true → rc q = some res → kEv l G ((d + 2 * m) + 3) mX2_fewest [.ref (kg_ad G (kbo 3)), .ref (kg_ad G (kbo q.2.1)), .int q.2.2.1, .int q.2.2.2] (kgl G n q.1) (some (.int res.1)) (kgl G n res.2)) {S : kS} {a2 : Int32} {a3 : Int32} {res : Int32 × kS} (h : FX2_fewest o1 rc S a2 a3 = some res) : kEv l G ((d + 2 * m) + 5) mX2_fewest [.ref (kg_ad G (kbo 3)), .ref (kg_ad G (kbo o1)), .int a2, .int a3] (kgl G n S) (some (.int res.1)) (kgl G n res.2) := by
  refine kEv_of RX2 [some (.ref (kg_ad G (kbo 3))), some (.ref (kg_ad G (kbo o1))), some (.int a2), some (.int a3), none, none, none, none] rfl (by decide +kernel) rfl rfl rfl rfl (fun X hX => ?_)
  subst hX
  have hO_o1 := kOk_fm hG ho_o1
  have hc_o1 := kci_fm ho_o1
  unfold FX2_fewest at h
  refine kV_iloadn 1 dX2_fewest_0 rfl rfl ?_
  rcases kif_ex h with ⟨hc, h⟩ | ⟨hc, h⟩
  · refine kV_if_lt_t 11 dX2_fewest_1 (by decide) hc ?_
    clear hc
    refine kV_drop [false, false, false, false, false, false, false, false] rfl ?_
    exact TX2_fewest_J11 hG ho_o1 hrc h
  · refine kV_if_lt_f 11 4 dX2_fewest_1 (by decide) hc rfl ?_
    clear hc
    refine kV_iloadn 5 dX2_fewest_4 rfl rfl ?_
    refine kV_sipush 8 dX2_fewest_5 sp_3125 rfl ?_
    rcases kif_ex h with ⟨hc, h⟩ | ⟨hc, h⟩
    · refine kV_icmp_lt_t 14 dX2_fewest_8 (by decide) hc ?_
      clear hc
      refine kV_aloadn 15 dX2_fewest_14 rfl rfl ?_
      refine rg2_11 18 dX2_fewest_15 (kOk_of hG rfl) rfl rfl ?_
      refine kV_iloadn 19 dX2_fewest_18 rfl rfl ?_
      obtain ⟨hi, h⟩ := kgd_ex h
      obtain ⟨x1, hx, h⟩ := kb_ex h
      refine rl2_0 20 dX2_fewest_19 (kOk_of hG rfl) rfl hi hx rfl ?_
      clear hi hx
      refine kV_iconst 21 dX2_fewest_20 ic_m1 rfl ?_
      rcases kif_ex h with ⟨hc, h⟩ | ⟨hc, h⟩
      · refine kV_icmp_eq_t 31 dX2_fewest_21 (by decide) hc ?_
        clear hc
        refine kV_aloadn 32 dX2_fewest_31 rfl rfl ?_
        obtain ⟨x2, hx, h⟩ := kbi_ex h
        refine kC_V 35 [] [.int x2] dX2_fewest_32 (okX0_questions hG ((d + 2 * m) + 1) ho_o1 hx) kmvX0_questions (wi_r27 _ (List.mem_of_getElem? (i := 20) rfl)) hO_o1 hc_o1 rfl rfl rfl rfl rfl ?_
        clear hx
        refine kV_istore 37 [some (.ref (kg_ad G (kbo 3))), some (.ref (kg_ad G (kbo o1))), some (.int a2), some (.int a3), some (.int x2), none, none, none] dX2_fewest_35 rfl rfl rfl ?_
        refine kV_iload 39 dX2_fewest_37 rfl rfl ?_
        obtain ⟨x3, hx, h⟩ := kbi_ex h
        refine kC_S 42 [] [.int x3] dX2_fewest_39 (okJ6_bitCount_0f7a4 hG ((d + 2 * m) + 4)  hx) kmtJ6_bitCount_0f7a4 (wi_r28 _ (List.mem_of_getElem? (i := 10) rfl)) rfl rfl rfl rfl rfl ?_
        clear hx
        refine kV_istore 44 [some (.ref (kg_ad G (kbo 3))), some (.ref (kg_ad G (kbo o1))), some (.int a2), some (.int a3), some (.int x2), some (.int x3), none, none] dX2_fewest_42 rfl rfl rfl ?_
        refine kV_iload 46 dX2_fewest_44 rfl rfl ?_
        rcases kif_ex h with ⟨hc, h⟩ | ⟨hc, h⟩
        · refine kV_if_ne_f 53 49 dX2_fewest_46 (by decide) hc rfl ?_
          clear hc
          refine kV_iconst 50 dX2_fewest_49 ic_0 rfl ?_
          refine kV_goto 55 dX2_fewest_50 (by decide) ?_
          refine kV_drop [true, true, true, true, true, true, false, false] rfl ?_
          exact TX2_fewest_J55 hG ho_o1 hrc h
        · refine kV_if_ne_t 53 dX2_fewest_46 (by decide) hc ?_
          clear hc
          refine kV_bipush 55 dX2_fewest_53 bp_100 rfl ?_
          refine kV_drop [true, true, true, true, true, true, false, false] rfl ?_
          exact TX2_fewest_J55 hG ho_o1 hrc h
      · refine kV_icmp_eq_f 31 24 dX2_fewest_21 (by decide) hc rfl ?_
        clear hc
        refine kV_aloadn 25 dX2_fewest_24 rfl rfl ?_
        refine rg2_11 28 dX2_fewest_25 (kOk_of hG rfl) rfl rfl ?_
        refine kV_iloadn 29 dX2_fewest_28 rfl rfl ?_
        obtain ⟨hi, h⟩ := kgd_ex h
        obtain ⟨x4, hx, h⟩ := kb_ex h
        refine rl2_0 30 dX2_fewest_29 (kOk_of hG rfl) rfl hi hx rfl ?_
        clear hi hx
        cases h
        exact kV_iret dX2_fewest_30
    · refine kV_icmp_lt_f 14 11 dX2_fewest_8 (by decide) hc rfl ?_
      clear hc
      refine kV_drop [false, false, false, false, false, false, false, false] rfl ?_
      exact TX2_fewest_J11 hG ho_o1 hrc h
def FX2_fewestR (m : Nat) (q : kS × Nat × Int32 × Int32) : Option (Int32 × kS) := kfix (fun rc q => FX2_fewest q.2.1 rc q.1 q.2.2.1 q.2.2.2) m q
theorem okX2_fewestR {l : Launch} {G : kG} {n : Nat} (hG : kg_N G = 55 + 14 * n) (d m : Nat) : ∀ (q : kS × Nat × Int32 × Int32) (res : Int32 × kS), FX2_fewestR m q = some res → kfm n q.2.1 = true → kEv l G (d + 2 * m + 3) mX2_fewest [.ref (kg_ad G (kbo 3)), .ref (kg_ad G (kbo q.2.1)), .int q.2.2.1, .int q.2.2.2] (kgl G n q.1) (some (.int res.1)) (kgl G n res.2) := by
  refine kfix_okD (P := fun m (q : kS × Nat × Int32 × Int32) (res : Int32 × kS) => kfm n q.2.1 = true → kEv l G (d + 2 * m + 3) mX2_fewest [.ref (kg_ad G (kbo 3)), .ref (kg_ad G (kbo q.2.1)), .int q.2.2.1, .int q.2.2.2] (kgl G n q.1) (some (.int res.1)) (kgl G n res.2)) (fun m rec hrec q res hq ho => ?_) m
  have e : d + 2 * (m + 1) + 3 = d + 2 * m + 5 := by omega
  rw [e]
  exact okX2_fewest hG m d ho (fun q res ho2 h2 => hrec q res h2 ho2) hq
theorem okX2_fewest6 {l : Launch} {G : kG} {n : Nat} (hG : kg_N G = 55 + 14 * n) (d : Nat) {S : kS} {o1 : Nat} (ho : kfm n o1 = true) {a2 a3 x : Int32} {S' : kS} (h : FX2_fewestR 6 (S, o1, a2, a3) = some (x, S')) : kEv l G (d + 15) mX2_fewest [.ref (kg_ad G (kbo 3)), .ref (kg_ad G (kbo o1)), .int a2, .int a3] (kgl G n S) (some (.int x)) (kgl G n S') := by
  have e : d + 15 = d + 2 * 6 + 3 := by omega
  rw [e]
  exact okX2_fewestR hG d 6 _ _ h ho
theorem okX2_fewestBy6 {l : Launch} {G : kG} {n : Nat} (hG : kg_N G = 55 + 14 * n) (d : Nat) {S : kS} {o1 : Nat} (ho : kfm n o1 = true) {a2 a3 a4 x : Int32} {S' : kS} (h : FX2_fewestBy o1 (FX2_fewestR 6) S a2 a3 a4 = some (x, S')) : kEv l G (d + 16) mX2_fewestBy [.ref (kg_ad G (kbo 3)), .ref (kg_ad G (kbo o1)), .int a2, .int a3, .int a4] (kgl G n S) (some (.int x)) (kgl G n S') := by
  have e : d + 16 = d + 2 * 6 + 4 := by omega
  rw [e]
  exact okX2_fewestBy hG 6 d ho (fun q res ho2 h2 => okX2_fewestR hG d 6 q res h2 ho2) h
abbrev mX2_startFrom : kM := (yX2_startFrom, cX2_startFrom, 4, none)
theorem kmvX2_startFrom : kMv mX2_startFrom 1 2 := ⟨⟨(wi_r27 _ (List.mem_of_getElem? (i := 12) rfl)), (wi_r2 _ (List.mem_of_getElem? (i := 6) rfl)), ⟨by decide +kernel, by decide +kernel, by decide +kernel⟩, by decide⟩, (wi_r27 _ (List.mem_of_getElem? (i := 10) rfl)), (wi_r27 _ (List.mem_of_getElem? (i := 11) rfl)), rfl⟩
def FX2_startFrom_J51 (o1 : Nat) (c4 : kS × Int32 × Int32 → Option (kS)) (S : kS) (v2 : Int32) (v3 : Int32) : Option (kS) :=
  c4 (S, v2, (v3 + (1 : Int32)))
def FX2_startFrom_J84 (o1 : Nat) (S : kS) : Option (kS) :=
  some S
def FX2_startFrom_B59 (o1 : Nat) (c59 : kS × Int32 × Int32 → Option (kS)) (S : kS) (v2 : Int32) (v3 : Int32) : Option (kS) :=
  if v2 ≤ v3 then (FX2_startFrom_J84 o1 S) else (if (3125 : Int32) ≤ v3 then (FX2_startFrom_J84 o1 S) else (kgd (kin v3 3125) <| kb (kpA S 3 0 v3 (-1 : Int32)) fun S1 => c59 (S1, v2, (v3 + (1 : Int32)))))
def FX2_startFrom_L59 (o1 : Nat) (S : kS) (v2 : Int32) (v3 : Int32) : Option (kS) :=
  kfix (fun rec (q : kS × Int32 × Int32) => FX2_startFrom_B59 o1 rec q.1 q.2.1 q.2.2) kfuel (S, v2, v3)
def FX2_startFrom_B4 (o1 : Nat) (c4 : kS × Int32 × Int32 → Option (kS)) (S : kS) (v2 : Int32) (v3 : Int32) : Option (kS) :=
  if (5 : Int32) ≤ v3 then (FX2_startFrom_L59 o1 S v2 (0 : Int32)) else (kgd (kin v3 5) <| kb (kpA S 3 1 v3 v2) fun S1 => (FX0_hasPlace o1 S1 v3).bind fun x1 => if x1 = 0 then (FX2_startFrom_J51 o1 c4 S1 v2 v3) else ((FX0_isWorked o1 S1 v3).bind fun x2 => if x2 = 0 then ((FX0_sureValue o1 S1 v3).bind fun x3 => if x3 = (-1 : Int32) then ((FX0_sizeOf o1 S1 v3).bind fun x4 => FX2_startFrom_J51 o1 c4 S1 (v2 * (x4 + (1 : Int32))) v3) else (FX2_startFrom_J51 o1 c4 S1 v2 v3)) else (FX2_startFrom_J51 o1 c4 S1 v2 v3)))
def FX2_startFrom_L4 (o1 : Nat) (S : kS) (v2 : Int32) (v3 : Int32) : Option (kS) :=
  kfix (fun rec (q : kS × Int32 × Int32) => FX2_startFrom_B4 o1 rec q.1 q.2.1 q.2.2) kfuel (S, v2, v3)
def FX2_startFrom (o1 : Nat) (S : kS) : Option (kS) :=
  FX2_startFrom_L4 o1 S (1 : Int32) (0 : Int32)
theorem TX2_startFrom_J51 {G : kG} {n : Nat} {d : Nat} {X : kX} (hG : kg_N G = 55 + 14 * n) {o1 : Nat} (ho_o1 : kfm n o1 = true) {c4 : kS × Int32 × Int32 → Option (kS)} {S : kS} (hc4 : ∀ (q : kS × Int32 × Int32) (res : kS), c4 q = some res → kV (X, RX2, 4, none, G, krm (d + 2), (0, 0), kQ X G none (kgl G n res)) cX2_startFrom (kgl G n q.1) [some (.ref (kg_ad G (kbo 3))), some (.ref (kg_ad G (kbo o1))), some (.int (q.2.1)), some (.int (q.2.2))] [] 4) {v2 : Int32} {v3 : Int32} {res : kS} (h : FX2_startFrom_J51 o1 c4 S v2 v3 = some res) : kV (X, RX2, 4, none, G, krm (d + 2), (0, 0), kQ X G none (kgl G n res)) cX2_startFrom (kgl G n S) [some (.ref (kg_ad G (kbo 3))), some (.ref (kg_ad G (kbo o1))), some (.int v2), some (.int v3)] [] 51 := by
  have hO_o1 := kOk_fm hG ho_o1
  have hc_o1 := kci_fm ho_o1
  unfold FX2_startFrom_J51 at h
  refine kV_iinc 54 [some (.ref (kg_ad G (kbo 3))), some (.ref (kg_ad G (kbo o1))), some (.int v2), some (.int (v3 + (1 : Int32)))] dX2_startFrom_51 rfl (kinc_1 _) rfl rfl rfl ?_
  refine kV_goto 4 dX2_startFrom_54 (by decide) ?_
  refine kV_drop [true, true, true, true] rfl ?_
  exact hc4 _ _ h
theorem TX2_startFrom_J84 {G : kG} {n : Nat} {d : Nat} {X : kX} (hG : kg_N G = 55 + 14 * n) {o1 : Nat} (ho_o1 : kfm n o1 = true) {S : kS} {res : kS} (h : FX2_startFrom_J84 o1 S = some res) : kV (X, RX2, 4, none, G, krm (d + 2), (0, 0), kQ X G none (kgl G n res)) cX2_startFrom (kgl G n S) [none, none, none, none] [] 84 := by
  have hO_o1 := kOk_fm hG ho_o1
  have hc_o1 := kci_fm ho_o1
  unfold FX2_startFrom_J84 at h
  cases h
  exact kV_vret dX2_startFrom_84
theorem TX2_startFrom_B59 {G : kG} {n : Nat} {d : Nat} {X : kX} (hG : kg_N G = 55 + 14 * n) {o1 : Nat} (ho_o1 : kfm n o1 = true) {c59 : kS × Int32 × Int32 → Option (kS)} (hc59 : ∀ (q : kS × Int32 × Int32) (res : kS), c59 q = some res → kV (X, RX2, 4, none, G, krm (d + 2), (0, 0), kQ X G none (kgl G n res)) cX2_startFrom (kgl G n q.1) [some (.ref (kg_ad G (kbo 3))), none, some (.int (q.2.1)), some (.int (q.2.2))] [] 59) {S : kS} {v2 : Int32} {v3 : Int32} {res : kS} (h : FX2_startFrom_B59 o1 c59 S v2 v3 = some res) : kV (X, RX2, 4, none, G, krm (d + 2), (0, 0), kQ X G none (kgl G n res)) cX2_startFrom (kgl G n S) [some (.ref (kg_ad G (kbo 3))), none, some (.int v2), some (.int v3)] [] 59 := by
  have hO_o1 := kOk_fm hG ho_o1
  have hc_o1 := kci_fm ho_o1
  unfold FX2_startFrom_B59 at h
  refine kV_iloadn 60 dX2_startFrom_59 rfl rfl ?_
  refine kV_iloadn 61 dX2_startFrom_60 rfl rfl ?_
  rcases kif_ex h with ⟨hc, h⟩ | ⟨hc, h⟩
  · refine kV_icmp_ge_t 84 dX2_startFrom_61 (by decide) hc ?_
    clear hc
    refine kV_drop [false, false, false, false] rfl ?_
    exact TX2_startFrom_J84 hG ho_o1 h
  · refine kV_icmp_ge_f 84 64 dX2_startFrom_61 (by decide) hc rfl ?_
    clear hc
    refine kV_iloadn 65 dX2_startFrom_64 rfl rfl ?_
    refine kV_sipush 68 dX2_startFrom_65 sp_3125 rfl ?_
    rcases kif_ex h with ⟨hc, h⟩ | ⟨hc, h⟩
    · refine kV_icmp_ge_t 84 dX2_startFrom_68 (by decide) hc ?_
      clear hc
      refine kV_drop [false, false, false, false] rfl ?_
      exact TX2_startFrom_J84 hG ho_o1 h
    · refine kV_icmp_ge_f 84 71 dX2_startFrom_68 (by decide) hc rfl ?_
      clear hc
      refine kV_aloadn 72 dX2_startFrom_71 rfl rfl ?_
      refine rg2_11 75 dX2_startFrom_72 (kOk_of hG rfl) rfl rfl ?_
      refine kV_iloadn 76 dX2_startFrom_75 rfl rfl ?_
      refine kV_iconst 77 dX2_startFrom_76 ic_m1 rfl ?_
      obtain ⟨hi, h⟩ := kgd_ex h
      obtain ⟨S1, hx, h⟩ := kb_ex h
      refine rs2_0 78 dX2_startFrom_77 (kOk_of hG rfl) rfl hi hx rfl ?_
      clear hi hx
      refine kV_iinc 81 [some (.ref (kg_ad G (kbo 3))), none, some (.int v2), some (.int (v3 + (1 : Int32)))] dX2_startFrom_78 rfl (kinc_1 _) rfl rfl rfl ?_
      refine kV_goto 59 dX2_startFrom_81 (by decide) ?_
      refine kV_drop [true, false, true, true] rfl ?_
      exact hc59 _ _ h
theorem TX2_startFrom_L59 {G : kG} {n : Nat} {d : Nat} {X : kX} (hG : kg_N G = 55 + 14 * n) {o1 : Nat} (ho_o1 : kfm n o1 = true) {S : kS} {v2 : Int32} {v3 : Int32} {res : kS} (h : FX2_startFrom_L59 o1 S v2 v3 = some res) : kV (X, RX2, 4, none, G, krm (d + 2), (0, 0), kQ X G none (kgl G n res)) cX2_startFrom (kgl G n S) [some (.ref (kg_ad G (kbo 3))), none, some (.int v2), some (.int v3)] [] 59 := by
  unfold FX2_startFrom_L59 at h
  exact kfix_ok (P := fun (q : kS × Int32 × Int32) (res : kS) => kV (X, RX2, 4, none, G, krm (d + 2), (0, 0), kQ X G none (kgl G n res)) cX2_startFrom (kgl G n q.1) [some (.ref (kg_ad G (kbo 3))), none, some (.int (q.2.1)), some (.int (q.2.2))] [] 59) (fun rec hrec q res hq => TX2_startFrom_B59 hG ho_o1 hrec hq) kfuel _ _ h
theorem TX2_startFrom_B4 {G : kG} {n : Nat} {d : Nat} {X : kX} (hG : kg_N G = 55 + 14 * n) {o1 : Nat} (ho_o1 : kfm n o1 = true) {c4 : kS × Int32 × Int32 → Option (kS)} (hc4 : ∀ (q : kS × Int32 × Int32) (res : kS), c4 q = some res → kV (X, RX2, 4, none, G, krm (d + 2), (0, 0), kQ X G none (kgl G n res)) cX2_startFrom (kgl G n q.1) [some (.ref (kg_ad G (kbo 3))), some (.ref (kg_ad G (kbo o1))), some (.int (q.2.1)), some (.int (q.2.2))] [] 4) {S : kS} {v2 : Int32} {v3 : Int32} {res : kS} (h : FX2_startFrom_B4 o1 c4 S v2 v3 = some res) : kV (X, RX2, 4, none, G, krm (d + 2), (0, 0), kQ X G none (kgl G n res)) cX2_startFrom (kgl G n S) [some (.ref (kg_ad G (kbo 3))), some (.ref (kg_ad G (kbo o1))), some (.int v2), some (.int v3)] [] 4 := by
  have hO_o1 := kOk_fm hG ho_o1
  have hc_o1 := kci_fm ho_o1
  unfold FX2_startFrom_B4 at h
  refine kV_iloadn 5 dX2_startFrom_4 rfl rfl ?_
  refine kV_iconst 6 dX2_startFrom_5 ic_5 rfl ?_
  rcases kif_ex h with ⟨hc, h⟩ | ⟨hc, h⟩
  · refine kV_icmp_ge_t 57 dX2_startFrom_6 (by decide) hc ?_
    clear hc
    refine kV_iconst 58 dX2_startFrom_57 ic_0 rfl ?_
    refine kV_istoren 59 [some (.ref (kg_ad G (kbo 3))), some (.ref (kg_ad G (kbo o1))), some (.int v2), some (.int (0 : Int32))] dX2_startFrom_58 rfl rfl rfl ?_
    refine kV_drop [true, false, true, true] rfl ?_
    exact TX2_startFrom_L59 hG ho_o1 h
  · refine kV_icmp_ge_f 57 9 dX2_startFrom_6 (by decide) hc rfl ?_
    clear hc
    refine kV_aloadn 10 dX2_startFrom_9 rfl rfl ?_
    refine rg2_15 13 dX2_startFrom_10 (kOk_of hG rfl) rfl rfl ?_
    refine kV_iloadn 14 dX2_startFrom_13 rfl rfl ?_
    refine kV_iloadn 15 dX2_startFrom_14 rfl rfl ?_
    obtain ⟨hi, h⟩ := kgd_ex h
    obtain ⟨S1, hx, h⟩ := kb_ex h
    refine rs2_1 16 dX2_startFrom_15 (kOk_of hG rfl) rfl hi hx rfl ?_
    clear hi hx
    refine kV_aloadn 17 dX2_startFrom_16 rfl rfl ?_
    refine kV_iloadn 18 dX2_startFrom_17 rfl rfl ?_
    obtain ⟨x1, hx, h⟩ := kbi_ex h
    refine kC_V 21 [] [.int x1] dX2_startFrom_18 (okX0_hasPlace hG (d + 1) ho_o1 hx) kmvX0_hasPlace (wi_r27 _ (List.mem_of_getElem? (i := 13) rfl)) hO_o1 hc_o1 rfl rfl rfl rfl rfl ?_
    clear hx
    rcases kif_ex h with ⟨hc, h⟩ | ⟨hc, h⟩
    · refine kV_if_eq_t 51 dX2_startFrom_21 (by decide) hc ?_
      clear hc
      refine kV_drop [true, true, true, true] rfl ?_
      exact TX2_startFrom_J51 hG ho_o1 hc4 h
    · refine kV_if_eq_f 51 24 dX2_startFrom_21 (by decide) hc rfl ?_
      clear hc
      refine kV_aloadn 25 dX2_startFrom_24 rfl rfl ?_
      refine kV_iloadn 26 dX2_startFrom_25 rfl rfl ?_
      obtain ⟨x2, hx, h⟩ := kbi_ex h
      refine kC_V 29 [] [.int x2] dX2_startFrom_26 (okX0_isWorked hG d ho_o1 hx) kmvX0_isWorked (wi_r27 _ (List.mem_of_getElem? (i := 14) rfl)) hO_o1 hc_o1 rfl rfl rfl rfl rfl ?_
      clear hx
      rcases kif_ex h with ⟨hc, h⟩ | ⟨hc, h⟩
      · refine kV_if_ne_f 51 32 dX2_startFrom_29 (by decide) hc rfl ?_
        clear hc
        refine kV_aloadn 33 dX2_startFrom_32 rfl rfl ?_
        refine kV_iloadn 34 dX2_startFrom_33 rfl rfl ?_
        obtain ⟨x3, hx, h⟩ := kbi_ex h
        refine kC_V 37 [] [.int x3] dX2_startFrom_34 (okX0_sureValue hG d ho_o1 hx) kmvX0_sureValue (wi_r27 _ (List.mem_of_getElem? (i := 15) rfl)) hO_o1 hc_o1 rfl rfl rfl rfl rfl ?_
        clear hx
        refine kV_iconst 38 dX2_startFrom_37 ic_m1 rfl ?_
        rcases kif_ex h with ⟨hc, h⟩ | ⟨hc, h⟩
        · refine kV_icmp_ne_f 51 41 dX2_startFrom_38 (by decide) hc rfl ?_
          clear hc
          refine kV_iloadn 42 dX2_startFrom_41 rfl rfl ?_
          refine kV_aloadn 43 dX2_startFrom_42 rfl rfl ?_
          refine kV_iloadn 44 dX2_startFrom_43 rfl rfl ?_
          obtain ⟨x4, hx, h⟩ := kbi_ex h
          refine kC_V 47 [.int v2] [.int x4, .int v2] dX2_startFrom_44 (okX0_sizeOf hG d ho_o1 hx) kmvX0_sizeOf (wi_r27 _ (List.mem_of_getElem? (i := 16) rfl)) hO_o1 hc_o1 rfl rfl rfl rfl rfl ?_
          clear hx
          refine kV_iconst 48 dX2_startFrom_47 ic_1 rfl ?_
          refine kV_iadd 49 dX2_startFrom_48 rfl ?_
          refine kV_imul 50 dX2_startFrom_49 rfl ?_
          refine kV_istoren 51 [some (.ref (kg_ad G (kbo 3))), some (.ref (kg_ad G (kbo o1))), some (.int (v2 * (x4 + (1 : Int32)))), some (.int v3)] dX2_startFrom_50 rfl rfl rfl ?_
          refine kV_drop [true, true, true, true] rfl ?_
          exact TX2_startFrom_J51 hG ho_o1 hc4 h
        · refine kV_icmp_ne_t 51 dX2_startFrom_38 (by decide) hc ?_
          clear hc
          refine kV_drop [true, true, true, true] rfl ?_
          exact TX2_startFrom_J51 hG ho_o1 hc4 h
      · refine kV_if_ne_t 51 dX2_startFrom_29 (by decide) hc ?_
        clear hc
        refine kV_drop [true, true, true, true] rfl ?_
        exact TX2_startFrom_J51 hG ho_o1 hc4 h
theorem TX2_startFrom_L4 {G : kG} {n : Nat} {d : Nat} {X : kX} (hG : kg_N G = 55 + 14 * n) {o1 : Nat} (ho_o1 : kfm n o1 = true) {S : kS} {v2 : Int32} {v3 : Int32} {res : kS} (h : FX2_startFrom_L4 o1 S v2 v3 = some res) : kV (X, RX2, 4, none, G, krm (d + 2), (0, 0), kQ X G none (kgl G n res)) cX2_startFrom (kgl G n S) [some (.ref (kg_ad G (kbo 3))), some (.ref (kg_ad G (kbo o1))), some (.int v2), some (.int v3)] [] 4 := by
  unfold FX2_startFrom_L4 at h
  exact kfix_ok (P := fun (q : kS × Int32 × Int32) (res : kS) => kV (X, RX2, 4, none, G, krm (d + 2), (0, 0), kQ X G none (kgl G n res)) cX2_startFrom (kgl G n q.1) [some (.ref (kg_ad G (kbo 3))), some (.ref (kg_ad G (kbo o1))), some (.int (q.2.1)), some (.int (q.2.2))] [] 4) (fun rec hrec q res hq => TX2_startFrom_B4 hG ho_o1 hrec hq) kfuel _ _ h
theorem okX2_startFrom {l : Launch} {G : kG} {n : Nat} (hG : kg_N G = 55 + 14 * n) (d : Nat) {o1 : Nat} (ho_o1 : kfm n o1 = true) {S : kS} {res : kS} (h : FX2_startFrom o1 S = some res) : kEv l G (d + 2) mX2_startFrom [.ref (kg_ad G (kbo 3)), .ref (kg_ad G (kbo o1))] (kgl G n S) none (kgl G n res) := by
  refine kEv_of RX2 [some (.ref (kg_ad G (kbo 3))), some (.ref (kg_ad G (kbo o1))), none, none] rfl (by decide +kernel) rfl rfl rfl rfl (fun X hX => ?_)
  subst hX
  have hO_o1 := kOk_fm hG ho_o1
  have hc_o1 := kci_fm ho_o1
  unfold FX2_startFrom at h
  refine kV_iconst 1 dX2_startFrom_0 ic_1 rfl ?_
  refine kV_istoren 2 [some (.ref (kg_ad G (kbo 3))), some (.ref (kg_ad G (kbo o1))), some (.int (1 : Int32)), none] dX2_startFrom_1 rfl rfl rfl ?_
  refine kV_iconst 3 dX2_startFrom_2 ic_0 rfl ?_
  refine kV_istoren 4 [some (.ref (kg_ad G (kbo 3))), some (.ref (kg_ad G (kbo o1))), some (.int (1 : Int32)), some (.int (0 : Int32))] dX2_startFrom_3 rfl rfl rfl ?_
  refine kV_drop [true, true, true, true] rfl ?_
  exact TX2_startFrom_L4 hG ho_o1 h
abbrev mX2_fewestQuestions : kM := (yX2_fewestQuestions, cX2_fewestQuestions, 2, (some .int))
theorem kmvX2_fewestQuestions : kMv mX2_fewestQuestions 1 2 := ⟨⟨(wi_r30 _ (List.mem_of_getElem? (i := 0) rfl)), (wi_r2 _ (List.mem_of_getElem? (i := 6) rfl)), ⟨by decide +kernel, by decide +kernel, by decide +kernel⟩, by decide⟩, (wi_r29 _ (List.mem_of_getElem? (i := 22) rfl)), (wi_r29 _ (List.mem_of_getElem? (i := 23) rfl)), rfl⟩
def FX2_fewestQuestions (o1 : Nat) (S : kS) : Option (Int32 × kS) :=
  (FX2_startFrom o1 S).bind fun S1 => kb2 (FX2_fewestR 6 (S1, o1, (0 : Int32), (0 : Int32))) fun x1 S2 => some (x1, S2)
theorem okX2_fewestQuestions {l : Launch} {G : kG} {n : Nat} (hG : kg_N G = 55 + 14 * n) (d : Nat) {o1 : Nat} (ho_o1 : kfm n o1 = true) {S : kS} {res : Int32 × kS} (h : FX2_fewestQuestions o1 S = some res) : kEv l G (d + 16) mX2_fewestQuestions [.ref (kg_ad G (kbo 3)), .ref (kg_ad G (kbo o1))] (kgl G n S) (some (.int res.1)) (kgl G n res.2) := by
  refine kEv_of RX2 [some (.ref (kg_ad G (kbo 3))), some (.ref (kg_ad G (kbo o1)))] rfl (by decide +kernel) rfl rfl rfl rfl (fun X hX => ?_)
  subst hX
  have hO_o1 := kOk_fm hG ho_o1
  have hc_o1 := kci_fm ho_o1
  unfold FX2_fewestQuestions at h
  refine kV_aloadn 1 dX2_fewestQuestions_0 rfl rfl ?_
  refine kV_aloadn 2 dX2_fewestQuestions_1 rfl rfl ?_
  obtain ⟨S1, hx, h⟩ := kbi_ex h
  refine kC_V 5 [] [] dX2_fewestQuestions_2 (okX2_startFrom hG (d + 13) ho_o1 hx) kmvX2_startFrom (wi_r27 _ (List.mem_of_getElem? (i := 9) rfl)) (kOk_of hG rfl) rfl rfl rfl rfl rfl rfl ?_
  clear hx
  refine kV_aloadn 6 dX2_fewestQuestions_5 rfl rfl ?_
  refine kV_aloadn 7 dX2_fewestQuestions_6 rfl rfl ?_
  refine kV_iconst 8 dX2_fewestQuestions_7 ic_0 rfl ?_
  refine kV_iconst 9 dX2_fewestQuestions_8 ic_0 rfl ?_
  obtain ⟨x1, S2, hx, h⟩ := kb2_ex h
  refine kC_V 12 [] [.int x1] dX2_fewestQuestions_9 (okX2_fewest6 hG d ho_o1 hx) kmvX2_fewest (wi_r28 _ (List.mem_of_getElem? (i := 6) rfl)) (kOk_of hG rfl) rfl rfl rfl rfl rfl rfl ?_
  clear hx
  cases h
  exact kV_iret dX2_fewestQuestions_12
abbrev mX2_placeToAsk : kM := (yX2_placeToAsk, cX2_placeToAsk, 7, (some .int))
theorem kmvX2_placeToAsk : kMv mX2_placeToAsk 1 2 := ⟨⟨(wi_r27 _ (List.mem_of_getElem? (i := 8) rfl)), (wi_r2 _ (List.mem_of_getElem? (i := 6) rfl)), ⟨by decide +kernel, by decide +kernel, by decide +kernel⟩, by decide⟩, (wi_r27 _ (List.mem_of_getElem? (i := 6) rfl)), (wi_r27 _ (List.mem_of_getElem? (i := 7) rfl)), rfl⟩
def FX2_placeToAsk_J63 (o1 : Nat) (c18 : kS × Int32 × Int32 × Int32 × Int32 → Option (Int32 × kS)) (S : kS) (v2 : Int32) (v3 : Int32) (v4 : Int32) (v5 : Int32) : Option (Int32 × kS) :=
  c18 (S, v2, v3, v4, (v5 + (1 : Int32)))
def FX2_placeToAsk_J56 (o1 : Nat) (c18 : kS × Int32 × Int32 × Int32 × Int32 → Option (Int32 × kS)) (S : kS) (v2 : Int32) (v5 : Int32) (v6 : Int32) : Option (Int32 × kS) :=
  FX2_placeToAsk_J63 o1 c18 S v2 v5 v6 v5
def FX2_placeToAsk_B18 (o1 : Nat) (c18 : kS × Int32 × Int32 × Int32 × Int32 → Option (Int32 × kS)) (S : kS) (v2 : Int32) (v3 : Int32) (v4 : Int32) (v5 : Int32) : Option (Int32 × kS) :=
  if (5 : Int32) ≤ v5 then (some (v3, S)) else (if ((v2 >>> (v5 &&& 31)) &&& (1 : Int32)) = 0 then (FX2_placeToAsk_J63 o1 c18 S v2 v3 v4 v5) else (kb2 (FX2_fewestBy o1 (FX2_fewestR 6) S v5 (0 : Int32) (0 : Int32)) fun x1 S1 => if v3 = (-1 : Int32) then (FX2_placeToAsk_J56 o1 c18 S1 v2 v5 x1) else (if v4 ≤ x1 then (FX2_placeToAsk_J63 o1 c18 S1 v2 v3 v4 v5) else (FX2_placeToAsk_J56 o1 c18 S1 v2 v5 x1))))
def FX2_placeToAsk_L18 (o1 : Nat) (S : kS) (v2 : Int32) (v3 : Int32) (v4 : Int32) (v5 : Int32) : Option (Int32 × kS) :=
  kfix (fun rec (q : kS × Int32 × Int32 × Int32 × Int32) => FX2_placeToAsk_B18 o1 rec q.1 q.2.1 q.2.2.1 q.2.2.2.1 q.2.2.2.2) kfuel (S, v2, v3, v4, v5)
def FX2_placeToAsk (o1 : Nat) (S : kS) : Option (Int32 × kS) :=
  (FX2_startFrom o1 S).bind fun S1 => (FX0_questions o1 S1).bind fun x1 => FX2_placeToAsk_L18 o1 S1 x1 (-1 : Int32) (0 : Int32) (0 : Int32)
theorem TX2_placeToAsk_J63 {G : kG} {n : Nat} {d : Nat} {X : kX} (hG : kg_N G = 55 + 14 * n) {o1 : Nat} (ho_o1 : kfm n o1 = true) {c18 : kS × Int32 × Int32 × Int32 × Int32 → Option (Int32 × kS)} {S : kS} (hc18 : ∀ (q : kS × Int32 × Int32 × Int32 × Int32) (res : Int32 × kS), c18 q = some res → kV (X, RX2, 7, (some .int), G, krm (d + 17), (0, 0), kQ X G (some (.int res.1)) (kgl G n res.2)) cX2_placeToAsk (kgl G n q.1) [some (.ref (kg_ad G (kbo 3))), some (.ref (kg_ad G (kbo o1))), some (.int (q.2.1)), some (.int (q.2.2.1)), some (.int (q.2.2.2.1)), some (.int (q.2.2.2.2)), none] [] 18) {v2 : Int32} {v3 : Int32} {v4 : Int32} {v5 : Int32} {res : Int32 × kS} (h : FX2_placeToAsk_J63 o1 c18 S v2 v3 v4 v5 = some res) : kV (X, RX2, 7, (some .int), G, krm (d + 17), (0, 0), kQ X G (some (.int res.1)) (kgl G n res.2)) cX2_placeToAsk (kgl G n S) [some (.ref (kg_ad G (kbo 3))), some (.ref (kg_ad G (kbo o1))), some (.int v2), some (.int v3), some (.int v4), some (.int v5), none] [] 63 := by
  have hO_o1 := kOk_fm hG ho_o1
  have hc_o1 := kci_fm ho_o1
  unfold FX2_placeToAsk_J63 at h
  refine kV_iinc 66 [some (.ref (kg_ad G (kbo 3))), some (.ref (kg_ad G (kbo o1))), some (.int v2), some (.int v3), some (.int v4), some (.int (v5 + (1 : Int32))), none] dX2_placeToAsk_63 rfl (kinc_1 _) rfl rfl rfl ?_
  refine kV_goto 18 dX2_placeToAsk_66 (by decide) ?_
  refine kV_drop [true, true, true, true, true, true, false] rfl ?_
  exact hc18 _ _ h
theorem TX2_placeToAsk_J56 {G : kG} {n : Nat} {d : Nat} {X : kX} (hG : kg_N G = 55 + 14 * n) {o1 : Nat} (ho_o1 : kfm n o1 = true) {c18 : kS × Int32 × Int32 × Int32 × Int32 → Option (Int32 × kS)} {S : kS} (hc18 : ∀ (q : kS × Int32 × Int32 × Int32 × Int32) (res : Int32 × kS), c18 q = some res → kV (X, RX2, 7, (some .int), G, krm (d + 17), (0, 0), kQ X G (some (.int res.1)) (kgl G n res.2)) cX2_placeToAsk (kgl G n q.1) [some (.ref (kg_ad G (kbo 3))), some (.ref (kg_ad G (kbo o1))), some (.int (q.2.1)), some (.int (q.2.2.1)), some (.int (q.2.2.2.1)), some (.int (q.2.2.2.2)), none] [] 18) {v2 : Int32} {v5 : Int32} {v6 : Int32} {res : Int32 × kS} (h : FX2_placeToAsk_J56 o1 c18 S v2 v5 v6 = some res) : kV (X, RX2, 7, (some .int), G, krm (d + 17), (0, 0), kQ X G (some (.int res.1)) (kgl G n res.2)) cX2_placeToAsk (kgl G n S) [some (.ref (kg_ad G (kbo 3))), some (.ref (kg_ad G (kbo o1))), some (.int v2), none, none, some (.int v5), some (.int v6)] [] 56 := by
  have hO_o1 := kOk_fm hG ho_o1
  have hc_o1 := kci_fm ho_o1
  unfold FX2_placeToAsk_J56 at h
  refine kV_iload 58 dX2_placeToAsk_56 rfl rfl ?_
  refine kV_istoren 59 [some (.ref (kg_ad G (kbo 3))), some (.ref (kg_ad G (kbo o1))), some (.int v2), some (.int v5), none, some (.int v5), some (.int v6)] dX2_placeToAsk_58 rfl rfl rfl ?_
  refine kV_iload 61 dX2_placeToAsk_59 rfl rfl ?_
  refine kV_istore 63 [some (.ref (kg_ad G (kbo 3))), some (.ref (kg_ad G (kbo o1))), some (.int v2), some (.int v5), some (.int v6), some (.int v5), some (.int v6)] dX2_placeToAsk_61 rfl rfl rfl ?_
  refine kV_drop [true, true, true, true, true, true, false] rfl ?_
  exact TX2_placeToAsk_J63 hG ho_o1 hc18 h
theorem TX2_placeToAsk_B18 {G : kG} {n : Nat} {d : Nat} {X : kX} (hG : kg_N G = 55 + 14 * n) {o1 : Nat} (ho_o1 : kfm n o1 = true) {c18 : kS × Int32 × Int32 × Int32 × Int32 → Option (Int32 × kS)} (hc18 : ∀ (q : kS × Int32 × Int32 × Int32 × Int32) (res : Int32 × kS), c18 q = some res → kV (X, RX2, 7, (some .int), G, krm (d + 17), (0, 0), kQ X G (some (.int res.1)) (kgl G n res.2)) cX2_placeToAsk (kgl G n q.1) [some (.ref (kg_ad G (kbo 3))), some (.ref (kg_ad G (kbo o1))), some (.int (q.2.1)), some (.int (q.2.2.1)), some (.int (q.2.2.2.1)), some (.int (q.2.2.2.2)), none] [] 18) {S : kS} {v2 : Int32} {v3 : Int32} {v4 : Int32} {v5 : Int32} {res : Int32 × kS} (h : FX2_placeToAsk_B18 o1 c18 S v2 v3 v4 v5 = some res) : kV (X, RX2, 7, (some .int), G, krm (d + 17), (0, 0), kQ X G (some (.int res.1)) (kgl G n res.2)) cX2_placeToAsk (kgl G n S) [some (.ref (kg_ad G (kbo 3))), some (.ref (kg_ad G (kbo o1))), some (.int v2), some (.int v3), some (.int v4), some (.int v5), none] [] 18 := by
  have hO_o1 := kOk_fm hG ho_o1
  have hc_o1 := kci_fm ho_o1
  unfold FX2_placeToAsk_B18 at h
  refine kV_iload 20 dX2_placeToAsk_18 rfl rfl ?_
  refine kV_iconst 21 dX2_placeToAsk_20 ic_5 rfl ?_
  rcases kif_ex h with ⟨hc, h⟩ | ⟨hc, h⟩
  · refine kV_icmp_ge_t 69 dX2_placeToAsk_21 (by decide) hc ?_
    clear hc
    refine kV_iloadn 70 dX2_placeToAsk_69 rfl rfl ?_
    cases h
    exact kV_iret dX2_placeToAsk_70
  · refine kV_icmp_ge_f 69 24 dX2_placeToAsk_21 (by decide) hc rfl ?_
    clear hc
    refine kV_iloadn 25 dX2_placeToAsk_24 rfl rfl ?_
    refine kV_iload 27 dX2_placeToAsk_25 rfl rfl ?_
    refine kV_ishr 28 dX2_placeToAsk_27 rfl ?_
    refine kV_iconst 29 dX2_placeToAsk_28 ic_1 rfl ?_
    refine kV_iand 30 dX2_placeToAsk_29 rfl ?_
    rcases kif_ex h with ⟨hc, h⟩ | ⟨hc, h⟩
    · refine kV_if_eq_t 63 dX2_placeToAsk_30 (by decide) hc ?_
      clear hc
      refine kV_drop [true, true, true, true, true, true, false] rfl ?_
      exact TX2_placeToAsk_J63 hG ho_o1 hc18 h
    · refine kV_if_eq_f 63 33 dX2_placeToAsk_30 (by decide) hc rfl ?_
      clear hc
      refine kV_aloadn 34 dX2_placeToAsk_33 rfl rfl ?_
      refine kV_aloadn 35 dX2_placeToAsk_34 rfl rfl ?_
      refine kV_iload 37 dX2_placeToAsk_35 rfl rfl ?_
      refine kV_iconst 38 dX2_placeToAsk_37 ic_0 rfl ?_
      refine kV_iconst 39 dX2_placeToAsk_38 ic_0 rfl ?_
      obtain ⟨x1, S1, hx, h⟩ := kb2_ex h
      refine kC_V 42 [] [.int x1] dX2_placeToAsk_39 (okX2_fewestBy6 hG d ho_o1 hx) kmvX2_fewestBy (wi_r27 _ (List.mem_of_getElem? (i := 21) rfl)) (kOk_of hG rfl) rfl rfl rfl rfl rfl rfl ?_
      clear hx
      refine kV_istore 44 [some (.ref (kg_ad G (kbo 3))), some (.ref (kg_ad G (kbo o1))), some (.int v2), some (.int v3), some (.int v4), some (.int v5), some (.int x1)] dX2_placeToAsk_42 rfl rfl rfl ?_
      refine kV_iloadn 45 dX2_placeToAsk_44 rfl rfl ?_
      refine kV_iconst 46 dX2_placeToAsk_45 ic_m1 rfl ?_
      rcases kif_ex h with ⟨hc, h⟩ | ⟨hc, h⟩
      · refine kV_icmp_eq_t 56 dX2_placeToAsk_46 (by decide) hc ?_
        clear hc
        refine kV_drop [true, true, true, false, false, true, true] rfl ?_
        exact TX2_placeToAsk_J56 hG ho_o1 hc18 h
      · refine kV_icmp_eq_f 56 49 dX2_placeToAsk_46 (by decide) hc rfl ?_
        clear hc
        refine kV_iload 51 dX2_placeToAsk_49 rfl rfl ?_
        refine kV_iload 53 dX2_placeToAsk_51 rfl rfl ?_
        rcases kif_ex h with ⟨hc, h⟩ | ⟨hc, h⟩
        · refine kV_icmp_ge_t 63 dX2_placeToAsk_53 (by decide) hc ?_
          clear hc
          refine kV_drop [true, true, true, true, true, true, false] rfl ?_
          exact TX2_placeToAsk_J63 hG ho_o1 hc18 h
        · refine kV_icmp_ge_f 63 56 dX2_placeToAsk_53 (by decide) hc rfl ?_
          clear hc
          refine kV_drop [true, true, true, false, false, true, true] rfl ?_
          exact TX2_placeToAsk_J56 hG ho_o1 hc18 h
theorem TX2_placeToAsk_L18 {G : kG} {n : Nat} {d : Nat} {X : kX} (hG : kg_N G = 55 + 14 * n) {o1 : Nat} (ho_o1 : kfm n o1 = true) {S : kS} {v2 : Int32} {v3 : Int32} {v4 : Int32} {v5 : Int32} {res : Int32 × kS} (h : FX2_placeToAsk_L18 o1 S v2 v3 v4 v5 = some res) : kV (X, RX2, 7, (some .int), G, krm (d + 17), (0, 0), kQ X G (some (.int res.1)) (kgl G n res.2)) cX2_placeToAsk (kgl G n S) [some (.ref (kg_ad G (kbo 3))), some (.ref (kg_ad G (kbo o1))), some (.int v2), some (.int v3), some (.int v4), some (.int v5), none] [] 18 := by
  unfold FX2_placeToAsk_L18 at h
  exact kfix_ok (P := fun (q : kS × Int32 × Int32 × Int32 × Int32) (res : Int32 × kS) => kV (X, RX2, 7, (some .int), G, krm (d + 17), (0, 0), kQ X G (some (.int res.1)) (kgl G n res.2)) cX2_placeToAsk (kgl G n q.1) [some (.ref (kg_ad G (kbo 3))), some (.ref (kg_ad G (kbo o1))), some (.int (q.2.1)), some (.int (q.2.2.1)), some (.int (q.2.2.2.1)), some (.int (q.2.2.2.2)), none] [] 18) (fun rec hrec q res hq => TX2_placeToAsk_B18 hG ho_o1 hrec hq) kfuel _ _ h
theorem okX2_placeToAsk {l : Launch} {G : kG} {n : Nat} (hG : kg_N G = 55 + 14 * n) (d : Nat) {o1 : Nat} (ho_o1 : kfm n o1 = true) {S : kS} {res : Int32 × kS} (h : FX2_placeToAsk o1 S = some res) : kEv l G (d + 17) mX2_placeToAsk [.ref (kg_ad G (kbo 3)), .ref (kg_ad G (kbo o1))] (kgl G n S) (some (.int res.1)) (kgl G n res.2) := by
  refine kEv_of RX2 [some (.ref (kg_ad G (kbo 3))), some (.ref (kg_ad G (kbo o1))), none, none, none, none, none] rfl (by decide +kernel) rfl rfl rfl rfl (fun X hX => ?_)
  subst hX
  have hO_o1 := kOk_fm hG ho_o1
  have hc_o1 := kci_fm ho_o1
  unfold FX2_placeToAsk at h
  refine kV_aloadn 1 dX2_placeToAsk_0 rfl rfl ?_
  refine kV_aloadn 2 dX2_placeToAsk_1 rfl rfl ?_
  obtain ⟨S1, hx, h⟩ := kbi_ex h
  refine kC_V 5 [] [] dX2_placeToAsk_2 (okX2_startFrom hG (d + 14) ho_o1 hx) kmvX2_startFrom (wi_r27 _ (List.mem_of_getElem? (i := 9) rfl)) (kOk_of hG rfl) rfl rfl rfl rfl rfl rfl ?_
  clear hx
  refine kV_aloadn 6 dX2_placeToAsk_5 rfl rfl ?_
  obtain ⟨x1, hx, h⟩ := kbi_ex h
  refine kC_V 9 [] [.int x1] dX2_placeToAsk_6 (okX0_questions hG (d + 13) ho_o1 hx) kmvX0_questions (wi_r27 _ (List.mem_of_getElem? (i := 20) rfl)) hO_o1 hc_o1 rfl rfl rfl rfl rfl ?_
  clear hx
  refine kV_istoren 10 [some (.ref (kg_ad G (kbo 3))), some (.ref (kg_ad G (kbo o1))), some (.int x1), none, none, none, none] dX2_placeToAsk_9 rfl rfl rfl ?_
  refine kV_iconst 11 dX2_placeToAsk_10 ic_m1 rfl ?_
  refine kV_istoren 12 [some (.ref (kg_ad G (kbo 3))), some (.ref (kg_ad G (kbo o1))), some (.int x1), some (.int (-1 : Int32)), none, none, none] dX2_placeToAsk_11 rfl rfl rfl ?_
  refine kV_iconst 13 dX2_placeToAsk_12 ic_0 rfl ?_
  refine kV_istore 15 [some (.ref (kg_ad G (kbo 3))), some (.ref (kg_ad G (kbo o1))), some (.int x1), some (.int (-1 : Int32)), some (.int (0 : Int32)), none, none] dX2_placeToAsk_13 rfl rfl rfl ?_
  refine kV_iconst 16 dX2_placeToAsk_15 ic_0 rfl ?_
  refine kV_istore 18 [some (.ref (kg_ad G (kbo 3))), some (.ref (kg_ad G (kbo o1))), some (.int x1), some (.int (-1 : Int32)), some (.int (0 : Int32)), some (.int (0 : Int32)), none] dX2_placeToAsk_16 rfl rfl rfl ?_
  refine kV_drop [true, true, true, true, true, true, false] rfl ?_
  exact TX2_placeToAsk_L18 hG ho_o1 h
