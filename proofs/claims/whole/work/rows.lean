section
-- ===== PART A: goes FIRST, ahead of the names: the tables' words, and 'selects' of the private methods out of them =====
/-- a private method of a class that the tables say can be made, by its rows of tables_1 -/
def lw_okq (q : MethodName × Nat) : Prop := (q.1.cls ≠ "java/lang/invoke/MethodHandle" ∧ q.1.cls ≠ "java/lang/invoke/VarHandle") ∧ Cond.instantiable q.1.cls q.2 ∈ tables_1 ∧ Cond.privateMethod q.1 ∈ tables_1 ∧ Cond.instanceMethod q.1 ∈ tables_1
theorem lw_p0 : lw_okq (⟨"TalkKeeper", "formAt", "(I)LTalkKeeper$Form;"⟩, 14) := ⟨⟨by decide +kernel, by decide +kernel⟩, List.mem_of_getElem? (i := 13) (by decide +kernel), List.mem_of_getElem? (i := 225) (by decide +kernel), List.mem_of_getElem? (i := 226) (by decide +kernel)⟩
theorem lw_p1 : lw_okq (⟨"TalkKeeper", "isInTalk", "(I)Z"⟩, 14) := ⟨⟨by decide +kernel, by decide +kernel⟩, List.mem_of_getElem? (i := 13) (by decide +kernel), List.mem_of_getElem? (i := 232) (by decide +kernel), List.mem_of_getElem? (i := 233) (by decide +kernel)⟩
theorem lw_p2 : lw_okq (⟨"TalkKeeper", "turnPage", "()V"⟩, 14) := ⟨⟨by decide +kernel, by decide +kernel⟩, List.mem_of_getElem? (i := 13) (by decide +kernel), List.mem_of_getElem? (i := 326) (by decide +kernel), List.mem_of_getElem? (i := 327) (by decide +kernel)⟩
theorem lw_p3 : lw_okq (⟨"TalkKeeper", "forgetConfirm", "()V"⟩, 14) := ⟨⟨by decide +kernel, by decide +kernel⟩, List.mem_of_getElem? (i := 13) (by decide +kernel), List.mem_of_getElem? (i := 334) (by decide +kernel), List.mem_of_getElem? (i := 335) (by decide +kernel)⟩
theorem lw_p4 : lw_okq (⟨"TalkKeeper", "uppermost", "()I"⟩, 14) := ⟨⟨by decide +kernel, by decide +kernel⟩, List.mem_of_getElem? (i := 13) (by decide +kernel), List.mem_of_getElem? (i := 350) (by decide +kernel), List.mem_of_getElem? (i := 351) (by decide +kernel)⟩
theorem lw_p5 : lw_okq (⟨"TalkKeeper$Reader", "startAtEnd", "()V"⟩, 8) := ⟨⟨by decide +kernel, by decide +kernel⟩, List.mem_of_getElem? (i := 55) (by decide +kernel), List.mem_of_getElem? (i := 361) (by decide +kernel), List.mem_of_getElem? (i := 362) (by decide +kernel)⟩
theorem lw_p6 : lw_okq (⟨"TalkKeeper$Reader", "passWord", "(I)V"⟩, 8) := ⟨⟨by decide +kernel, by decide +kernel⟩, List.mem_of_getElem? (i := 55) (by decide +kernel), List.mem_of_getElem? (i := 365) (by decide +kernel), List.mem_of_getElem? (i := 366) (by decide +kernel)⟩
theorem lw_p7 : lw_okq (⟨"TalkKeeper$RowBook", "isRow", "(I)Z"⟩, 8) := ⟨⟨by decide +kernel, by decide +kernel⟩, List.mem_of_getElem? (i := 23) (by decide +kernel), List.mem_of_getElem? (i := 377) (by decide +kernel), List.mem_of_getElem? (i := 378) (by decide +kernel)⟩
theorem lw_p8 : lw_okq (⟨"TalkKeeper$Reader", "fits", "(LTalkKeeper$Form;LTalkKeeper$RowBook;II)Z"⟩, 8) := ⟨⟨by decide +kernel, by decide +kernel⟩, List.mem_of_getElem? (i := 55) (by decide +kernel), List.mem_of_getElem? (i := 381) (by decide +kernel), List.mem_of_getElem? (i := 382) (by decide +kernel)⟩
theorem lw_p9 : lw_okq (⟨"TalkKeeper$RowBook", "isItemOf", "(II)Z"⟩, 8) := ⟨⟨by decide +kernel, by decide +kernel⟩, List.mem_of_getElem? (i := 23) (by decide +kernel), List.mem_of_getElem? (i := 393) (by decide +kernel), List.mem_of_getElem? (i := 394) (by decide +kernel)⟩
theorem lw_p10 : lw_okq (⟨"TalkKeeper$Reader", "useRow", "(LTalkKeeper$Form;LTalkKeeper$RowBook;II)V"⟩, 8) := ⟨⟨by decide +kernel, by decide +kernel⟩, List.mem_of_getElem? (i := 55) (by decide +kernel), List.mem_of_getElem? (i := 405) (by decide +kernel), List.mem_of_getElem? (i := 406) (by decide +kernel)⟩
theorem lw_p11 : lw_okq (⟨"TalkKeeper$Reader", "clearAt", "(II)V"⟩, 8) := ⟨⟨by decide +kernel, by decide +kernel⟩, List.mem_of_getElem? (i := 55) (by decide +kernel), List.mem_of_getElem? (i := 413) (by decide +kernel), List.mem_of_getElem? (i := 414) (by decide +kernel)⟩
theorem lw_p12 : lw_okq (⟨"TalkKeeper$Reader", "fillingByRow", "(LTalkKeeper$Form;LTalkKeeper$RowBook;III)I"⟩, 8) := ⟨⟨by decide +kernel, by decide +kernel⟩, List.mem_of_getElem? (i := 55) (by decide +kernel), List.mem_of_getElem? (i := 421) (by decide +kernel), List.mem_of_getElem? (i := 422) (by decide +kernel)⟩
theorem lw_p13 : lw_okq (⟨"TalkKeeper$Reader", "commonAnswer", "(LTalkKeeper$Form;ILTalkKeeper$RowBook;)I"⟩, 8) := ⟨⟨by decide +kernel, by decide +kernel⟩, List.mem_of_getElem? (i := 55) (by decide +kernel), List.mem_of_getElem? (i := 429) (by decide +kernel), List.mem_of_getElem? (i := 430) (by decide +kernel)⟩
theorem lw_p14 : lw_okq (⟨"TalkKeeper", "takeLine", "(LTalkKeeper$Form;)I"⟩, 14) := ⟨⟨by decide +kernel, by decide +kernel⟩, List.mem_of_getElem? (i := 13) (by decide +kernel), List.mem_of_getElem? (i := 461) (by decide +kernel), List.mem_of_getElem? (i := 462) (by decide +kernel)⟩
theorem lw_p15 : lw_okq (⟨"TalkKeeper", "fillPlaces", "(LTalkKeeper$Form;)I"⟩, 14) := ⟨⟨by decide +kernel, by decide +kernel⟩, List.mem_of_getElem? (i := 13) (by decide +kernel), List.mem_of_getElem? (i := 469) (by decide +kernel), List.mem_of_getElem? (i := 470) (by decide +kernel)⟩
def lw_privs_1 : List (MethodName × Nat) := [(⟨"TalkKeeper", "formAt", "(I)LTalkKeeper$Form;"⟩, 14), (⟨"TalkKeeper", "isInTalk", "(I)Z"⟩, 14), (⟨"TalkKeeper", "turnPage", "()V"⟩, 14), (⟨"TalkKeeper", "forgetConfirm", "()V"⟩, 14), (⟨"TalkKeeper", "uppermost", "()I"⟩, 14), (⟨"TalkKeeper$Reader", "startAtEnd", "()V"⟩, 8), (⟨"TalkKeeper$Reader", "passWord", "(I)V"⟩, 8), (⟨"TalkKeeper$RowBook", "isRow", "(I)Z"⟩, 8), (⟨"TalkKeeper$Reader", "fits", "(LTalkKeeper$Form;LTalkKeeper$RowBook;II)Z"⟩, 8), (⟨"TalkKeeper$RowBook", "isItemOf", "(II)Z"⟩, 8), (⟨"TalkKeeper$Reader", "useRow", "(LTalkKeeper$Form;LTalkKeeper$RowBook;II)V"⟩, 8), (⟨"TalkKeeper$Reader", "clearAt", "(II)V"⟩, 8), (⟨"TalkKeeper$Reader", "fillingByRow", "(LTalkKeeper$Form;LTalkKeeper$RowBook;III)I"⟩, 8), (⟨"TalkKeeper$Reader", "commonAnswer", "(LTalkKeeper$Form;ILTalkKeeper$RowBook;)I"⟩, 8), (⟨"TalkKeeper", "takeLine", "(LTalkKeeper$Form;)I"⟩, 14), (⟨"TalkKeeper", "fillPlaces", "(LTalkKeeper$Form;)I"⟩, 14)]
theorem lw_r1 : ∀ q ∈ lw_privs_1, lw_okq q := List.forall_mem_cons.mpr ⟨lw_p0, List.forall_mem_cons.mpr ⟨lw_p1, List.forall_mem_cons.mpr ⟨lw_p2, List.forall_mem_cons.mpr ⟨lw_p3, List.forall_mem_cons.mpr ⟨lw_p4, List.forall_mem_cons.mpr ⟨lw_p5, List.forall_mem_cons.mpr ⟨lw_p6, List.forall_mem_cons.mpr ⟨lw_p7, List.forall_mem_cons.mpr ⟨lw_p8, List.forall_mem_cons.mpr ⟨lw_p9, List.forall_mem_cons.mpr ⟨lw_p10, List.forall_mem_cons.mpr ⟨lw_p11, List.forall_mem_cons.mpr ⟨lw_p12, List.forall_mem_cons.mpr ⟨lw_p13, List.forall_mem_cons.mpr ⟨lw_p14, List.forall_mem_cons.mpr ⟨lw_p15, fun _ h => absurd h List.not_mem_nil⟩⟩⟩⟩⟩⟩⟩⟩⟩⟩⟩⟩⟩⟩⟩⟩
theorem lw_p16 : lw_okq (⟨"TalkKeeper", "fillPlace", "(LTalkKeeper$Form;I)I"⟩, 14) := ⟨⟨by decide +kernel, by decide +kernel⟩, List.mem_of_getElem? (i := 13) (by decide +kernel), List.mem_of_getElem? (i := 477) (by decide +kernel), List.mem_of_getElem? (i := 478) (by decide +kernel)⟩
theorem lw_p17 : lw_okq (⟨"TalkKeeper$Planner", "startFrom", "(LTalkKeeper$Form;)V"⟩, 2) := ⟨⟨by decide +kernel, by decide +kernel⟩, List.mem_of_getElem? (i := 87) (by decide +kernel), List.mem_of_getElem? (i := 561) (by decide +kernel), List.mem_of_getElem? (i := 562) (by decide +kernel)⟩
theorem lw_p18 : lw_okq (⟨"TalkKeeper$Planner", "fewestBy", "(LTalkKeeper$Form;III)I"⟩, 2) := ⟨⟨by decide +kernel, by decide +kernel⟩, List.mem_of_getElem? (i := 87) (by decide +kernel), List.mem_of_getElem? (i := 573) (by decide +kernel), List.mem_of_getElem? (i := 574) (by decide +kernel)⟩
theorem lw_p19 : lw_okq (⟨"TalkKeeper$Planner", "fewest", "(LTalkKeeper$Form;II)I"⟩, 2) := ⟨⟨by decide +kernel, by decide +kernel⟩, List.mem_of_getElem? (i := 87) (by decide +kernel), List.mem_of_getElem? (i := 580) (by decide +kernel), List.mem_of_getElem? (i := 581) (by decide +kernel)⟩
theorem lw_p20 : lw_okq (⟨"TalkKeeperModel", "isForm", "(I)Z"⟩, 45) := ⟨⟨by decide +kernel, by decide +kernel⟩, List.mem_of_getElem? (i := 643) (by decide +kernel), List.mem_of_getElem? (i := 792) (by decide +kernel), List.mem_of_getElem? (i := 793) (by decide +kernel)⟩
theorem lw_p21 : lw_okq (⟨"TalkKeeperModel", "isOpen", "(I)Z"⟩, 45) := ⟨⟨by decide +kernel, by decide +kernel⟩, List.mem_of_getElem? (i := 643) (by decide +kernel), List.mem_of_getElem? (i := 799) (by decide +kernel), List.mem_of_getElem? (i := 800) (by decide +kernel)⟩
theorem lw_p22 : lw_okq (⟨"TalkKeeperModel", "comes", "(III)I"⟩, 45) := ⟨⟨by decide +kernel, by decide +kernel⟩, List.mem_of_getElem? (i := 643) (by decide +kernel), List.mem_of_getElem? (i := 803) (by decide +kernel), List.mem_of_getElem? (i := 804) (by decide +kernel)⟩
theorem lw_p23 : lw_okq (⟨"TalkKeeperModel", "isPlace", "(II)Z"⟩, 45) := ⟨⟨by decide +kernel, by decide +kernel⟩, List.mem_of_getElem? (i := 643) (by decide +kernel), List.mem_of_getElem? (i := 811) (by decide +kernel), List.mem_of_getElem? (i := 812) (by decide +kernel)⟩
theorem lw_p24 : lw_okq (⟨"TalkKeeperModel", "isValue", "(III)Z"⟩, 45) := ⟨⟨by decide +kernel, by decide +kernel⟩, List.mem_of_getElem? (i := 643) (by decide +kernel), List.mem_of_getElem? (i := 819) (by decide +kernel), List.mem_of_getElem? (i := 820) (by decide +kernel)⟩
theorem lw_p25 : lw_okq (⟨"TalkKeeperModel", "rule", "(IZIIII)I"⟩, 45) := ⟨⟨by decide +kernel, by decide +kernel⟩, List.mem_of_getElem? (i := 643) (by decide +kernel), List.mem_of_getElem? (i := 823) (by decide +kernel), List.mem_of_getElem? (i := 824) (by decide +kernel)⟩
theorem lw_p26 : lw_okq (⟨"TalkKeeperModel", "work", "(I)V"⟩, 45) := ⟨⟨by decide +kernel, by decide +kernel⟩, List.mem_of_getElem? (i := 643) (by decide +kernel), List.mem_of_getElem? (i := 863) (by decide +kernel), List.mem_of_getElem? (i := 864) (by decide +kernel)⟩
theorem lw_p27 : lw_okq (⟨"TalkKeeperModel", "fits", "(III)Z"⟩, 45) := ⟨⟨by decide +kernel, by decide +kernel⟩, List.mem_of_getElem? (i := 643) (by decide +kernel), List.mem_of_getElem? (i := 867) (by decide +kernel), List.mem_of_getElem? (i := 868) (by decide +kernel)⟩
theorem lw_p28 : lw_okq (⟨"TalkKeeperModel", "mayPass", "(I)Z"⟩, 45) := ⟨⟨by decide +kernel, by decide +kernel⟩, List.mem_of_getElem? (i := 643) (by decide +kernel), List.mem_of_getElem? (i := 871) (by decide +kernel), List.mem_of_getElem? (i := 872) (by decide +kernel)⟩
theorem lw_p29 : lw_okq (⟨"TalkKeeperModel", "isLeast", "(III)Z"⟩, 45) := ⟨⟨by decide +kernel, by decide +kernel⟩, List.mem_of_getElem? (i := 643) (by decide +kernel), List.mem_of_getElem? (i := 875) (by decide +kernel), List.mem_of_getElem? (i := 876) (by decide +kernel)⟩
theorem lw_p30 : lw_okq (⟨"TalkKeeperModel", "keep", "()V"⟩, 45) := ⟨⟨by decide +kernel, by decide +kernel⟩, List.mem_of_getElem? (i := 643) (by decide +kernel), List.mem_of_getElem? (i := 880) (by decide +kernel), List.mem_of_getElem? (i := 881) (by decide +kernel)⟩
theorem lw_p31 : lw_okq (⟨"TalkKeeperModel", "fills", "(I)V"⟩, 45) := ⟨⟨by decide +kernel, by decide +kernel⟩, List.mem_of_getElem? (i := 643) (by decide +kernel), List.mem_of_getElem? (i := 884) (by decide +kernel), List.mem_of_getElem? (i := 885) (by decide +kernel)⟩
def lw_privs_2 : List (MethodName × Nat) := [(⟨"TalkKeeper", "fillPlace", "(LTalkKeeper$Form;I)I"⟩, 14), (⟨"TalkKeeper$Planner", "startFrom", "(LTalkKeeper$Form;)V"⟩, 2), (⟨"TalkKeeper$Planner", "fewestBy", "(LTalkKeeper$Form;III)I"⟩, 2), (⟨"TalkKeeper$Planner", "fewest", "(LTalkKeeper$Form;II)I"⟩, 2), (⟨"TalkKeeperModel", "isForm", "(I)Z"⟩, 45), (⟨"TalkKeeperModel", "isOpen", "(I)Z"⟩, 45), (⟨"TalkKeeperModel", "comes", "(III)I"⟩, 45), (⟨"TalkKeeperModel", "isPlace", "(II)Z"⟩, 45), (⟨"TalkKeeperModel", "isValue", "(III)Z"⟩, 45), (⟨"TalkKeeperModel", "rule", "(IZIIII)I"⟩, 45), (⟨"TalkKeeperModel", "work", "(I)V"⟩, 45), (⟨"TalkKeeperModel", "fits", "(III)Z"⟩, 45), (⟨"TalkKeeperModel", "mayPass", "(I)Z"⟩, 45), (⟨"TalkKeeperModel", "isLeast", "(III)Z"⟩, 45), (⟨"TalkKeeperModel", "keep", "()V"⟩, 45), (⟨"TalkKeeperModel", "fills", "(I)V"⟩, 45)]
theorem lw_r2 : ∀ q ∈ lw_privs_2, lw_okq q := List.forall_mem_cons.mpr ⟨lw_p16, List.forall_mem_cons.mpr ⟨lw_p17, List.forall_mem_cons.mpr ⟨lw_p18, List.forall_mem_cons.mpr ⟨lw_p19, List.forall_mem_cons.mpr ⟨lw_p20, List.forall_mem_cons.mpr ⟨lw_p21, List.forall_mem_cons.mpr ⟨lw_p22, List.forall_mem_cons.mpr ⟨lw_p23, List.forall_mem_cons.mpr ⟨lw_p24, List.forall_mem_cons.mpr ⟨lw_p25, List.forall_mem_cons.mpr ⟨lw_p26, List.forall_mem_cons.mpr ⟨lw_p27, List.forall_mem_cons.mpr ⟨lw_p28, List.forall_mem_cons.mpr ⟨lw_p29, List.forall_mem_cons.mpr ⟨lw_p30, List.forall_mem_cons.mpr ⟨lw_p31, fun _ h => absurd h List.not_mem_nil⟩⟩⟩⟩⟩⟩⟩⟩⟩⟩⟩⟩⟩⟩⟩⟩
theorem lw_p32 : lw_okq (⟨"TalkKeeperModel", "outcomes", "(II)I"⟩, 45) := ⟨⟨by decide +kernel, by decide +kernel⟩, List.mem_of_getElem? (i := 643) (by decide +kernel), List.mem_of_getElem? (i := 888) (by decide +kernel), List.mem_of_getElem? (i := 889) (by decide +kernel)⟩
theorem lw_p33 : lw_okq (⟨"TalkKeeperModel", "filled", "(IIIII)I"⟩, 45) := ⟨⟨by decide +kernel, by decide +kernel⟩, List.mem_of_getElem? (i := 643) (by decide +kernel), List.mem_of_getElem? (i := 892) (by decide +kernel), List.mem_of_getElem? (i := 893) (by decide +kernel)⟩
theorem lw_p34 : lw_okq (⟨"TalkKeeperModel", "reverts", "(IIIZ)V"⟩, 45) := ⟨⟨by decide +kernel, by decide +kernel⟩, List.mem_of_getElem? (i := 643) (by decide +kernel), List.mem_of_getElem? (i := 899) (by decide +kernel), List.mem_of_getElem? (i := 900) (by decide +kernel)⟩
theorem lw_p35 : lw_okq (⟨"TalkKeeperModel", "broken", "(I)I"⟩, 45) := ⟨⟨by decide +kernel, by decide +kernel⟩, List.mem_of_getElem? (i := 643) (by decide +kernel), List.mem_of_getElem? (i := 903) (by decide +kernel), List.mem_of_getElem? (i := 904) (by decide +kernel)⟩
theorem lw_p36 : lw_okq (⟨"TalkKeeperModel", "valueOf", "(I)I"⟩, 45) := ⟨⟨by decide +kernel, by decide +kernel⟩, List.mem_of_getElem? (i := 643) (by decide +kernel), List.mem_of_getElem? (i := 907) (by decide +kernel), List.mem_of_getElem? (i := 908) (by decide +kernel)⟩
theorem lw_p37 : lw_okq (⟨"TalkKeeperModel", "answers", "(I)V"⟩, 45) := ⟨⟨by decide +kernel, by decide +kernel⟩, List.mem_of_getElem? (i := 643) (by decide +kernel), List.mem_of_getElem? (i := 914) (by decide +kernel), List.mem_of_getElem? (i := 915) (by decide +kernel)⟩
theorem lw_p38 : lw_okq (⟨"TalkKeeperModel", "isAll", "(II)Z"⟩, 45) := ⟨⟨by decide +kernel, by decide +kernel⟩, List.mem_of_getElem? (i := 643) (by decide +kernel), List.mem_of_getElem? (i := 918) (by decide +kernel), List.mem_of_getElem? (i := 919) (by decide +kernel)⟩
theorem lw_p39 : lw_okq (⟨"TalkKeeperModel", "forget", "()V"⟩, 45) := ⟨⟨by decide +kernel, by decide +kernel⟩, List.mem_of_getElem? (i := 643) (by decide +kernel), List.mem_of_getElem? (i := 926) (by decide +kernel), List.mem_of_getElem? (i := 927) (by decide +kernel)⟩
theorem lw_p40 : lw_okq (⟨"TalkKeeperModel", "worstOf", "(I)I"⟩, 45) := ⟨⟨by decide +kernel, by decide +kernel⟩, List.mem_of_getElem? (i := 643) (by decide +kernel), List.mem_of_getElem? (i := 930) (by decide +kernel), List.mem_of_getElem? (i := 931) (by decide +kernel)⟩
theorem lw_p41 : lw_okq (⟨"TalkKeeperModel", "state", "(I)I"⟩, 45) := ⟨⟨by decide +kernel, by decide +kernel⟩, List.mem_of_getElem? (i := 643) (by decide +kernel), List.mem_of_getElem? (i := 934) (by decide +kernel), List.mem_of_getElem? (i := 935) (by decide +kernel)⟩
theorem lw_p42 : lw_okq (⟨"TalkKeeperModel", "isWanted", "(II)Z"⟩, 45) := ⟨⟨by decide +kernel, by decide +kernel⟩, List.mem_of_getElem? (i := 643) (by decide +kernel), List.mem_of_getElem? (i := 938) (by decide +kernel), List.mem_of_getElem? (i := 939) (by decide +kernel)⟩
theorem lw_p43 : lw_okq (⟨"TalkKeeperModel", "worstBy", "(II)I"⟩, 45) := ⟨⟨by decide +kernel, by decide +kernel⟩, List.mem_of_getElem? (i := 643) (by decide +kernel), List.mem_of_getElem? (i := 942) (by decide +kernel), List.mem_of_getElem? (i := 943) (by decide +kernel)⟩
def lw_privs_3 : List (MethodName × Nat) := [(⟨"TalkKeeperModel", "outcomes", "(II)I"⟩, 45), (⟨"TalkKeeperModel", "filled", "(IIIII)I"⟩, 45), (⟨"TalkKeeperModel", "reverts", "(IIIZ)V"⟩, 45), (⟨"TalkKeeperModel", "broken", "(I)I"⟩, 45), (⟨"TalkKeeperModel", "valueOf", "(I)I"⟩, 45), (⟨"TalkKeeperModel", "answers", "(I)V"⟩, 45), (⟨"TalkKeeperModel", "isAll", "(II)Z"⟩, 45), (⟨"TalkKeeperModel", "forget", "()V"⟩, 45), (⟨"TalkKeeperModel", "worstOf", "(I)I"⟩, 45), (⟨"TalkKeeperModel", "state", "(I)I"⟩, 45), (⟨"TalkKeeperModel", "isWanted", "(II)Z"⟩, 45), (⟨"TalkKeeperModel", "worstBy", "(II)I"⟩, 45)]
theorem lw_r3 : ∀ q ∈ lw_privs_3, lw_okq q := List.forall_mem_cons.mpr ⟨lw_p32, List.forall_mem_cons.mpr ⟨lw_p33, List.forall_mem_cons.mpr ⟨lw_p34, List.forall_mem_cons.mpr ⟨lw_p35, List.forall_mem_cons.mpr ⟨lw_p36, List.forall_mem_cons.mpr ⟨lw_p37, List.forall_mem_cons.mpr ⟨lw_p38, List.forall_mem_cons.mpr ⟨lw_p39, List.forall_mem_cons.mpr ⟨lw_p40, List.forall_mem_cons.mpr ⟨lw_p41, List.forall_mem_cons.mpr ⟨lw_p42, List.forall_mem_cons.mpr ⟨lw_p43, fun _ h => absurd h List.not_mem_nil⟩⟩⟩⟩⟩⟩⟩⟩⟩⟩⟩⟩
def lw_privs : List (MethodName × Nat) := lw_privs_1 ++ (lw_privs_2 ++ (lw_privs_3))
def lw_tbl : List Cond := k2_sels lw_privs ++ tables_1
theorem lw_privs_ok : ∀ q ∈ lw_privs, lw_okq q := by
  show ∀ q ∈ lw_privs_1 ++ (lw_privs_2 ++ (lw_privs_3)), lw_okq q
  exact List.forall_mem_append.mpr ⟨lw_r1, List.forall_mem_append.mpr ⟨lw_r2, lw_r3⟩⟩
theorem goodIn_r {big : List Cond} (ws : List Cond) (ps : List Nat) (hp : ws = ps.filterMap (fun i => big[i]?)) (h : ws.all goodWord = true) : GoodIn big ws := by
  intro w hw
  have h1 := List.all_eq_true.mp h w hw
  rw [hp] at hw
  obtain ⟨i, -, hi⟩ := List.mem_filterMap.mp hw
  have hm : w ∈ big := by first | exact List.mem_of_getElem? hi | exact List.getElem?_mem hi
  exact ⟨hm, good_of_word h1⟩
theorem goodIn_app {big a b : List Cond} (ha : GoodIn big a) (hb : GoodIn big b) : GoodIn big (a ++ b) := fun w h => (List.mem_append.mp h).elim (ha w) (hb w)
theorem goodIn_ca {big a b : List Cond} {c : Cond} (ha : GoodIn big (c :: a)) (hb : GoodIn big b) : GoodIn big (c :: (a ++ b)) := fun w h => (List.mem_cons.mp h).elim (fun e => ha w (List.mem_cons.mpr (Or.inl e))) (fun h => (List.mem_append.mp h).elim (fun h => ha w (List.mem_cons.mpr (Or.inr h))) (hb w))
theorem goodIn_sub {big ws : List Cond} (hm : ∀ w ∈ ws, w ∈ big) (h : ws.all goodWord = true) : GoodIn big ws := fun w hw => ⟨hm w hw, good_of_word (List.all_eq_true.mp h w hw)⟩
def RX0 : String := "TalkKeeper$Form"
def TX0 : u_T := fun k => match k with
  | 0 => ("TalkKeeper$Form", "places", "I", false)
  | 1 => ("TalkKeeper$Form", "kinds", "[I", true)
  | 2 => ("TalkKeeper$Form", "sizes", "[I", true)
  | 3 => ("TalkKeeper$Form", "firstParts", "[I", true)
  | 4 => ("TalkKeeper$Form", "secondParts", "[I", true)
  | 5 => ("TalkKeeper$Form", "sets", "[I", true)
  | 6 => ("TalkKeeper$Form", "sureValues", "[I", true)
  | 7 => ("TalkKeeper$Form", "rules", "I", false)
  | 8 => ("TalkKeeper$Form", "ruleKinds", "[I", true)
  | 9 => ("TalkKeeper$Form", "leftPlaces", "[I", true)
  | 10 => ("TalkKeeper$Form", "leftValues", "[I", true)
  | 11 => ("TalkKeeper$Form", "rightPlaces", "[I", true)
  | 12 => ("TalkKeeper$Form", "rightValues", "[I", true)
  | 13 => ("TalkKeeper$Form", "wordPlaces", "[I", true)
  | _ => ("TalkKeeper$Form", "wordValues", "[I", true)
def tyX0 : Nat → FieldType := fun k => match k with
  | 0 => .int
  | 1 => .array .int
  | 2 => .array .int
  | 3 => .array .int
  | 4 => .array .int
  | 5 => .array .int
  | 6 => .array .int
  | 7 => .int
  | 8 => .array .int
  | 9 => .array .int
  | 10 => .array .int
  | 11 => .array .int
  | 12 => .array .int
  | 13 => .array .int
  | _ => .array .int
abbrev wsX00 : List Cond := u_ws RX0 TX0 15
theorem nmX0 : ∀ a, a < 15 → ∀ b, b < 15 → a ≠ b → (TX0 a).2.1 ≠ (TX0 b).2.1 := by decide +kernel
theorem tyX0_ok : ∀ k, k < 15 → parseFieldDescriptor (TX0 k).2.2.1 = some (tyX0 k) := by decide +kernel
abbrev cX0_init : ByteArray := prog_2_method_1_code
def yX0_init : MethodName := ⟨RX0, "<init>", "()V"⟩
abbrev cX0_placeCount : ByteArray := prog_2_method_2_code
def yX0_placeCount : MethodName := ⟨RX0, "placeCount", "()I"⟩
abbrev cX0_hasPlace : ByteArray := prog_2_method_3_code
def yX0_hasPlace : MethodName := ⟨RX0, "hasPlace", "(I)Z"⟩
abbrev cX0_hasValue : ByteArray := prog_2_method_4_code
def yX0_hasValue : MethodName := ⟨RX0, "hasValue", "(II)Z"⟩
abbrev cX0_isWorked : ByteArray := prog_2_method_5_code
def yX0_isWorked : MethodName := ⟨RX0, "isWorked", "(I)Z"⟩
abbrev cX0_kindOf : ByteArray := prog_2_method_6_code
def yX0_kindOf : MethodName := ⟨RX0, "kindOf", "(I)I"⟩
abbrev cX0_sizeOf : ByteArray := prog_2_method_7_code
def yX0_sizeOf : MethodName := ⟨RX0, "sizeOf", "(I)I"⟩
abbrev cX0_addPlace : ByteArray := prog_2_method_8_code
def yX0_addPlace : MethodName := ⟨RX0, "addPlace", "(IIII)I"⟩
abbrev cX0_addRule : ByteArray := prog_2_method_9_code
def yX0_addRule : MethodName := ⟨RX0, "addRule", "(IIIII)I"⟩
abbrev cX0_teach : ByteArray := prog_2_method_10_code
def yX0_teach : MethodName := ⟨RX0, "teach", "(III)V"⟩
abbrev cX0_placeSaidBy : ByteArray := prog_2_method_11_code
def yX0_placeSaidBy : MethodName := ⟨RX0, "placeSaidBy", "(I)I"⟩
abbrev cX0_valueSaidBy : ByteArray := prog_2_method_12_code
def yX0_valueSaidBy : MethodName := ⟨RX0, "valueSaidBy", "(I)I"⟩
abbrev cX0_leastWord : ByteArray := prog_2_method_13_code
def yX0_leastWord : MethodName := ⟨RX0, "leastWord", "(II)I"⟩
abbrev cX0_empty : ByteArray := prog_2_method_14_code
def yX0_empty : MethodName := ⟨RX0, "empty", "()V"⟩
abbrev cX0_sureValue : ByteArray := prog_2_method_15_code
def yX0_sureValue : MethodName := ⟨RX0, "sureValue", "(I)I"⟩
abbrev cX0_setOf : ByteArray := prog_2_method_16_code
def yX0_setOf : MethodName := ⟨RX0, "setOf", "(I)I"⟩
abbrev cX0_leastValue : ByteArray := prog_2_method_17_code
def yX0_leastValue : MethodName := ⟨RX0, "leastValue", "(I)I"⟩
abbrev cX0_isWanted : ByteArray := prog_2_method_18_code
def yX0_isWanted : MethodName := ⟨RX0, "isWanted", "(I)Z"⟩
abbrev cX0_questions : ByteArray := prog_2_method_19_code
def yX0_questions : MethodName := ⟨RX0, "questions", "()I"⟩
abbrev cX0_placeToConfirm : ByteArray := prog_2_method_20_code
def yX0_placeToConfirm : MethodName := ⟨RX0, "placeToConfirm", "()I"⟩
abbrev cX0_firstBrokenBar : ByteArray := prog_2_method_21_code
def yX0_firstBrokenBar : MethodName := ⟨RX0, "firstBrokenBar", "()I"⟩
abbrev cX0_put : ByteArray := prog_2_method_22_code
def yX0_put : MethodName := ⟨RX0, "put", "(III)V"⟩
abbrev cX0_settle : ByteArray := prog_2_method_23_code
def yX0_settle : MethodName := ⟨RX0, "settle", "(III)I"⟩
abbrev cX0_strike : ByteArray := prog_2_method_24_code
def yX0_strike : MethodName := ⟨RX0, "strike", "(II)V"⟩
abbrev cX0_copyTo : ByteArray := prog_2_method_25_code
def yX0_copyTo : MethodName := ⟨RX0, "copyTo", "([I[II)V"⟩
abbrev cX0_copyFrom : ByteArray := prog_2_method_26_code
def yX0_copyFrom : MethodName := ⟨RX0, "copyFrom", "([I[II)V"⟩
abbrev cX0_holdsForm : ByteArray := prog_2_method_27_code
def yX0_holdsForm : MethodName := ⟨RX0, "holdsForm", "([II)Z"⟩
def RX1 : String := "TalkKeeper$History"
def TX1 : u_T := fun k => match k with
  | 0 => ("TalkKeeper$History", "sets", "[I", true)
  | 1 => ("TalkKeeper$History", "sureValues", "[I", true)
  | 2 => ("TalkKeeper$History", "next", "I", false)
  | _ => ("TalkKeeper$History", "size", "I", false)
def tyX1 : Nat → FieldType := fun k => match k with
  | 0 => .array .int
  | 1 => .array .int
  | 2 => .int
  | _ => .int
abbrev wsX10 : List Cond := u_ws RX1 TX1 4
theorem nmX1 : ∀ a, a < 4 → ∀ b, b < 4 → a ≠ b → (TX1 a).2.1 ≠ (TX1 b).2.1 := by decide +kernel
theorem tyX1_ok : ∀ k, k < 4 → parseFieldDescriptor (TX1 k).2.2.1 = some (tyX1 k) := by decide +kernel
abbrev cX1_init : ByteArray := prog_3_method_1_code
def yX1_init : MethodName := ⟨RX1, "<init>", "()V"⟩
abbrev cX1_size : ByteArray := prog_3_method_2_code
def yX1_size : MethodName := ⟨RX1, "size", "()I"⟩
abbrev cX1_clear : ByteArray := prog_3_method_3_code
def yX1_clear : MethodName := ⟨RX1, "clear", "()V"⟩
abbrev cX1_keep : ByteArray := prog_3_method_4_code
def yX1_keep : MethodName := ⟨RX1, "keep", "([LTalkKeeper$Form;)V"⟩
abbrev cX1_restore : ByteArray := prog_3_method_5_code
def yX1_restore : MethodName := ⟨RX1, "restore", "([LTalkKeeper$Form;)V"⟩
def RX2 : String := "TalkKeeper$Planner"
def TX2 : u_T := fun k => match k with
  | 0 => ("TalkKeeper$Planner", "found", "[I", true)
  | _ => ("TalkKeeper$Planner", "weights", "[I", true)
def tyX2 : Nat → FieldType := fun k => match k with
  | 0 => .array .int
  | _ => .array .int
abbrev wsX20 : List Cond := u_ws RX2 TX2 2
theorem nmX2 : ∀ a, a < 2 → ∀ b, b < 2 → a ≠ b → (TX2 a).2.1 ≠ (TX2 b).2.1 := by decide +kernel
theorem tyX2_ok : ∀ k, k < 2 → parseFieldDescriptor (TX2 k).2.2.1 = some (tyX2 k) := by decide +kernel
abbrev cX2_init : ByteArray := prog_4_method_1_code
def yX2_init : MethodName := ⟨RX2, "<init>", "()V"⟩
abbrev cX2_fewestQuestions : ByteArray := prog_4_method_2_code
def yX2_fewestQuestions : MethodName := ⟨RX2, "fewestQuestions", "(LTalkKeeper$Form;)I"⟩
abbrev cX2_placeToAsk : ByteArray := prog_4_method_3_code
def yX2_placeToAsk : MethodName := ⟨RX2, "placeToAsk", "(LTalkKeeper$Form;)I"⟩
abbrev cX2_startFrom : ByteArray := prog_4_method_4_code
def yX2_startFrom : MethodName := ⟨RX2, "startFrom", "(LTalkKeeper$Form;)V"⟩
abbrev cX2_fewest : ByteArray := prog_4_method_5_code
def yX2_fewest : MethodName := ⟨RX2, "fewest", "(LTalkKeeper$Form;II)I"⟩
abbrev cX2_fewestBy : ByteArray := prog_4_method_6_code
def yX2_fewestBy : MethodName := ⟨RX2, "fewestBy", "(LTalkKeeper$Form;III)I"⟩
def RX3 : String := "TalkKeeper$Reader"
def TX3 : u_T := fun k => match k with
  | 0 => ("TalkKeeper$Reader", "words", "[I", true)
  | 1 => ("TalkKeeper$Reader", "length", "I", false)
  | 2 => ("TalkKeeper$Reader", "costs", "[I", true)
  | 3 => ("TalkKeeper$Reader", "ways", "[I", true)
  | 4 => ("TalkKeeper$Reader", "passed", "[I", true)
  | 5 => ("TalkKeeper$Reader", "usesRow", "[Z", true)
  | 6 => ("TalkKeeper$Reader", "fillings", "[I", true)
  | _ => ("TalkKeeper$Reader", "answer", "I", false)
def tyX3 : Nat → FieldType := fun k => match k with
  | 0 => .array .int
  | 1 => .int
  | 2 => .array .int
  | 3 => .array .int
  | 4 => .array .int
  | 5 => .array .boolean
  | 6 => .array .int
  | _ => .int
abbrev wsX30 : List Cond := u_ws RX3 TX3 8
theorem nmX3 : ∀ a, a < 8 → ∀ b, b < 8 → a ≠ b → (TX3 a).2.1 ≠ (TX3 b).2.1 := by decide +kernel
theorem tyX3_ok : ∀ k, k < 8 → parseFieldDescriptor (TX3 k).2.2.1 = some (tyX3 k) := by decide +kernel
abbrev cX3_init : ByteArray := prog_5_method_1_code
def yX3_init : MethodName := ⟨RX3, "<init>", "()V"⟩
abbrev cX3_leastCost : ByteArray := prog_5_method_2_code
def yX3_leastCost : MethodName := ⟨RX3, "leastCost", "()I"⟩
abbrev cX3_isHeard : ByteArray := prog_5_method_3_code
def yX3_isHeard : MethodName := ⟨RX3, "isHeard", "()Z"⟩
abbrev cX3_mostPassed : ByteArray := prog_5_method_4_code
def yX3_mostPassed : MethodName := ⟨RX3, "mostPassed", "()I"⟩
abbrev cX3_leastReadings : ByteArray := prog_5_method_5_code
def yX3_leastReadings : MethodName := ⟨RX3, "leastReadings", "()I"⟩
abbrev cX3_answer : ByteArray := prog_5_method_6_code
def yX3_answer : MethodName := ⟨RX3, "answer", "()I"⟩
abbrev cX3_valuesFor : ByteArray := prog_5_method_7_code
def yX3_valuesFor : MethodName := ⟨RX3, "valuesFor", "(I)I"⟩
abbrev cX3_mayLeave : ByteArray := prog_5_method_8_code
def yX3_mayLeave : MethodName := ⟨RX3, "mayLeave", "(I)Z"⟩
abbrev cX3_read : ByteArray := prog_5_method_9_code
def yX3_read : MethodName := ⟨RX3, "read", "(LTalkKeeper$Form;ILTalkKeeper$RowBook;[II)V"⟩
abbrev cX3_startAtEnd : ByteArray := prog_5_method_10_code
def yX3_startAtEnd : MethodName := ⟨RX3, "startAtEnd", "()V"⟩
abbrev cX3_passWord : ByteArray := prog_5_method_11_code
def yX3_passWord : MethodName := ⟨RX3, "passWord", "(I)V"⟩
abbrev cX3_useRow : ByteArray := prog_5_method_12_code
def yX3_useRow : MethodName := ⟨RX3, "useRow", "(LTalkKeeper$Form;LTalkKeeper$RowBook;II)V"⟩
abbrev cX3_clearAt : ByteArray := prog_5_method_13_code
def yX3_clearAt : MethodName := ⟨RX3, "clearAt", "(II)V"⟩
abbrev cX3_fillingByRow : ByteArray := prog_5_method_14_code
def yX3_fillingByRow : MethodName := ⟨RX3, "fillingByRow", "(LTalkKeeper$Form;LTalkKeeper$RowBook;III)I"⟩
abbrev cX3_fits : ByteArray := prog_5_method_15_code
def yX3_fits : MethodName := ⟨RX3, "fits", "(LTalkKeeper$Form;LTalkKeeper$RowBook;II)Z"⟩
abbrev cX3_itemFits : ByteArray := prog_5_method_16_code
def yX3_itemFits : MethodName := ⟨RX3, "itemFits", "(LTalkKeeper$Form;III)Z"⟩
abbrev cX3_commonAnswer : ByteArray := prog_5_method_17_code
def yX3_commonAnswer : MethodName := ⟨RX3, "commonAnswer", "(LTalkKeeper$Form;ILTalkKeeper$RowBook;)I"⟩
def RX4 : String := "TalkKeeper$RowBook"
def TX4 : u_T := fun k => match k with
  | 0 => ("TalkKeeper$RowBook", "rowCount", "I", false)
  | 1 => ("TalkKeeper$RowBook", "waiting", "I", false)
  | 2 => ("TalkKeeper$RowBook", "rowForms", "[I", true)
  | 3 => ("TalkKeeper$RowBook", "costs", "[I", true)
  | 4 => ("TalkKeeper$RowBook", "acts", "[I", true)
  | 5 => ("TalkKeeper$RowBook", "lengths", "[I", true)
  | 6 => ("TalkKeeper$RowBook", "kinds", "[I", true)
  | _ => ("TalkKeeper$RowBook", "keys", "[I", true)
def tyX4 : Nat → FieldType := fun k => match k with
  | 0 => .int
  | 1 => .int
  | 2 => .array .int
  | 3 => .array .int
  | 4 => .array .int
  | 5 => .array .int
  | 6 => .array .int
  | _ => .array .int
abbrev wsX40 : List Cond := u_ws RX4 TX4 8
theorem nmX4 : ∀ a, a < 8 → ∀ b, b < 8 → a ≠ b → (TX4 a).2.1 ≠ (TX4 b).2.1 := by decide +kernel
theorem tyX4_ok : ∀ k, k < 8 → parseFieldDescriptor (TX4 k).2.2.1 = some (tyX4 k) := by decide +kernel
abbrev cX4_init : ByteArray := prog_6_method_1_code
def yX4_init : MethodName := ⟨RX4, "<init>", "()V"⟩
abbrev cX4_rowCount : ByteArray := prog_6_method_2_code
def yX4_rowCount : MethodName := ⟨RX4, "rowCount", "()I"⟩
abbrev cX4_itemCount : ByteArray := prog_6_method_3_code
def yX4_itemCount : MethodName := ⟨RX4, "itemCount", "()I"⟩
abbrev cX4_addItem : ByteArray := prog_6_method_4_code
def yX4_addItem : MethodName := ⟨RX4, "addItem", "(II)I"⟩
abbrev cX4_itemsNamePlace : ByteArray := prog_6_method_5_code
def yX4_itemsNamePlace : MethodName := ⟨RX4, "itemsNamePlace", "()Z"⟩
abbrev cX4_itemsLackPlace : ByteArray := prog_6_method_6_code
def yX4_itemsLackPlace : MethodName := ⟨RX4, "itemsLackPlace", "(LTalkKeeper$Form;)Z"⟩
abbrev cX4_itemsNameWorked : ByteArray := prog_6_method_7_code
def yX4_itemsNameWorked : MethodName := ⟨RX4, "itemsNameWorked", "(LTalkKeeper$Form;)Z"⟩
abbrev cX4_addRow : ByteArray := prog_6_method_8_code
def yX4_addRow : MethodName := ⟨RX4, "addRow", "(III)I"⟩
abbrev cX4_isOfForm : ByteArray := prog_6_method_9_code
def yX4_isOfForm : MethodName := ⟨RX4, "isOfForm", "(II)Z"⟩
abbrev cX4_costOf : ByteArray := prog_6_method_10_code
def yX4_costOf : MethodName := ⟨RX4, "costOf", "(I)I"⟩
abbrev cX4_actOf : ByteArray := prog_6_method_11_code
def yX4_actOf : MethodName := ⟨RX4, "actOf", "(I)I"⟩
abbrev cX4_lengthOf : ByteArray := prog_6_method_12_code
def yX4_lengthOf : MethodName := ⟨RX4, "lengthOf", "(I)I"⟩
abbrev cX4_kindOfItem : ByteArray := prog_6_method_13_code
def yX4_kindOfItem : MethodName := ⟨RX4, "kindOfItem", "(II)I"⟩
abbrev cX4_keyOfItem : ByteArray := prog_6_method_14_code
def yX4_keyOfItem : MethodName := ⟨RX4, "keyOfItem", "(II)I"⟩
abbrev cX4_isRow : ByteArray := prog_6_method_15_code
def yX4_isRow : MethodName := ⟨RX4, "isRow", "(I)Z"⟩
abbrev cX4_isItemOf : ByteArray := prog_6_method_16_code
def yX4_isItemOf : MethodName := ⟨RX4, "isItemOf", "(II)Z"⟩
def RX5 : String := "TalkKeeper"
def TX5 : u_T := fun k => match k with
  | 0 => ("TalkKeeper", "forms", "[LTalkKeeper$Form;", true)
  | 1 => ("TalkKeeper", "formCount", "I", false)
  | 2 => ("TalkKeeper", "rows", "LTalkKeeper$RowBook;", true)
  | 3 => ("TalkKeeper", "pile", "[I", true)
  | 4 => ("TalkKeeper", "pileSize", "I", false)
  | 5 => ("TalkKeeper", "line", "[I", true)
  | 6 => ("TalkKeeper", "lineLength", "I", false)
  | 7 => ("TalkKeeper", "reader", "LTalkKeeper$Reader;", true)
  | 8 => ("TalkKeeper", "planner", "LTalkKeeper$Planner;", true)
  | 9 => ("TalkKeeper", "history", "LTalkKeeper$History;", true)
  | 10 => ("TalkKeeper", "misses", "I", false)
  | 11 => ("TalkKeeper", "brokenRule", "I", false)
  | 12 => ("TalkKeeper", "confirmPlace", "I", false)
  | _ => ("TalkKeeper", "confirmValue", "I", false)
def tyX5 : Nat → FieldType := fun k => match k with
  | 0 => .array (.object "TalkKeeper$Form")
  | 1 => .int
  | 2 => .object "TalkKeeper$RowBook"
  | 3 => .array .int
  | 4 => .int
  | 5 => .array .int
  | 6 => .int
  | 7 => .object "TalkKeeper$Reader"
  | 8 => .object "TalkKeeper$Planner"
  | 9 => .object "TalkKeeper$History"
  | 10 => .int
  | 11 => .int
  | 12 => .int
  | _ => .int
abbrev wsX50 : List Cond := u_ws RX5 TX5 14
theorem nmX5 : ∀ a, a < 14 → ∀ b, b < 14 → a ≠ b → (TX5 a).2.1 ≠ (TX5 b).2.1 := by decide +kernel
theorem tyX5_ok : ∀ k, k < 14 → parseFieldDescriptor (TX5 k).2.2.1 = some (tyX5 k) := by decide +kernel
abbrev cX5_init : ByteArray := prog_1_method_1_code
def yX5_init : MethodName := ⟨RX5, "<init>", "()V"⟩
abbrev cX5_form : ByteArray := prog_1_method_2_code
def yX5_form : MethodName := ⟨RX5, "form", "()I"⟩
abbrev cX5_place : ByteArray := prog_1_method_3_code
def yX5_place : MethodName := ⟨RX5, "place", "(III)I"⟩
abbrev cX5_worked : ByteArray := prog_1_method_4_code
def yX5_worked : MethodName := ⟨RX5, "worked", "(IIII)I"⟩
abbrev cX5_bar : ByteArray := prog_1_method_5_code
def yX5_bar : MethodName := ⟨RX5, "bar", "(IIIII)I"⟩
abbrev cX5_need : ByteArray := prog_1_method_6_code
def yX5_need : MethodName := ⟨RX5, "need", "(IIII)I"⟩
abbrev cX5_word : ByteArray := prog_1_method_7_code
def yX5_word : MethodName := ⟨RX5, "word", "(IIII)I"⟩
abbrev cX5_item : ByteArray := prog_1_method_8_code
def yX5_item : MethodName := ⟨RX5, "item", "(II)I"⟩
abbrev cX5_row : ByteArray := prog_1_method_9_code
def yX5_row : MethodName := ⟨RX5, "row", "(III)I"⟩
abbrev cX5_open : ByteArray := prog_1_method_10_code
def yX5_open : MethodName := ⟨RX5, "open", "(I)I"⟩
abbrev cX5_close : ByteArray := prog_1_method_11_code
def yX5_close : MethodName := ⟨RX5, "close", "()I"⟩
abbrev cX5_say : ByteArray := prog_1_method_12_code
def yX5_say : MethodName := ⟨RX5, "say", "(I)I"⟩
abbrev cX5_hear : ByteArray := prog_1_method_13_code
def yX5_hear : MethodName := ⟨RX5, "hear", "()I"⟩
abbrev cX5_back : ByteArray := prog_1_method_14_code
def yX5_back : MethodName := ⟨RX5, "back", "()I"⟩
abbrev cX5_act : ByteArray := prog_1_method_15_code
def yX5_act : MethodName := ⟨RX5, "act", "()I"⟩
abbrev cX5_worst : ByteArray := prog_1_method_16_code
def yX5_worst : MethodName := ⟨RX5, "worst", "()I"⟩
abbrev cX5_about : ByteArray := prog_1_method_17_code
def yX5_about : MethodName := ⟨RX5, "about", "(III)I"⟩
abbrev cX5_said : ByteArray := prog_1_method_18_code
def yX5_said : MethodName := ⟨RX5, "said", "(III)I"⟩
abbrev cX5_heard : ByteArray := prog_1_method_19_code
def yX5_heard : MethodName := ⟨RX5, "heard", "(I)I"⟩
abbrev cX5_count : ByteArray := prog_1_method_20_code
def yX5_count : MethodName := ⟨RX5, "count", "(I)I"⟩
abbrev cX5_asNumber : ByteArray := prog_1_method_21_code
def yX5_asNumber : MethodName := ⟨RX5, "asNumber", "(Z)I"⟩
abbrev cX5_isSize : ByteArray := prog_1_method_22_code
def yX5_isSize : MethodName := ⟨RX5, "isSize", "(I)Z"⟩
abbrev cX5_isWord : ByteArray := prog_1_method_23_code
def yX5_isWord : MethodName := ⟨RX5, "isWord", "(I)Z"⟩
abbrev cX5_isItem : ByteArray := prog_1_method_24_code
def yX5_isItem : MethodName := ⟨RX5, "isItem", "(II)Z"⟩
abbrev cX5_formAt : ByteArray := prog_1_method_25_code
def yX5_formAt : MethodName := ⟨RX5, "formAt", "(I)LTalkKeeper$Form;"⟩
abbrev cX5_isInTalk : ByteArray := prog_1_method_26_code
def yX5_isInTalk : MethodName := ⟨RX5, "isInTalk", "(I)Z"⟩
abbrev cX5_uppermost : ByteArray := prog_1_method_27_code
def yX5_uppermost : MethodName := ⟨RX5, "uppermost", "()I"⟩
abbrev cX5_turnPage : ByteArray := prog_1_method_28_code
def yX5_turnPage : MethodName := ⟨RX5, "turnPage", "()V"⟩
abbrev cX5_forgetConfirm : ByteArray := prog_1_method_29_code
def yX5_forgetConfirm : MethodName := ⟨RX5, "forgetConfirm", "()V"⟩
abbrev cX5_takeLine : ByteArray := prog_1_method_30_code
def yX5_takeLine : MethodName := ⟨RX5, "takeLine", "(LTalkKeeper$Form;)I"⟩
abbrev cX5_fillPlaces : ByteArray := prog_1_method_31_code
def yX5_fillPlaces : MethodName := ⟨RX5, "fillPlaces", "(LTalkKeeper$Form;)I"⟩
abbrev cX5_fillPlace : ByteArray := prog_1_method_32_code
def yX5_fillPlace : MethodName := ⟨RX5, "fillPlace", "(LTalkKeeper$Form;I)I"⟩
abbrev cX5_onlyValue : ByteArray := prog_1_method_33_code
def yX5_onlyValue : MethodName := ⟨RX5, "onlyValue", "(I)I"⟩
def RX6 : String := "TalkKeeperModel"
def TX6 : u_T := fun k => match k with
  | 0 => ("TalkKeeperModel", "thrown", "I", false)
  | 1 => ("TalkKeeperModel", "forms", "I", false)
  | 2 => ("TalkKeeperModel", "places", "[I", true)
  | 3 => ("TalkKeeperModel", "kind", "[I", true)
  | 4 => ("TalkKeeperModel", "values", "[I", true)
  | 5 => ("TalkKeeperModel", "partA", "[I", true)
  | 6 => ("TalkKeeperModel", "partB", "[I", true)
  | 7 => ("TalkKeeperModel", "set", "[I", true)
  | 8 => ("TalkKeeperModel", "sure", "[Z", true)
  | 9 => ("TalkKeeperModel", "rules", "[I", true)
  | 10 => ("TalkKeeperModel", "isBar", "[Z", true)
  | 11 => ("TalkKeeperModel", "ruleA", "[I", true)
  | 12 => ("TalkKeeperModel", "ruleV", "[I", true)
  | 13 => ("TalkKeeperModel", "ruleB", "[I", true)
  | 14 => ("TalkKeeperModel", "ruleW", "[I", true)
  | 15 => ("TalkKeeperModel", "says", "[I", true)
  | 16 => ("TalkKeeperModel", "rows", "I", false)
  | 17 => ("TalkKeeperModel", "rowForm", "[I", true)
  | 18 => ("TalkKeeperModel", "rowCost", "[I", true)
  | 19 => ("TalkKeeperModel", "rowAct", "[I", true)
  | 20 => ("TalkKeeperModel", "rowSize", "[I", true)
  | 21 => ("TalkKeeperModel", "itemWhat", "[I", true)
  | 22 => ("TalkKeeperModel", "itemOf", "[I", true)
  | 23 => ("TalkKeeperModel", "items", "I", false)
  | 24 => ("TalkKeeperModel", "pile", "[I", true)
  | 25 => ("TalkKeeperModel", "piled", "I", false)
  | 26 => ("TalkKeeperModel", "kept", "I", false)
  | 27 => ("TalkKeeperModel", "keptSet", "[I", true)
  | 28 => ("TalkKeeperModel", "keptSure", "[Z", true)
  | 29 => ("TalkKeeperModel", "askedPlace", "I", false)
  | 30 => ("TalkKeeperModel", "askedValue", "I", false)
  | 31 => ("TalkKeeperModel", "unheard", "I", false)
  | 32 => ("TalkKeeperModel", "line", "[I", true)
  | 33 => ("TalkKeeperModel", "said", "I", false)
  | 34 => ("TalkKeeperModel", "cost", "[I", true)
  | 35 => ("TalkKeeperModel", "many", "[I", true)
  | 36 => ("TalkKeeperModel", "passed", "[I", true)
  | 37 => ("TalkKeeperModel", "uses", "[Z", true)
  | 38 => ("TalkKeeperModel", "outcome", "[I", true)
  | 39 => ("TalkKeeperModel", "lastCost", "I", false)
  | 40 => ("TalkKeeperModel", "lastHeard", "I", false)
  | 41 => ("TalkKeeperModel", "lastPassed", "I", false)
  | 42 => ("TalkKeeperModel", "lastMany", "I", false)
  | 43 => ("TalkKeeperModel", "lastBroken", "I", false)
  | _ => ("TalkKeeperModel", "worsts", "[I", true)
def tyX6 : Nat → FieldType := fun k => match k with
  | 0 => .int
  | 1 => .int
  | 2 => .array .int
  | 3 => .array .int
  | 4 => .array .int
  | 5 => .array .int
  | 6 => .array .int
  | 7 => .array .int
  | 8 => .array .boolean
  | 9 => .array .int
  | 10 => .array .boolean
  | 11 => .array .int
  | 12 => .array .int
  | 13 => .array .int
  | 14 => .array .int
  | 15 => .array .int
  | 16 => .int
  | 17 => .array .int
  | 18 => .array .int
  | 19 => .array .int
  | 20 => .array .int
  | 21 => .array .int
  | 22 => .array .int
  | 23 => .int
  | 24 => .array .int
  | 25 => .int
  | 26 => .int
  | 27 => .array .int
  | 28 => .array .boolean
  | 29 => .int
  | 30 => .int
  | 31 => .int
  | 32 => .array .int
  | 33 => .int
  | 34 => .array .int
  | 35 => .array .int
  | 36 => .array .int
  | 37 => .array .boolean
  | 38 => .array .int
  | 39 => .int
  | 40 => .int
  | 41 => .int
  | 42 => .int
  | 43 => .int
  | _ => .array .int
abbrev wsX60 : List Cond := u_ws RX6 TX6 45
theorem nmX6 : ∀ a, a < 45 → ∀ b, b < 45 → a ≠ b → (TX6 a).2.1 ≠ (TX6 b).2.1 := by decide +kernel
theorem tyX6_ok : ∀ k, k < 45 → parseFieldDescriptor (TX6 k).2.2.1 = some (tyX6 k) := by decide +kernel
abbrev cX6_init : ByteArray := prog_8_method_1_code
def yX6_init : MethodName := ⟨RX6, "<init>", "()V"⟩
abbrev cX6_in : ByteArray := prog_8_method_3_code
def yX6_in : MethodName := ⟨RX6, "in", "(III)Z"⟩
abbrev cX6_isForm : ByteArray := prog_8_method_4_code
def yX6_isForm : MethodName := ⟨RX6, "isForm", "(I)Z"⟩
abbrev cX6_isPlace : ByteArray := prog_8_method_5_code
def yX6_isPlace : MethodName := ⟨RX6, "isPlace", "(II)Z"⟩
abbrev cX6_isValue : ByteArray := prog_8_method_6_code
def yX6_isValue : MethodName := ⟨RX6, "isValue", "(III)Z"⟩
abbrev cX6_isOpen : ByteArray := prog_8_method_7_code
def yX6_isOpen : MethodName := ⟨RX6, "isOpen", "(I)Z"⟩
abbrev cX6_form : ByteArray := prog_8_method_8_code
def yX6_form : MethodName := ⟨RX6, "form", "()I"⟩
abbrev cX6_comes : ByteArray := prog_8_method_9_code
def yX6_comes : MethodName := ⟨RX6, "comes", "(III)I"⟩
abbrev cX6_place : ByteArray := prog_8_method_10_code
def yX6_place : MethodName := ⟨RX6, "place", "(III)I"⟩
abbrev cX6_worked : ByteArray := prog_8_method_11_code
def yX6_worked : MethodName := ⟨RX6, "worked", "(IIII)I"⟩
abbrev cX6_rule : ByteArray := prog_8_method_12_code
def yX6_rule : MethodName := ⟨RX6, "rule", "(IZIIII)I"⟩
abbrev cX6_bar : ByteArray := prog_8_method_13_code
def yX6_bar : MethodName := ⟨RX6, "bar", "(IIIII)I"⟩
abbrev cX6_need : ByteArray := prog_8_method_14_code
def yX6_need : MethodName := ⟨RX6, "need", "(IIII)I"⟩
abbrev cX6_word : ByteArray := prog_8_method_15_code
def yX6_word : MethodName := ⟨RX6, "word", "(IIII)I"⟩
abbrev cX6_item : ByteArray := prog_8_method_16_code
def yX6_item : MethodName := ⟨RX6, "item", "(II)I"⟩
abbrev cX6_row : ByteArray := prog_8_method_17_code
def yX6_row : MethodName := ⟨RX6, "row", "(III)I"⟩
abbrev cX6_lowest : ByteArray := prog_8_method_18_code
def yX6_lowest : MethodName := ⟨RX6, "lowest", "(I)I"⟩
abbrev cX6_valueOf : ByteArray := prog_8_method_19_code
def yX6_valueOf : MethodName := ⟨RX6, "valueOf", "(I)I"⟩
abbrev cX6_isWanted : ByteArray := prog_8_method_20_code
def yX6_isWanted : MethodName := ⟨RX6, "isWanted", "(II)Z"⟩
abbrev cX6_broken : ByteArray := prog_8_method_21_code
def yX6_broken : MethodName := ⟨RX6, "broken", "(I)I"⟩
abbrev cX6_open : ByteArray := prog_8_method_22_code
def yX6_open : MethodName := ⟨RX6, "open", "(I)I"⟩
abbrev cX6_close : ByteArray := prog_8_method_23_code
def yX6_close : MethodName := ⟨RX6, "close", "()I"⟩
abbrev cX6_keep : ByteArray := prog_8_method_24_code
def yX6_keep : MethodName := ⟨RX6, "keep", "()V"⟩
abbrev cX6_back : ByteArray := prog_8_method_25_code
def yX6_back : MethodName := ⟨RX6, "back", "()I"⟩
abbrev cX6_say : ByteArray := prog_8_method_26_code
def yX6_say : MethodName := ⟨RX6, "say", "(I)I"⟩
abbrev cX6_fits : ByteArray := prog_8_method_27_code
def yX6_fits : MethodName := ⟨RX6, "fits", "(III)Z"⟩
abbrev cX6_isLeast : ByteArray := prog_8_method_28_code
def yX6_isLeast : MethodName := ⟨RX6, "isLeast", "(III)Z"⟩
abbrev cX6_mayPass : ByteArray := prog_8_method_29_code
def yX6_mayPass : MethodName := ⟨RX6, "mayPass", "(I)Z"⟩
abbrev cX6_work : ByteArray := prog_8_method_30_code
def yX6_work : MethodName := ⟨RX6, "work", "(I)V"⟩
abbrev cX6_filled : ByteArray := prog_8_method_31_code
def yX6_filled : MethodName := ⟨RX6, "filled", "(IIIII)I"⟩
abbrev cX6_outcomes : ByteArray := prog_8_method_32_code
def yX6_outcomes : MethodName := ⟨RX6, "outcomes", "(II)I"⟩
abbrev cX6_isOne : ByteArray := prog_8_method_33_code
def yX6_isOne : MethodName := ⟨RX6, "isOne", "(I)Z"⟩
abbrev cX6_fills : ByteArray := prog_8_method_34_code
def yX6_fills : MethodName := ⟨RX6, "fills", "(I)V"⟩
abbrev cX6_reverts : ByteArray := prog_8_method_35_code
def yX6_reverts : MethodName := ⟨RX6, "reverts", "(IIIZ)V"⟩
abbrev cX6_isAll : ByteArray := prog_8_method_36_code
def yX6_isAll : MethodName := ⟨RX6, "isAll", "(II)Z"⟩
abbrev cX6_answers : ByteArray := prog_8_method_37_code
def yX6_answers : MethodName := ⟨RX6, "answers", "(I)V"⟩
abbrev cX6_hear : ByteArray := prog_8_method_38_code
def yX6_hear : MethodName := ⟨RX6, "hear", "()I"⟩
abbrev cX6_state : ByteArray := prog_8_method_39_code
def yX6_state : MethodName := ⟨RX6, "state", "(I)I"⟩
abbrev cX6_worstBy : ByteArray := prog_8_method_40_code
def yX6_worstBy : MethodName := ⟨RX6, "worstBy", "(II)I"⟩
abbrev cX6_worstOf : ByteArray := prog_8_method_41_code
def yX6_worstOf : MethodName := ⟨RX6, "worstOf", "(I)I"⟩
abbrev cX6_forget : ByteArray := prog_8_method_42_code
def yX6_forget : MethodName := ⟨RX6, "forget", "()V"⟩
abbrev cX6_worst : ByteArray := prog_8_method_43_code
def yX6_worst : MethodName := ⟨RX6, "worst", "()I"⟩
abbrev cX6_act : ByteArray := prog_8_method_44_code
def yX6_act : MethodName := ⟨RX6, "act", "()I"⟩
abbrev cX6_about : ByteArray := prog_8_method_45_code
def yX6_about : MethodName := ⟨RX6, "about", "(III)I"⟩
abbrev cX6_said : ByteArray := prog_8_method_46_code
def yX6_said : MethodName := ⟨RX6, "said", "(III)I"⟩
abbrev cX6_heard : ByteArray := prog_8_method_47_code
def yX6_heard : MethodName := ⟨RX6, "heard", "(I)I"⟩
abbrev cX6_count : ByteArray := prog_8_method_48_code
def yX6_count : MethodName := ⟨RX6, "count", "(I)I"⟩
def RJ6 : String := "java/lang/Integer"
def TJ6 : u_T := fun k => match k with
  | _ => ("", "", "", false)
def tyJ6 : Nat → FieldType := fun k => match k with
  | _ => .int
theorem nmJ6 : ∀ a, a < 0 → ∀ b, b < 0 → a ≠ b → (TJ6 a).2.1 ≠ (TJ6 b).2.1 := by decide +kernel
theorem tyJ6_ok : ∀ k, k < 0 → parseFieldDescriptor (TJ6 k).2.2.1 = some (tyJ6 k) := by decide +kernel
abbrev cJ6_bitCount_0f7a4 : ByteArray := prog_9_method_49_code
def yJ6_bitCount_0f7a4 : MethodName := ⟨RJ6, "bitCount", "(I)I"⟩
def RJ9 : String := "java/lang/Math"
def TJ9 : u_T := fun k => match k with
  | _ => ("", "", "", false)
def tyJ9 : Nat → FieldType := fun k => match k with
  | _ => .int
theorem nmJ9 : ∀ a, a < 0 → ∀ b, b < 0 → a ≠ b → (TJ9 a).2.1 ≠ (TJ9 b).2.1 := by decide +kernel
theorem tyJ9_ok : ∀ k, k < 0 → parseFieldDescriptor (TJ9 k).2.2.1 = some (tyJ9 k) := by decide +kernel
abbrev cJ9_max_7cf53 : ByteArray := prog_10_method_65_code
def yJ9_max_7cf53 : MethodName := ⟨RJ9, "max", "(II)I"⟩
abbrev cJ9_min_7cf53 : ByteArray := prog_10_method_69_code
def yJ9_min_7cf53 : MethodName := ⟨RJ9, "min", "(II)I"⟩
def RJ10 : String := "java/lang/System"
def TJ10 : u_T := fun k => match k with
  | _ => ("", "", "", false)
def tyJ10 : Nat → FieldType := fun k => match k with
  | _ => .int
theorem nmJ10 : ∀ a, a < 0 → ∀ b, b < 0 → a ≠ b → (TJ10 a).2.1 ≠ (TJ10 b).2.1 := by decide +kernel
theorem tyJ10_ok : ∀ k, k < 0 → parseFieldDescriptor (TJ10 k).2.2.1 = some (tyJ10 k) := by decide +kernel
def RJ7 : String := "java/util/Arrays"
def TJ7 : u_T := fun k => match k with
  | _ => ("", "", "", false)
def tyJ7 : Nat → FieldType := fun k => match k with
  | _ => .int
theorem nmJ7 : ∀ a, a < 0 → ∀ b, b < 0 → a ≠ b → (TJ7 a).2.1 ≠ (TJ7 b).2.1 := by decide +kernel
theorem tyJ7_ok : ∀ k, k < 0 → parseFieldDescriptor (TJ7 k).2.2.1 = some (tyJ7 k) := by decide +kernel
abbrev cJ7_fill_53178 : ByteArray := prog_12_method_103_code
def yJ7_fill_53178 : MethodName := ⟨RJ7, "fill", "([II)V"⟩
def RL : String := "TalkKeeperLaw"
abbrev cL_law : ByteArray := code
def yL_law : MethodName := ⟨RL, "law", "([I)Z"⟩
def wsL_law_r1 : List Cond := [Cond.classLink RL 7 RX5, Cond.instantiable RX5 14, Cond.initialized RX5, Cond.classLink RL 10 RX6, Cond.instantiable RX6 45, Cond.initialized RX6, Cond.methodLink RL 9 yX5_init, Cond.instanceMethod yX5_init, Cond.code yX5_init cX5_init 1 none, Cond.methodLink RX5 1 objectInit, Cond.instanceMethod objectInit, Cond.code objectInit ⟨#[0xb1]⟩ 1 none, Cond.classLink RX5 9 RX0, Cond.fieldLink RX5 11 "TalkKeeper" "forms" "[LTalkKeeper$Form;", Cond.fieldLink RX5 15 "TalkKeeper" "formCount" "I", Cond.classLink RX5 19 RX4, Cond.instantiable RX4 8, Cond.initialized RX4, Cond.fieldLink RX5 22 "TalkKeeper" "rows" "LTalkKeeper$RowBook;", Cond.arrayClass .int, Cond.fieldLink RX5 26 "TalkKeeper" "pile" "[I", Cond.fieldLink RX5 30 "TalkKeeper" "pileSize" "I", Cond.fieldLink RX5 33 "TalkKeeper" "line" "[I", Cond.fieldLink RX5 36 "TalkKeeper" "lineLength" "I"]
def wsL_law_r2 : List Cond := [Cond.classLink RX5 39 RX3, Cond.instantiable RX3 8, Cond.initialized RX3, Cond.fieldLink RX5 42 "TalkKeeper" "reader" "LTalkKeeper$Reader;", Cond.classLink RX5 46 RX2, Cond.instantiable RX2 2, Cond.initialized RX2, Cond.fieldLink RX5 49 "TalkKeeper" "planner" "LTalkKeeper$Planner;", Cond.classLink RX5 53 RX1, Cond.instantiable RX1 4, Cond.initialized RX1, Cond.fieldLink RX5 56 "TalkKeeper" "history" "LTalkKeeper$History;", Cond.fieldLink RX5 60 "TalkKeeper" "misses" "I", Cond.fieldLink RX5 63 "TalkKeeper" "brokenRule" "I", Cond.fieldLink RX5 66 "TalkKeeper" "confirmPlace" "I", Cond.fieldLink RX5 69 "TalkKeeper" "confirmValue" "I", Cond.instanceMethod yX4_init, Cond.code yX4_init cX4_init 1 none, Cond.methodLink RX4 3 objectInit, Cond.fieldLink RX4 9 "TalkKeeper$RowBook" "rowCount" "I", Cond.fieldLink RX4 15 "TalkKeeper$RowBook" "waiting" "I", Cond.fieldLink RX4 18 "TalkKeeper$RowBook" "rowForms" "[I", Cond.fieldLink RX4 22 "TalkKeeper$RowBook" "costs" "[I", Cond.fieldLink RX4 25 "TalkKeeper$RowBook" "acts" "[I"]
def wsL_law_r3 : List Cond := [Cond.fieldLink RX4 28 "TalkKeeper$RowBook" "lengths" "[I", Cond.fieldLink RX4 31 "TalkKeeper$RowBook" "kinds" "[I", Cond.fieldLink RX4 34 "TalkKeeper$RowBook" "keys" "[I", Cond.instanceMethod yX3_init, Cond.code yX3_init cX3_init 1 none, Cond.methodLink RX3 5 objectInit, Cond.fieldLink RX3 11 "TalkKeeper$Reader" "words" "[I", Cond.fieldLink RX3 15 "TalkKeeper$Reader" "length" "I", Cond.fieldLink RX3 19 "TalkKeeper$Reader" "costs" "[I", Cond.fieldLink RX3 22 "TalkKeeper$Reader" "ways" "[I", Cond.fieldLink RX3 25 "TalkKeeper$Reader" "passed" "[I", Cond.arrayClass .boolean, Cond.fieldLink RX3 28 "TalkKeeper$Reader" "usesRow" "[Z", Cond.fieldLink RX3 32 "TalkKeeper$Reader" "fillings" "[I", Cond.fieldLink RX3 35 "TalkKeeper$Reader" "answer" "I", Cond.instanceMethod yX2_init, Cond.code yX2_init cX2_init 1 none, Cond.methodLink RX2 3 objectInit, Cond.fieldLink RX2 11 "TalkKeeper$Planner" "found" "[I", Cond.fieldLink RX2 15 "TalkKeeper$Planner" "weights" "[I", Cond.methodLink RX5 55 yX1_init, Cond.instanceMethod yX1_init, Cond.code yX1_init cX1_init 1 none, Cond.methodLink RX1 3 objectInit]
def wsL_law_r4 : List Cond := [Cond.fieldLink RX1 11 "TalkKeeper$History" "sets" "[I", Cond.fieldLink RX1 15 "TalkKeeper$History" "sureValues" "[I", Cond.fieldLink RX1 18 "TalkKeeper$History" "next" "I", Cond.fieldLink RX1 22 "TalkKeeper$History" "size" "I", Cond.methodLink RX1 25 yJ7_fill_53178, Cond.static yJ7_fill_53178, Cond.initialized RJ7, Cond.code yJ7_fill_53178 cJ7_fill_53178 4 none, Cond.methodLink RL 12 yX6_init, Cond.instanceMethod yX6_init, Cond.code yX6_init cX6_init 1 none, Cond.methodLink RX6 1 objectInit, Cond.fieldLink RX6 7 "TalkKeeperModel" "places" "[I", Cond.fieldLink RX6 13 "TalkKeeperModel" "kind" "[I", Cond.fieldLink RX6 16 "TalkKeeperModel" "values" "[I", Cond.fieldLink RX6 19 "TalkKeeperModel" "partA" "[I", Cond.fieldLink RX6 22 "TalkKeeperModel" "partB" "[I", Cond.fieldLink RX6 25 "TalkKeeperModel" "set" "[I", Cond.fieldLink RX6 28 "TalkKeeperModel" "sure" "[Z", Cond.fieldLink RX6 32 "TalkKeeperModel" "rules" "[I", Cond.fieldLink RX6 35 "TalkKeeperModel" "isBar" "[Z", Cond.fieldLink RX6 38 "TalkKeeperModel" "ruleA" "[I", Cond.fieldLink RX6 41 "TalkKeeperModel" "ruleV" "[I", Cond.fieldLink RX6 44 "TalkKeeperModel" "ruleB" "[I"]
def wsL_law_r5 : List Cond := [Cond.fieldLink RX6 47 "TalkKeeperModel" "ruleW" "[I", Cond.fieldLink RX6 50 "TalkKeeperModel" "says" "[I", Cond.fieldLink RX6 53 "TalkKeeperModel" "rowForm" "[I", Cond.fieldLink RX6 56 "TalkKeeperModel" "rowCost" "[I", Cond.fieldLink RX6 59 "TalkKeeperModel" "rowAct" "[I", Cond.fieldLink RX6 62 "TalkKeeperModel" "rowSize" "[I", Cond.fieldLink RX6 65 "TalkKeeperModel" "itemWhat" "[I", Cond.fieldLink RX6 68 "TalkKeeperModel" "itemOf" "[I", Cond.fieldLink RX6 71 "TalkKeeperModel" "pile" "[I", Cond.fieldLink RX6 74 "TalkKeeperModel" "keptSet" "[I", Cond.fieldLink RX6 77 "TalkKeeperModel" "keptSure" "[Z", Cond.fieldLink RX6 80 "TalkKeeperModel" "askedPlace" "I", Cond.fieldLink RX6 84 "TalkKeeperModel" "line" "[I", Cond.fieldLink RX6 87 "TalkKeeperModel" "cost" "[I", Cond.fieldLink RX6 90 "TalkKeeperModel" "many" "[I", Cond.fieldLink RX6 93 "TalkKeeperModel" "passed" "[I", Cond.fieldLink RX6 96 "TalkKeeperModel" "uses" "[Z", Cond.fieldLink RX6 99 "TalkKeeperModel" "outcome" "[I", Cond.fieldLink RX6 102 "TalkKeeperModel" "lastBroken" "I", Cond.fieldLink RX6 105 "TalkKeeperModel" "worsts" "[I", Cond.methodLink RL 13 yX5_form, Cond.instanceMethod yX5_form, Cond.selects RX5 yX5_form yX5_form, Cond.code yX5_form cX5_form 1 (some .int)]
def wsL_law_r6 : List Cond := [Cond.instantiable RX0 15, Cond.initialized RX0, Cond.methodLink RX5 72 yX0_init, Cond.instanceMethod yX0_init, Cond.code yX0_init cX0_init 1 none, Cond.methodLink RX0 3 objectInit, Cond.fieldLink RX0 9 "TalkKeeper$Form" "places" "I", Cond.fieldLink RX0 15 "TalkKeeper$Form" "kinds" "[I", Cond.fieldLink RX0 19 "TalkKeeper$Form" "sizes" "[I", Cond.fieldLink RX0 22 "TalkKeeper$Form" "firstParts" "[I", Cond.fieldLink RX0 25 "TalkKeeper$Form" "secondParts" "[I", Cond.fieldLink RX0 28 "TalkKeeper$Form" "sets" "[I", Cond.fieldLink RX0 31 "TalkKeeper$Form" "sureValues" "[I", Cond.fieldLink RX0 34 "TalkKeeper$Form" "rules" "I", Cond.fieldLink RX0 37 "TalkKeeper$Form" "ruleKinds" "[I", Cond.fieldLink RX0 40 "TalkKeeper$Form" "leftPlaces" "[I", Cond.fieldLink RX0 43 "TalkKeeper$Form" "leftValues" "[I", Cond.fieldLink RX0 46 "TalkKeeper$Form" "rightPlaces" "[I", Cond.fieldLink RX0 49 "TalkKeeper$Form" "rightValues" "[I", Cond.fieldLink RX0 52 "TalkKeeper$Form" "wordPlaces" "[I", Cond.fieldLink RX0 55 "TalkKeeper$Form" "wordValues" "[I", Cond.methodLink RX0 58 yJ7_fill_53178, Cond.methodLink RL 17 yX6_form, Cond.instanceMethod yX6_form]
def wsL_law_r7 : List Cond := [Cond.selects RX6 yX6_form yX6_form, Cond.code yX6_form cX6_form 2 (some .int), Cond.fieldLink RX6 111 "TalkKeeperModel" "forms" "I", Cond.methodLink RL 18 yX5_place, Cond.instanceMethod yX5_place, Cond.selects RX5 yX5_place yX5_place, Cond.code yX5_place cX5_place 5 (some .int), Cond.methodLink RX5 73 yX5_formAt, Cond.instanceMethod yX5_formAt, Cond.selects RX5 yX5_formAt yX5_formAt, Cond.code yX5_formAt cX5_formAt 2 (some (.object "TalkKeeper$Form")), Cond.methodLink RX5 77 yX5_isSize, Cond.static yX5_isSize, Cond.code yX5_isSize cX5_isSize 1 (some .boolean), Cond.methodLink RX5 81 yX5_isInTalk, Cond.instanceMethod yX5_isInTalk, Cond.selects RX5 yX5_isInTalk yX5_isInTalk, Cond.code yX5_isInTalk cX5_isInTalk 3 (some .boolean), Cond.methodLink RX5 84 yX0_addPlace, Cond.instanceMethod yX0_addPlace, Cond.selects RX0 yX0_addPlace yX0_addPlace, Cond.code yX0_addPlace cX0_addPlace 5 (some .int), Cond.methodLink RL 22 yX6_place, Cond.instanceMethod yX6_place]
def wsL_law_r8 : List Cond := [Cond.selects RX6 yX6_place yX6_place, Cond.code yX6_place cX6_place 4 (some .int), Cond.methodLink RX6 118 yX6_isForm, Cond.instanceMethod yX6_isForm, Cond.selects RX6 yX6_isForm yX6_isForm, Cond.code yX6_isForm cX6_isForm 2 (some .boolean), Cond.methodLink RX6 114 yX6_in, Cond.static yX6_in, Cond.code yX6_in cX6_in 3 (some .boolean), Cond.methodLink RX6 129 yX6_isOpen, Cond.instanceMethod yX6_isOpen, Cond.selects RX6 yX6_isOpen yX6_isOpen, Cond.code yX6_isOpen cX6_isOpen 4 (some .boolean), Cond.fieldLink RX6 126 "TalkKeeperModel" "piled" "I", Cond.methodLink RX6 132 yX6_comes, Cond.instanceMethod yX6_comes, Cond.selects RX6 yX6_comes yX6_comes, Cond.code yX6_comes cX6_comes 5 (some .int), Cond.methodLink RL 23 yX5_worked, Cond.instanceMethod yX5_worked, Cond.selects RX5 yX5_worked yX5_worked, Cond.code yX5_worked cX5_worked 6 (some .int), Cond.methodLink RX5 88 yX0_hasPlace, Cond.instanceMethod yX0_hasPlace]
def wsL_law_r9 : List Cond := [Cond.selects RX0 yX0_hasPlace yX0_hasPlace, Cond.code yX0_hasPlace cX0_hasPlace 2 (some .boolean), Cond.methodLink RX5 91 yX0_isWorked, Cond.instanceMethod yX0_isWorked, Cond.selects RX0 yX0_isWorked yX0_isWorked, Cond.code yX0_isWorked cX0_isWorked 2 (some .boolean), Cond.methodLink RX0 64 yX0_hasPlace, Cond.methodLink RL 27 yX6_worked, Cond.instanceMethod yX6_worked, Cond.selects RX6 yX6_worked yX6_worked, Cond.code yX6_worked cX6_worked 6 (some .int), Cond.methodLink RX6 122 yX6_isPlace, Cond.instanceMethod yX6_isPlace, Cond.selects RX6 yX6_isPlace yX6_isPlace, Cond.code yX6_isPlace cX6_isPlace 3 (some .boolean), Cond.methodLink RL 28 yX5_bar, Cond.instanceMethod yX5_bar, Cond.selects RX5 yX5_bar yX5_bar, Cond.code yX5_bar cX5_bar 7 (some .int), Cond.methodLink RX5 94 yX0_hasValue, Cond.instanceMethod yX0_hasValue, Cond.selects RX0 yX0_hasValue yX0_hasValue, Cond.code yX0_hasValue cX0_hasValue 3 (some .boolean), Cond.methodLink RX5 98 yX0_addRule]
def wsL_law_r10 : List Cond := [Cond.instanceMethod yX0_addRule, Cond.selects RX0 yX0_addRule yX0_addRule, Cond.code yX0_addRule cX0_addRule 6 (some .int), Cond.methodLink RL 32 yX6_bar, Cond.instanceMethod yX6_bar, Cond.selects RX6 yX6_bar yX6_bar, Cond.code yX6_bar cX6_bar 6 (some .int), Cond.methodLink RX6 136 yX6_isValue, Cond.instanceMethod yX6_isValue, Cond.selects RX6 yX6_isValue yX6_isValue, Cond.code yX6_isValue cX6_isValue 4 (some .boolean), Cond.methodLink RX6 139 yX6_rule, Cond.instanceMethod yX6_rule, Cond.selects RX6 yX6_rule yX6_rule, Cond.code yX6_rule cX6_rule 8 (some .int), Cond.methodLink RL 33 yX5_need, Cond.instanceMethod yX5_need, Cond.selects RX5 yX5_need yX5_need, Cond.code yX5_need cX5_need 6 (some .int), Cond.methodLink RL 36 yX6_need, Cond.instanceMethod yX6_need, Cond.selects RX6 yX6_need yX6_need, Cond.code yX6_need cX6_need 5 (some .int), Cond.methodLink RL 37 yX5_word]
def wsL_law_r11 : List Cond := [Cond.instanceMethod yX5_word, Cond.selects RX5 yX5_word yX5_word, Cond.code yX5_word cX5_word 6 (some .int), Cond.methodLink RX5 102 yX5_isWord, Cond.static yX5_isWord, Cond.code yX5_isWord cX5_isWord 1 (some .boolean), Cond.methodLink RX5 105 yX0_placeSaidBy, Cond.instanceMethod yX0_placeSaidBy, Cond.selects RX0 yX0_placeSaidBy yX0_placeSaidBy, Cond.code yX0_placeSaidBy cX0_placeSaidBy 2 (some .int), Cond.methodLink RX5 109 yX0_teach, Cond.instanceMethod yX0_teach, Cond.selects RX0 yX0_teach yX0_teach, Cond.code yX0_teach cX0_teach 4 none, Cond.methodLink RL 40 yX6_word, Cond.instanceMethod yX6_word, Cond.selects RX6 yX6_word yX6_word, Cond.code yX6_word cX6_word 5 (some .int), Cond.methodLink RL 41 yX5_item, Cond.instanceMethod yX5_item, Cond.selects RX5 yX5_item yX5_item, Cond.code yX5_item cX5_item 3 (some .int), Cond.methodLink RX5 113 yX5_isItem, Cond.static yX5_isItem]
def wsL_law_r12 : List Cond := [Cond.code yX5_isItem cX5_isItem 2 (some .boolean), Cond.methodLink RX5 116 yX4_addItem, Cond.instanceMethod yX4_addItem, Cond.selects RX4 yX4_addItem yX4_addItem, Cond.code yX4_addItem cX4_addItem 3 (some .int), Cond.methodLink RL 45 yX6_item, Cond.instanceMethod yX6_item, Cond.selects RX6 yX6_item yX6_item, Cond.code yX6_item cX6_item 3 (some .int), Cond.fieldLink RX6 143 "TalkKeeperModel" "items" "I", Cond.methodLink RL 46 yX5_row, Cond.instanceMethod yX5_row, Cond.selects RX5 yX5_row yX5_row, Cond.code yX5_row cX5_row 5 (some .int), Cond.methodLink RX5 120 yX4_itemsLackPlace, Cond.instanceMethod yX4_itemsLackPlace, Cond.selects RX4 yX4_itemsLackPlace yX4_itemsLackPlace, Cond.code yX4_itemsLackPlace cX4_itemsLackPlace 4 (some .boolean), Cond.methodLink RX4 37 yX0_hasPlace, Cond.methodLink RX5 124 yX4_itemsNameWorked, Cond.instanceMethod yX4_itemsNameWorked, Cond.selects RX4 yX4_itemsNameWorked yX4_itemsNameWorked, Cond.code yX4_itemsNameWorked cX4_itemsNameWorked 4 (some .boolean), Cond.methodLink RX4 43 yX0_isWorked]
def wsL_law_r13 : List Cond := [Cond.methodLink RX5 127 yX4_itemsNamePlace, Cond.instanceMethod yX4_itemsNamePlace, Cond.selects RX4 yX4_itemsNamePlace yX4_itemsNamePlace, Cond.code yX4_itemsNamePlace cX4_itemsNamePlace 2 (some .boolean), Cond.methodLink RX5 131 yX4_addRow, Cond.instanceMethod yX4_addRow, Cond.selects RX4 yX4_addRow yX4_addRow, Cond.code yX4_addRow cX4_addRow 4 (some .int), Cond.methodLink RL 49 yX6_row, Cond.instanceMethod yX6_row, Cond.selects RX6 yX6_row yX6_row, Cond.code yX6_row cX6_row 7 (some .int), Cond.fieldLink RX6 146 "TalkKeeperModel" "rows" "I", Cond.methodLink RL 50 yX5_open, Cond.instanceMethod yX5_open, Cond.selects RX5 yX5_open yX5_open, Cond.code yX5_open cX5_open 3 (some .int), Cond.methodLink RX5 135 yX0_empty, Cond.instanceMethod yX0_empty, Cond.selects RX0 yX0_empty yX0_empty, Cond.code yX0_empty cX0_empty 1 none, Cond.methodLink RX5 138 yX5_turnPage, Cond.instanceMethod yX5_turnPage, Cond.selects RX5 yX5_turnPage yX5_turnPage]
def wsL_law_r14 : List Cond := [Cond.code yX5_turnPage cX5_turnPage 1 none, Cond.methodLink RX5 226 yX1_clear, Cond.instanceMethod yX1_clear, Cond.selects RX1 yX1_clear yX1_clear, Cond.code yX1_clear cX1_clear 1 none, Cond.methodLink RX5 168 yX5_forgetConfirm, Cond.instanceMethod yX5_forgetConfirm, Cond.selects RX5 yX5_forgetConfirm yX5_forgetConfirm, Cond.code yX5_forgetConfirm cX5_forgetConfirm 1 none, Cond.methodLink RL 54 yX6_open, Cond.instanceMethod yX6_open, Cond.selects RX6 yX6_open yX6_open, Cond.code yX6_open cX6_open 3 (some .int), Cond.fieldLink RX6 156 "TalkKeeperModel" "kept" "I", Cond.methodLink RL 55 yX5_close, Cond.instanceMethod yX5_close, Cond.selects RX5 yX5_close yX5_close, Cond.code yX5_close cX5_close 1 (some .int), Cond.methodLink RL 58 yX6_close, Cond.instanceMethod yX6_close, Cond.selects RX6 yX6_close yX6_close, Cond.code yX6_close cX6_close 1 (some .int), Cond.methodLink RL 59 yX5_say, Cond.instanceMethod yX5_say]
def wsL_law_r15 : List Cond := [Cond.selects RX5 yX5_say yX5_say, Cond.code yX5_say cX5_say 2 (some .int), Cond.methodLink RL 62 yX6_say, Cond.instanceMethod yX6_say, Cond.selects RX6 yX6_say yX6_say, Cond.code yX6_say cX6_say 2 (some .int), Cond.fieldLink RX6 159 "TalkKeeperModel" "said" "I", Cond.methodLink RL 63 yX5_hear, Cond.instanceMethod yX5_hear, Cond.selects RX5 yX5_hear yX5_hear, Cond.code yX5_hear cX5_hear 2 (some .int), Cond.methodLink RX5 152 Lib.Math.min.name, Cond.static Lib.Math.min.name, Cond.initialized "java/lang/Math", Cond.code Lib.Math.min.name Lib.Math.min.code 2 (some .int), Cond.methodLink RX5 141 yX5_uppermost, Cond.instanceMethod yX5_uppermost, Cond.selects RX5 yX5_uppermost yX5_uppermost, Cond.code yX5_uppermost cX5_uppermost 1 (some .int), Cond.methodLink RX5 145 yX3_read, Cond.instanceMethod yX3_read, Cond.selects RX3 yX3_read yX3_read, Cond.code yX3_read cX3_read 8 none, Cond.methodLink RX3 38 Lib.Math.min.name]
def wsL_law_r16 : List Cond := [Cond.methodLink RX3 44 yX3_startAtEnd, Cond.instanceMethod yX3_startAtEnd, Cond.selects RX3 yX3_startAtEnd yX3_startAtEnd, Cond.code yX3_startAtEnd cX3_startAtEnd 2 none, Cond.methodLink RX3 47 yX3_passWord, Cond.instanceMethod yX3_passWord, Cond.selects RX3 yX3_passWord yX3_passWord, Cond.code yX3_passWord cX3_passWord 3 none, Cond.methodLink RX3 51 yX4_rowCount, Cond.instanceMethod yX4_rowCount, Cond.selects RX4 yX4_rowCount yX4_rowCount, Cond.code yX4_rowCount cX4_rowCount 1 (some .int), Cond.methodLink RX3 57 yX4_isOfForm, Cond.instanceMethod yX4_isOfForm, Cond.selects RX4 yX4_isOfForm yX4_isOfForm, Cond.code yX4_isOfForm cX4_isOfForm 3 (some .boolean), Cond.methodLink RX4 46 yX4_isRow, Cond.instanceMethod yX4_isRow, Cond.selects RX4 yX4_isRow yX4_isRow, Cond.code yX4_isRow cX4_isRow 2 (some .boolean), Cond.methodLink RX3 61 yX3_fits, Cond.instanceMethod yX3_fits, Cond.selects RX3 yX3_fits yX3_fits, Cond.code yX3_fits cX3_fits 7 (some .boolean)]
def wsL_law_r17 : List Cond := [Cond.methodLink RX3 73 yX4_lengthOf, Cond.instanceMethod yX4_lengthOf, Cond.selects RX4 yX4_lengthOf yX4_lengthOf, Cond.code yX4_lengthOf cX4_lengthOf 2 (some .int), Cond.methodLink RX3 92 yX4_kindOfItem, Cond.instanceMethod yX4_kindOfItem, Cond.selects RX4 yX4_kindOfItem yX4_kindOfItem, Cond.code yX4_kindOfItem cX4_kindOfItem 3 (some .int), Cond.methodLink RX4 49 yX4_isItemOf, Cond.instanceMethod yX4_isItemOf, Cond.selects RX4 yX4_isItemOf yX4_isItemOf, Cond.code yX4_isItemOf cX4_isItemOf 3 (some .boolean), Cond.methodLink RX3 95 yX4_keyOfItem, Cond.instanceMethod yX4_keyOfItem, Cond.selects RX4 yX4_keyOfItem yX4_keyOfItem, Cond.code yX4_keyOfItem cX4_keyOfItem 3 (some .int), Cond.methodLink RX3 103 yX3_itemFits, Cond.static yX3_itemFits, Cond.code yX3_itemFits cX3_itemFits 4 (some .boolean), Cond.methodLink RX3 107 yX0_placeSaidBy, Cond.methodLink RX3 65 yX3_useRow, Cond.instanceMethod yX3_useRow, Cond.selects RX3 yX3_useRow yX3_useRow, Cond.code yX3_useRow cX3_useRow 10 none]
def wsL_law_r18 : List Cond := [Cond.constant RX3 84 (1000000), Cond.methodLink RX3 85 Lib.Math.max.name, Cond.static Lib.Math.max.name, Cond.code Lib.Math.max.name Lib.Math.max.code 2 (some .int), Cond.methodLink RX3 77 yX4_costOf, Cond.instanceMethod yX4_costOf, Cond.selects RX4 yX4_costOf yX4_costOf, Cond.code yX4_costOf cX4_costOf 2 (some .int), Cond.methodLink RX3 80 yX3_clearAt, Cond.instanceMethod yX3_clearAt, Cond.selects RX3 yX3_clearAt yX3_clearAt, Cond.code yX3_clearAt cX3_clearAt 4 none, Cond.methodLink RX3 88 yX3_fillingByRow, Cond.instanceMethod yX3_fillingByRow, Cond.selects RX3 yX3_fillingByRow yX3_fillingByRow, Cond.code yX3_fillingByRow cX3_fillingByRow 7 (some .int), Cond.methodLink RX3 98 yX0_valueSaidBy, Cond.instanceMethod yX0_valueSaidBy, Cond.selects RX0 yX0_valueSaidBy yX0_valueSaidBy, Cond.code yX0_valueSaidBy cX0_valueSaidBy 2 (some .int), Cond.methodLink RX3 69 yX3_commonAnswer, Cond.instanceMethod yX3_commonAnswer, Cond.selects RX3 yX3_commonAnswer yX3_commonAnswer, Cond.code yX3_commonAnswer cX3_commonAnswer 7 (some .int)]
def wsL_law_r19 : List Cond := [Cond.methodLink RX3 110 yX4_actOf, Cond.instanceMethod yX4_actOf, Cond.selects RX4 yX4_actOf yX4_actOf, Cond.code yX4_actOf cX4_actOf 2 (some .int), Cond.methodLink RX5 149 yX3_isHeard, Cond.instanceMethod yX3_isHeard, Cond.selects RX3 yX3_isHeard yX3_isHeard, Cond.code yX3_isHeard cX3_isHeard 1 (some .boolean), Cond.methodLink RX5 157 yX3_leastCost, Cond.instanceMethod yX3_leastCost, Cond.selects RX3 yX3_leastCost yX3_leastCost, Cond.code yX3_leastCost cX3_leastCost 1 (some .int), Cond.methodLink RX5 160 yX1_keep, Cond.instanceMethod yX1_keep, Cond.selects RX1 yX1_keep yX1_keep, Cond.code yX1_keep cX1_keep 3 none, Cond.methodLink RX1 37 Lib.Math.min.name, Cond.methodLink RX1 31 yX0_copyTo, Cond.instanceMethod yX0_copyTo, Cond.selects RX0 yX0_copyTo yX0_copyTo, Cond.code yX0_copyTo cX0_copyTo 4 none, Cond.methodLink RX0 103 arraycopyName, Cond.native arraycopyName, Cond.static arraycopyName]
def wsL_law_r20 : List Cond := [Cond.initialized "java/lang/System", Cond.methodLink RX0 99 yX0_holdsForm, Cond.static yX0_holdsForm, Cond.code yX0_holdsForm cX0_holdsForm 2 (some .boolean), Cond.methodLink RX5 164 yX5_takeLine, Cond.instanceMethod yX5_takeLine, Cond.selects RX5 yX5_takeLine yX5_takeLine, Cond.code yX5_takeLine cX5_takeLine 3 (some .int), Cond.methodLink RX5 229 yX3_answer, Cond.instanceMethod yX3_answer, Cond.selects RX3 yX3_answer yX3_answer, Cond.code yX3_answer cX3_answer 1 (some .int), Cond.methodLink RX5 232 yX5_fillPlaces, Cond.instanceMethod yX5_fillPlaces, Cond.selects RX5 yX5_fillPlaces yX5_fillPlaces, Cond.code yX5_fillPlaces cX5_fillPlaces 5 (some .int), Cond.methodLink RX5 242 yX0_placeCount, Cond.instanceMethod yX0_placeCount, Cond.selects RX0 yX0_placeCount yX0_placeCount, Cond.code yX0_placeCount cX0_placeCount 1 (some .int), Cond.methodLink RX5 245 yX5_fillPlace, Cond.instanceMethod yX5_fillPlace, Cond.selects RX5 yX5_fillPlace yX5_fillPlace, Cond.code yX5_fillPlace cX5_fillPlace 4 (some .int)]
def wsL_law_r21 : List Cond := [Cond.methodLink RX5 249 yX3_valuesFor, Cond.instanceMethod yX3_valuesFor, Cond.selects RX3 yX3_valuesFor yX3_valuesFor, Cond.code yX3_valuesFor cX3_valuesFor 2 (some .int), Cond.methodLink RX5 252 yX3_mayLeave, Cond.instanceMethod yX3_mayLeave, Cond.selects RX3 yX3_mayLeave yX3_mayLeave, Cond.code yX3_mayLeave cX3_mayLeave 2 (some .boolean), Cond.methodLink RX5 192 yX0_setOf, Cond.instanceMethod yX0_setOf, Cond.selects RX0 yX0_setOf yX0_setOf, Cond.code yX0_setOf cX0_setOf 3 (some .int), Cond.methodLink RX0 71 yX0_isWorked, Cond.methodLink RX0 74 yX0_sureValue, Cond.instanceMethod yX0_sureValue, Cond.selects RX0 yX0_sureValue yX0_sureValue, Cond.code yX0_sureValue cX0_sureValue 4 (some .int), Cond.methodLink RX5 235 yX0_settle, Cond.instanceMethod yX0_settle, Cond.selects RX0 yX0_settle yX0_settle, Cond.code yX0_settle cX0_settle 7 (some .int), Cond.methodLink RX0 78 yX0_setOf, Cond.methodLink RX0 88 yX0_put, Cond.instanceMethod yX0_put]
def wsL_law_r22 : List Cond := [Cond.selects RX0 yX0_put yX0_put, Cond.code yX0_put cX0_put 4 none, Cond.methodLink RX0 92 yX0_firstBrokenBar, Cond.instanceMethod yX0_firstBrokenBar, Cond.selects RX0 yX0_firstBrokenBar yX0_firstBrokenBar, Cond.code yX0_firstBrokenBar cX0_firstBrokenBar 2 (some .int), Cond.methodLink RX5 255 yX5_onlyValue, Cond.static yX5_onlyValue, Cond.code yX5_onlyValue cX5_onlyValue 2 (some .int), Cond.methodLink RX5 238 yX0_strike, Cond.instanceMethod yX0_strike, Cond.selects RX0 yX0_strike yX0_strike, Cond.code yX0_strike cX0_strike 3 none, Cond.methodLink RX0 95 yX0_hasValue, Cond.methodLink RL 66 yX6_hear, Cond.instanceMethod yX6_hear, Cond.selects RX6 yX6_hear yX6_hear, Cond.code yX6_hear cX6_hear 2 (some .int), Cond.fieldLink RX6 200 "TalkKeeperModel" "lastCost" "I", Cond.fieldLink RX6 203 "TalkKeeperModel" "lastHeard" "I", Cond.fieldLink RX6 206 "TalkKeeperModel" "lastPassed" "I", Cond.fieldLink RX6 209 "TalkKeeperModel" "lastMany" "I", Cond.fieldLink RX6 215 "TalkKeeperModel" "unheard" "I", Cond.methodLink RX6 196 yX6_work]
def wsL_law_r23 : List Cond := [Cond.instanceMethod yX6_work, Cond.selects RX6 yX6_work yX6_work, Cond.code yX6_work cX6_work 5 none, Cond.constant RX6 171 (1000000), Cond.methodLink RX6 162 yX6_fits, Cond.instanceMethod yX6_fits, Cond.selects RX6 yX6_fits yX6_fits, Cond.code yX6_fits cX6_fits 8 (some .boolean), Cond.methodLink RX6 165 yX6_mayPass, Cond.instanceMethod yX6_mayPass, Cond.selects RX6 yX6_mayPass yX6_mayPass, Cond.code yX6_mayPass cX6_mayPass 2 (some .boolean), Cond.methodLink RX6 168 yX6_isLeast, Cond.instanceMethod yX6_isLeast, Cond.selects RX6 yX6_isLeast yX6_isLeast, Cond.code yX6_isLeast cX6_isLeast 4 (some .boolean), Cond.methodLink RX6 212 yX6_keep, Cond.instanceMethod yX6_keep, Cond.selects RX6 yX6_keep yX6_keep, Cond.code yX6_keep cX6_keep 2 none, Cond.methodLink RX6 218 yX6_fills, Cond.instanceMethod yX6_fills, Cond.selects RX6 yX6_fills yX6_fills, Cond.code yX6_fills cX6_fills 8 none]
def wsL_law_r24 : List Cond := [Cond.methodLink RX6 176 yX6_outcomes, Cond.instanceMethod yX6_outcomes, Cond.selects RX6 yX6_outcomes yX6_outcomes, Cond.code yX6_outcomes cX6_outcomes 5 (some .int), Cond.methodLink RX6 172 yX6_filled, Cond.instanceMethod yX6_filled, Cond.selects RX6 yX6_filled yX6_filled, Cond.code yX6_filled cX6_filled 8 (some .int), Cond.methodLink RX6 180 yX6_isOne, Cond.static yX6_isOne, Cond.code yX6_isOne cX6_isOne 1 (some .boolean), Cond.methodLink RX6 183 yX6_reverts, Cond.instanceMethod yX6_reverts, Cond.selects RX6 yX6_reverts yX6_reverts, Cond.code yX6_reverts cX6_reverts 6 none, Cond.methodLink RX6 187 yX6_broken, Cond.instanceMethod yX6_broken, Cond.selects RX6 yX6_broken yX6_broken, Cond.code yX6_broken cX6_broken 3 (some .int), Cond.methodLink RX6 153 yX6_valueOf, Cond.instanceMethod yX6_valueOf, Cond.selects RX6 yX6_valueOf yX6_valueOf, Cond.code yX6_valueOf cX6_valueOf 4 (some .int), Cond.methodLink RX6 149 yX6_lowest]
def wsL_law_r25 : List Cond := [Cond.static yX6_lowest, Cond.code yX6_lowest cX6_lowest 2 (some .int), Cond.methodLink RX6 221 yX6_answers, Cond.instanceMethod yX6_answers, Cond.selects RX6 yX6_answers yX6_answers, Cond.code yX6_answers cX6_answers 4 none, Cond.fieldLink RX6 193 "TalkKeeperModel" "askedValue" "I", Cond.methodLink RX6 190 yX6_isAll, Cond.instanceMethod yX6_isAll, Cond.selects RX6 yX6_isAll yX6_isAll, Cond.code yX6_isAll cX6_isAll 5 (some .boolean), Cond.methodLink RL 67 yX5_back, Cond.instanceMethod yX5_back, Cond.selects RX5 yX5_back yX5_back, Cond.code yX5_back cX5_back 1 (some .int), Cond.methodLink RX5 171 yX1_size, Cond.instanceMethod yX1_size, Cond.selects RX1 yX1_size yX1_size, Cond.code yX1_size cX1_size 1 (some .int), Cond.methodLink RX5 174 yX1_restore, Cond.instanceMethod yX1_restore, Cond.selects RX1 yX1_restore yX1_restore, Cond.code yX1_restore cX1_restore 3 none, Cond.methodLink RX1 43 Lib.Math.max.name]
def wsL_law_r26 : List Cond := [Cond.methodLink RX1 46 yX0_copyFrom, Cond.instanceMethod yX0_copyFrom, Cond.selects RX0 yX0_copyFrom yX0_copyFrom, Cond.code yX0_copyFrom cX0_copyFrom 4 none, Cond.methodLink RL 70 yX6_back, Cond.instanceMethod yX6_back, Cond.selects RX6 yX6_back yX6_back, Cond.code yX6_back cX6_back 2 (some .int), Cond.methodLink RL 71 yX5_act, Cond.instanceMethod yX5_act, Cond.selects RX5 yX5_act yX5_act, Cond.code yX5_act cX5_act 3 (some .int), Cond.methodLink RX5 177 yX0_questions, Cond.instanceMethod yX0_questions, Cond.selects RX0 yX0_questions yX0_questions, Cond.code yX0_questions cX0_questions 3 (some .int), Cond.methodLink RX0 81 yX0_isWanted, Cond.instanceMethod yX0_isWanted, Cond.selects RX0 yX0_isWanted yX0_isWanted, Cond.code yX0_isWanted cX0_isWanted 4 (some .boolean), Cond.methodLink RX5 180 yX0_placeToConfirm, Cond.instanceMethod yX0_placeToConfirm, Cond.selects RX0 yX0_placeToConfirm yX0_placeToConfirm, Cond.code yX0_placeToConfirm cX0_placeToConfirm 3 (some .int)]
def wsL_law_r27 : List Cond := [Cond.methodLink RX0 84 yX0_questions, Cond.methodLink RX5 183 yX0_leastValue, Cond.instanceMethod yX0_leastValue, Cond.selects RX0 yX0_leastValue yX0_leastValue, Cond.code yX0_leastValue cX0_leastValue 4 (some .int), Cond.methodLink RX5 186 yX2_placeToAsk, Cond.instanceMethod yX2_placeToAsk, Cond.selects RX2 yX2_placeToAsk yX2_placeToAsk, Cond.code yX2_placeToAsk cX2_placeToAsk 7 (some .int), Cond.methodLink RX2 18 yX2_startFrom, Cond.instanceMethod yX2_startFrom, Cond.selects RX2 yX2_startFrom yX2_startFrom, Cond.code yX2_startFrom cX2_startFrom 4 none, Cond.methodLink RX2 36 yX0_hasPlace, Cond.methodLink RX2 40 yX0_isWorked, Cond.methodLink RX2 43 yX0_sureValue, Cond.methodLink RX2 47 yX0_sizeOf, Cond.instanceMethod yX0_sizeOf, Cond.selects RX0 yX0_sizeOf yX0_sizeOf, Cond.code yX0_sizeOf cX0_sizeOf 2 (some .int), Cond.methodLink RX2 26 yX0_questions, Cond.methodLink RX2 32 yX2_fewestBy, Cond.instanceMethod yX2_fewestBy, Cond.selects RX2 yX2_fewestBy yX2_fewestBy]
def wsL_law_r28 : List Cond := [Cond.code yX2_fewestBy cX2_fewestBy 9 (some .int), Cond.methodLink RX2 71 Lib.Math.max.name, Cond.methodLink RX2 55 Lib.Math.min.name, Cond.methodLink RX2 61 yX0_setOf, Cond.methodLink RX2 64 yX0_put, Cond.methodLink RX2 68 yX0_firstBrokenBar, Cond.methodLink RX2 22 yX2_fewest, Cond.instanceMethod yX2_fewest, Cond.selects RX2 yX2_fewest yX2_fewest, Cond.code yX2_fewest cX2_fewest 8 (some .int), Cond.methodLink RX2 50 yJ6_bitCount_0f7a4, Cond.static yJ6_bitCount_0f7a4, Cond.initialized RJ6, Cond.code yJ6_bitCount_0f7a4 cJ6_bitCount_0f7a4 1 (some .int), Cond.constant RJ6 265 (1431655765), Cond.constant RJ6 266 (858993459), Cond.constant RJ6 267 (252645135), Cond.methodLink RL 74 yX6_act, Cond.instanceMethod yX6_act, Cond.selects RX6 yX6_act yX6_act, Cond.code yX6_act cX6_act 7 (some .int), Cond.methodLink RX6 230 yX6_isWanted, Cond.instanceMethod yX6_isWanted, Cond.selects RX6 yX6_isWanted yX6_isWanted]
def wsL_law_r29 : List Cond := [Cond.code yX6_isWanted cX6_isWanted 6 (some .boolean), Cond.methodLink RX6 236 yX6_forget, Cond.instanceMethod yX6_forget, Cond.selects RX6 yX6_forget yX6_forget, Cond.code yX6_forget cX6_forget 2 none, Cond.methodLink RX6 233 yX6_worstBy, Cond.instanceMethod yX6_worstBy, Cond.selects RX6 yX6_worstBy yX6_worstBy, Cond.code yX6_worstBy cX6_worstBy 8 (some .int), Cond.methodLink RX6 224 yX6_worstOf, Cond.instanceMethod yX6_worstOf, Cond.selects RX6 yX6_worstOf yX6_worstOf, Cond.code yX6_worstOf cX6_worstOf 7 (some .int), Cond.methodLink RX6 227 yX6_state, Cond.instanceMethod yX6_state, Cond.selects RX6 yX6_state yX6_state, Cond.code yX6_state cX6_state 5 (some .int), Cond.methodLink RL 75 yX5_worst, Cond.instanceMethod yX5_worst, Cond.selects RX5 yX5_worst yX5_worst, Cond.code yX5_worst cX5_worst 2 (some .int), Cond.methodLink RX5 189 yX2_fewestQuestions, Cond.instanceMethod yX2_fewestQuestions, Cond.selects RX2 yX2_fewestQuestions yX2_fewestQuestions]
def wsL_law_r30 : List Cond := [Cond.code yX2_fewestQuestions cX2_fewestQuestions 2 (some .int), Cond.methodLink RL 78 yX6_worst, Cond.instanceMethod yX6_worst, Cond.selects RX6 yX6_worst yX6_worst, Cond.code yX6_worst cX6_worst 1 (some .int), Cond.methodLink RL 79 yX5_about, Cond.instanceMethod yX5_about, Cond.selects RX5 yX5_about yX5_about, Cond.code yX5_about cX5_about 5 (some .int), Cond.methodLink RX5 195 yX0_sureValue, Cond.methodLink RX5 198 yX5_asNumber, Cond.static yX5_asNumber, Cond.code yX5_asNumber cX5_asNumber 1 (some .int), Cond.methodLink RX5 202 yX0_isWanted, Cond.methodLink RX5 205 yX0_kindOf, Cond.instanceMethod yX0_kindOf, Cond.selects RX0 yX0_kindOf yX0_kindOf, Cond.code yX0_kindOf cX0_kindOf 2 (some .int), Cond.methodLink RX5 208 yX0_sizeOf, Cond.methodLink RL 82 yX6_about, Cond.instanceMethod yX6_about, Cond.selects RX6 yX6_about yX6_about, Cond.code yX6_about cX6_about 6 (some .int), Cond.methodLink RL 83 yX5_said]
def wsL_law_r31 : List Cond := [Cond.instanceMethod yX5_said, Cond.selects RX5 yX5_said yX5_said, Cond.code yX5_said cX5_said 5 (some .int), Cond.methodLink RX5 211 yX0_leastWord, Cond.instanceMethod yX0_leastWord, Cond.selects RX0 yX0_leastWord yX0_leastWord, Cond.code yX0_leastWord cX0_leastWord 4 (some .int), Cond.methodLink RL 86 yX6_said, Cond.instanceMethod yX6_said, Cond.selects RX6 yX6_said yX6_said, Cond.code yX6_said cX6_said 5 (some .int), Cond.methodLink RL 87 yX5_heard, Cond.instanceMethod yX5_heard, Cond.selects RX5 yX5_heard yX5_heard, Cond.code yX5_heard cX5_heard 2 (some .int), Cond.methodLink RX5 214 yX3_mostPassed, Cond.instanceMethod yX3_mostPassed, Cond.selects RX3 yX3_mostPassed yX3_mostPassed, Cond.code yX3_mostPassed cX3_mostPassed 1 (some .int), Cond.methodLink RX5 217 yX3_leastReadings, Cond.instanceMethod yX3_leastReadings, Cond.selects RX3 yX3_leastReadings yX3_leastReadings, Cond.code yX3_leastReadings cX3_leastReadings 1 (some .int), Cond.methodLink RL 90 yX6_heard]
def wsL_law_r32 : List Cond := [Cond.instanceMethod yX6_heard, Cond.selects RX6 yX6_heard yX6_heard, Cond.code yX6_heard cX6_heard 2 (some .int), Cond.methodLink RL 91 yX5_count, Cond.instanceMethod yX5_count, Cond.selects RX5 yX5_count yX5_count, Cond.code yX5_count cX5_count 2 (some .int), Cond.methodLink RX5 220 yX4_itemCount, Cond.instanceMethod yX4_itemCount, Cond.selects RX4 yX4_itemCount yX4_itemCount, Cond.code yX4_itemCount cX4_itemCount 1 (some .int), Cond.methodLink RX5 223 yX4_rowCount, Cond.methodLink RL 94 yX6_count, Cond.instanceMethod yX6_count, Cond.selects RX6 yX6_count yX6_count, Cond.code yX6_count cX6_count 2 (some .int)]
def wsL_law : List Cond := (wsL_law_r1 ++ (wsL_law_r2 ++ (wsL_law_r3 ++ (wsL_law_r4 ++ (wsL_law_r5 ++ (wsL_law_r6 ++ (wsL_law_r7 ++ (wsL_law_r8 ++ (wsL_law_r9 ++ (wsL_law_r10 ++ (wsL_law_r11 ++ (wsL_law_r12 ++ (wsL_law_r13 ++ (wsL_law_r14 ++ (wsL_law_r15 ++ (wsL_law_r16 ++ (wsL_law_r17 ++ (wsL_law_r18 ++ (wsL_law_r19 ++ (wsL_law_r20 ++ (wsL_law_r21 ++ (wsL_law_r22 ++ (wsL_law_r23 ++ (wsL_law_r24 ++ (wsL_law_r25 ++ (wsL_law_r26 ++ (wsL_law_r27 ++ (wsL_law_r28 ++ (wsL_law_r29 ++ (wsL_law_r30 ++ (wsL_law_r31 ++ wsL_law_r32))))))))))))))))))))))))))))))) ++ wsX50 ++ wsX60 ++ wsX40 ++ wsX30 ++ wsX20 ++ wsX10 ++ wsX00 ++ ([] : List Cond)
theorem inlX0 : ∀ w ∈ wsX00, w ∈ wsL_law := fun _ h => List.mem_append_left _ (List.mem_append_right _ h)
theorem inlX1 : ∀ w ∈ wsX10, w ∈ wsL_law := fun _ h => List.mem_append_left _ (List.mem_append_left _ (List.mem_append_right _ h))
theorem inlX2 : ∀ w ∈ wsX20, w ∈ wsL_law := fun _ h => List.mem_append_left _ (List.mem_append_left _ (List.mem_append_left _ (List.mem_append_right _ h)))
theorem inlX3 : ∀ w ∈ wsX30, w ∈ wsL_law := fun _ h => List.mem_append_left _ (List.mem_append_left _ (List.mem_append_left _ (List.mem_append_left _ (List.mem_append_right _ h))))
theorem inlX4 : ∀ w ∈ wsX40, w ∈ wsL_law := fun _ h => List.mem_append_left _ (List.mem_append_left _ (List.mem_append_left _ (List.mem_append_left _ (List.mem_append_left _ (List.mem_append_right _ h)))))
theorem inlX5 : ∀ w ∈ wsX50, w ∈ wsL_law := fun _ h => List.mem_append_left _ (List.mem_append_left _ (List.mem_append_left _ (List.mem_append_left _ (List.mem_append_left _ (List.mem_append_left _ (List.mem_append_left _ (List.mem_append_right _ h)))))))
theorem inlX6 : ∀ w ∈ wsX60, w ∈ wsL_law := fun _ h => List.mem_append_left _ (List.mem_append_left _ (List.mem_append_left _ (List.mem_append_left _ (List.mem_append_left _ (List.mem_append_left _ (List.mem_append_right _ h))))))
abbrev vwCl : List vw_C := [(RX0, TX0, 15), (RX1, TX1, 4), (RX2, TX2, 2), (RX3, TX3, 8), (RX4, TX4, 8), (RX5, TX5, 14), (RX6, TX6, 45)]
theorem wg_r1 : wsL_law_r1.all goodWord = true := by decide +kernel
theorem wg_r2 : wsL_law_r2.all goodWord = true := by decide +kernel
theorem wg_r3 : wsL_law_r3.all goodWord = true := by decide +kernel
theorem wg_r4 : wsL_law_r4.all goodWord = true := by decide +kernel
theorem wg_r5 : wsL_law_r5.all goodWord = true := by decide +kernel
theorem wg_r6 : wsL_law_r6.all goodWord = true := by decide +kernel
theorem wg_r7 : wsL_law_r7.all goodWord = true := by decide +kernel
theorem wg_r8 : wsL_law_r8.all goodWord = true := by decide +kernel
theorem wg_r9 : wsL_law_r9.all goodWord = true := by decide +kernel
theorem wg_r10 : wsL_law_r10.all goodWord = true := by decide +kernel
theorem wg_r11 : wsL_law_r11.all goodWord = true := by decide +kernel
theorem wg_r12 : wsL_law_r12.all goodWord = true := by decide +kernel
theorem wg_r13 : wsL_law_r13.all goodWord = true := by decide +kernel
theorem wg_r14 : wsL_law_r14.all goodWord = true := by decide +kernel
theorem wg_r15 : wsL_law_r15.all goodWord = true := by decide +kernel
theorem wg_r16 : wsL_law_r16.all goodWord = true := by decide +kernel
theorem wg_r17 : wsL_law_r17.all goodWord = true := by decide +kernel
theorem wg_r18 : wsL_law_r18.all goodWord = true := by decide +kernel
theorem wg_r19 : wsL_law_r19.all goodWord = true := by decide +kernel
theorem wg_r20 : wsL_law_r20.all goodWord = true := by decide +kernel
theorem wg_r21 : wsL_law_r21.all goodWord = true := by decide +kernel
theorem wg_r22 : wsL_law_r22.all goodWord = true := by decide +kernel
theorem wg_r23 : wsL_law_r23.all goodWord = true := by decide +kernel
theorem wg_r24 : wsL_law_r24.all goodWord = true := by decide +kernel
theorem wg_r25 : wsL_law_r25.all goodWord = true := by decide +kernel
theorem wg_r26 : wsL_law_r26.all goodWord = true := by decide +kernel
theorem wg_r27 : wsL_law_r27.all goodWord = true := by decide +kernel
theorem wg_r28 : wsL_law_r28.all goodWord = true := by decide +kernel
theorem wg_r29 : wsL_law_r29.all goodWord = true := by decide +kernel
theorem wg_r30 : wsL_law_r30.all goodWord = true := by decide +kernel
theorem wg_r31 : wsL_law_r31.all goodWord = true := by decide +kernel
theorem wg_r32 : wsL_law_r32.all goodWord = true := by decide +kernel
theorem wi_r1 : ∀ w ∈ wsL_law_r1, w ∈ wsL_law := fun w h => List.mem_append_left _ (List.mem_append_left _ (List.mem_append_left _ (List.mem_append_left _ (List.mem_append_left _ (List.mem_append_left _ (List.mem_append_left _ (List.mem_append_left _ (List.mem_append_left _ h))))))))
theorem wi_r2 : ∀ w ∈ wsL_law_r2, w ∈ wsL_law := fun w h => List.mem_append_left _ (List.mem_append_left _ (List.mem_append_left _ (List.mem_append_left _ (List.mem_append_left _ (List.mem_append_left _ (List.mem_append_left _ (List.mem_append_left _ (List.mem_append_right _ (List.mem_append_left _ h)))))))))
theorem wi_r3 : ∀ w ∈ wsL_law_r3, w ∈ wsL_law := fun w h => List.mem_append_left _ (List.mem_append_left _ (List.mem_append_left _ (List.mem_append_left _ (List.mem_append_left _ (List.mem_append_left _ (List.mem_append_left _ (List.mem_append_left _ (List.mem_append_right _ (List.mem_append_right _ (List.mem_append_left _ h))))))))))
theorem wi_r4 : ∀ w ∈ wsL_law_r4, w ∈ wsL_law := fun w h => List.mem_append_left _ (List.mem_append_left _ (List.mem_append_left _ (List.mem_append_left _ (List.mem_append_left _ (List.mem_append_left _ (List.mem_append_left _ (List.mem_append_left _ (List.mem_append_right _ (List.mem_append_right _ (List.mem_append_right _ (List.mem_append_left _ h)))))))))))
theorem wi_r5 : ∀ w ∈ wsL_law_r5, w ∈ wsL_law := fun w h => List.mem_append_left _ (List.mem_append_left _ (List.mem_append_left _ (List.mem_append_left _ (List.mem_append_left _ (List.mem_append_left _ (List.mem_append_left _ (List.mem_append_left _ (List.mem_append_right _ (List.mem_append_right _ (List.mem_append_right _ (List.mem_append_right _ (List.mem_append_left _ h))))))))))))
theorem wi_r6 : ∀ w ∈ wsL_law_r6, w ∈ wsL_law := fun w h => List.mem_append_left _ (List.mem_append_left _ (List.mem_append_left _ (List.mem_append_left _ (List.mem_append_left _ (List.mem_append_left _ (List.mem_append_left _ (List.mem_append_left _ (List.mem_append_right _ (List.mem_append_right _ (List.mem_append_right _ (List.mem_append_right _ (List.mem_append_right _ (List.mem_append_left _ h)))))))))))))
theorem wi_r7 : ∀ w ∈ wsL_law_r7, w ∈ wsL_law := fun w h => List.mem_append_left _ (List.mem_append_left _ (List.mem_append_left _ (List.mem_append_left _ (List.mem_append_left _ (List.mem_append_left _ (List.mem_append_left _ (List.mem_append_left _ (List.mem_append_right _ (List.mem_append_right _ (List.mem_append_right _ (List.mem_append_right _ (List.mem_append_right _ (List.mem_append_right _ (List.mem_append_left _ h))))))))))))))
theorem wi_r8 : ∀ w ∈ wsL_law_r8, w ∈ wsL_law := fun w h => List.mem_append_left _ (List.mem_append_left _ (List.mem_append_left _ (List.mem_append_left _ (List.mem_append_left _ (List.mem_append_left _ (List.mem_append_left _ (List.mem_append_left _ (List.mem_append_right _ (List.mem_append_right _ (List.mem_append_right _ (List.mem_append_right _ (List.mem_append_right _ (List.mem_append_right _ (List.mem_append_right _ (List.mem_append_left _ h)))))))))))))))
theorem wi_r9 : ∀ w ∈ wsL_law_r9, w ∈ wsL_law := fun w h => List.mem_append_left _ (List.mem_append_left _ (List.mem_append_left _ (List.mem_append_left _ (List.mem_append_left _ (List.mem_append_left _ (List.mem_append_left _ (List.mem_append_left _ (List.mem_append_right _ (List.mem_append_right _ (List.mem_append_right _ (List.mem_append_right _ (List.mem_append_right _ (List.mem_append_right _ (List.mem_append_right _ (List.mem_append_right _ (List.mem_append_left _ h))))))))))))))))
theorem wi_r10 : ∀ w ∈ wsL_law_r10, w ∈ wsL_law := fun w h => List.mem_append_left _ (List.mem_append_left _ (List.mem_append_left _ (List.mem_append_left _ (List.mem_append_left _ (List.mem_append_left _ (List.mem_append_left _ (List.mem_append_left _ (List.mem_append_right _ (List.mem_append_right _ (List.mem_append_right _ (List.mem_append_right _ (List.mem_append_right _ (List.mem_append_right _ (List.mem_append_right _ (List.mem_append_right _ (List.mem_append_right _ (List.mem_append_left _ h)))))))))))))))))
theorem wi_r11 : ∀ w ∈ wsL_law_r11, w ∈ wsL_law := fun w h => List.mem_append_left _ (List.mem_append_left _ (List.mem_append_left _ (List.mem_append_left _ (List.mem_append_left _ (List.mem_append_left _ (List.mem_append_left _ (List.mem_append_left _ (List.mem_append_right _ (List.mem_append_right _ (List.mem_append_right _ (List.mem_append_right _ (List.mem_append_right _ (List.mem_append_right _ (List.mem_append_right _ (List.mem_append_right _ (List.mem_append_right _ (List.mem_append_right _ (List.mem_append_left _ h))))))))))))))))))
theorem wi_r12 : ∀ w ∈ wsL_law_r12, w ∈ wsL_law := fun w h => List.mem_append_left _ (List.mem_append_left _ (List.mem_append_left _ (List.mem_append_left _ (List.mem_append_left _ (List.mem_append_left _ (List.mem_append_left _ (List.mem_append_left _ (List.mem_append_right _ (List.mem_append_right _ (List.mem_append_right _ (List.mem_append_right _ (List.mem_append_right _ (List.mem_append_right _ (List.mem_append_right _ (List.mem_append_right _ (List.mem_append_right _ (List.mem_append_right _ (List.mem_append_right _ (List.mem_append_left _ h)))))))))))))))))))
theorem wi_r13 : ∀ w ∈ wsL_law_r13, w ∈ wsL_law := fun w h => List.mem_append_left _ (List.mem_append_left _ (List.mem_append_left _ (List.mem_append_left _ (List.mem_append_left _ (List.mem_append_left _ (List.mem_append_left _ (List.mem_append_left _ (List.mem_append_right _ (List.mem_append_right _ (List.mem_append_right _ (List.mem_append_right _ (List.mem_append_right _ (List.mem_append_right _ (List.mem_append_right _ (List.mem_append_right _ (List.mem_append_right _ (List.mem_append_right _ (List.mem_append_right _ (List.mem_append_right _ (List.mem_append_left _ h))))))))))))))))))))
theorem wi_r14 : ∀ w ∈ wsL_law_r14, w ∈ wsL_law := fun w h => List.mem_append_left _ (List.mem_append_left _ (List.mem_append_left _ (List.mem_append_left _ (List.mem_append_left _ (List.mem_append_left _ (List.mem_append_left _ (List.mem_append_left _ (List.mem_append_right _ (List.mem_append_right _ (List.mem_append_right _ (List.mem_append_right _ (List.mem_append_right _ (List.mem_append_right _ (List.mem_append_right _ (List.mem_append_right _ (List.mem_append_right _ (List.mem_append_right _ (List.mem_append_right _ (List.mem_append_right _ (List.mem_append_right _ (List.mem_append_left _ h)))))))))))))))))))))
theorem wi_r15 : ∀ w ∈ wsL_law_r15, w ∈ wsL_law := fun w h => List.mem_append_left _ (List.mem_append_left _ (List.mem_append_left _ (List.mem_append_left _ (List.mem_append_left _ (List.mem_append_left _ (List.mem_append_left _ (List.mem_append_left _ (List.mem_append_right _ (List.mem_append_right _ (List.mem_append_right _ (List.mem_append_right _ (List.mem_append_right _ (List.mem_append_right _ (List.mem_append_right _ (List.mem_append_right _ (List.mem_append_right _ (List.mem_append_right _ (List.mem_append_right _ (List.mem_append_right _ (List.mem_append_right _ (List.mem_append_right _ (List.mem_append_left _ h))))))))))))))))))))))
theorem wi_r16 : ∀ w ∈ wsL_law_r16, w ∈ wsL_law := fun w h => List.mem_append_left _ (List.mem_append_left _ (List.mem_append_left _ (List.mem_append_left _ (List.mem_append_left _ (List.mem_append_left _ (List.mem_append_left _ (List.mem_append_left _ (List.mem_append_right _ (List.mem_append_right _ (List.mem_append_right _ (List.mem_append_right _ (List.mem_append_right _ (List.mem_append_right _ (List.mem_append_right _ (List.mem_append_right _ (List.mem_append_right _ (List.mem_append_right _ (List.mem_append_right _ (List.mem_append_right _ (List.mem_append_right _ (List.mem_append_right _ (List.mem_append_right _ (List.mem_append_left _ h)))))))))))))))))))))))
theorem wi_r17 : ∀ w ∈ wsL_law_r17, w ∈ wsL_law := fun w h => List.mem_append_left _ (List.mem_append_left _ (List.mem_append_left _ (List.mem_append_left _ (List.mem_append_left _ (List.mem_append_left _ (List.mem_append_left _ (List.mem_append_left _ (List.mem_append_right _ (List.mem_append_right _ (List.mem_append_right _ (List.mem_append_right _ (List.mem_append_right _ (List.mem_append_right _ (List.mem_append_right _ (List.mem_append_right _ (List.mem_append_right _ (List.mem_append_right _ (List.mem_append_right _ (List.mem_append_right _ (List.mem_append_right _ (List.mem_append_right _ (List.mem_append_right _ (List.mem_append_right _ (List.mem_append_left _ h))))))))))))))))))))))))
theorem wi_r18 : ∀ w ∈ wsL_law_r18, w ∈ wsL_law := fun w h => List.mem_append_left _ (List.mem_append_left _ (List.mem_append_left _ (List.mem_append_left _ (List.mem_append_left _ (List.mem_append_left _ (List.mem_append_left _ (List.mem_append_left _ (List.mem_append_right _ (List.mem_append_right _ (List.mem_append_right _ (List.mem_append_right _ (List.mem_append_right _ (List.mem_append_right _ (List.mem_append_right _ (List.mem_append_right _ (List.mem_append_right _ (List.mem_append_right _ (List.mem_append_right _ (List.mem_append_right _ (List.mem_append_right _ (List.mem_append_right _ (List.mem_append_right _ (List.mem_append_right _ (List.mem_append_right _ (List.mem_append_left _ h)))))))))))))))))))))))))
theorem wi_r19 : ∀ w ∈ wsL_law_r19, w ∈ wsL_law := fun w h => List.mem_append_left _ (List.mem_append_left _ (List.mem_append_left _ (List.mem_append_left _ (List.mem_append_left _ (List.mem_append_left _ (List.mem_append_left _ (List.mem_append_left _ (List.mem_append_right _ (List.mem_append_right _ (List.mem_append_right _ (List.mem_append_right _ (List.mem_append_right _ (List.mem_append_right _ (List.mem_append_right _ (List.mem_append_right _ (List.mem_append_right _ (List.mem_append_right _ (List.mem_append_right _ (List.mem_append_right _ (List.mem_append_right _ (List.mem_append_right _ (List.mem_append_right _ (List.mem_append_right _ (List.mem_append_right _ (List.mem_append_right _ (List.mem_append_left _ h))))))))))))))))))))))))))
theorem wi_r20 : ∀ w ∈ wsL_law_r20, w ∈ wsL_law := fun w h => List.mem_append_left _ (List.mem_append_left _ (List.mem_append_left _ (List.mem_append_left _ (List.mem_append_left _ (List.mem_append_left _ (List.mem_append_left _ (List.mem_append_left _ (List.mem_append_right _ (List.mem_append_right _ (List.mem_append_right _ (List.mem_append_right _ (List.mem_append_right _ (List.mem_append_right _ (List.mem_append_right _ (List.mem_append_right _ (List.mem_append_right _ (List.mem_append_right _ (List.mem_append_right _ (List.mem_append_right _ (List.mem_append_right _ (List.mem_append_right _ (List.mem_append_right _ (List.mem_append_right _ (List.mem_append_right _ (List.mem_append_right _ (List.mem_append_right _ (List.mem_append_left _ h)))))))))))))))))))))))))))
theorem wi_r21 : ∀ w ∈ wsL_law_r21, w ∈ wsL_law := fun w h => List.mem_append_left _ (List.mem_append_left _ (List.mem_append_left _ (List.mem_append_left _ (List.mem_append_left _ (List.mem_append_left _ (List.mem_append_left _ (List.mem_append_left _ (List.mem_append_right _ (List.mem_append_right _ (List.mem_append_right _ (List.mem_append_right _ (List.mem_append_right _ (List.mem_append_right _ (List.mem_append_right _ (List.mem_append_right _ (List.mem_append_right _ (List.mem_append_right _ (List.mem_append_right _ (List.mem_append_right _ (List.mem_append_right _ (List.mem_append_right _ (List.mem_append_right _ (List.mem_append_right _ (List.mem_append_right _ (List.mem_append_right _ (List.mem_append_right _ (List.mem_append_right _ (List.mem_append_left _ h))))))))))))))))))))))))))))
theorem wi_r22 : ∀ w ∈ wsL_law_r22, w ∈ wsL_law := fun w h => List.mem_append_left _ (List.mem_append_left _ (List.mem_append_left _ (List.mem_append_left _ (List.mem_append_left _ (List.mem_append_left _ (List.mem_append_left _ (List.mem_append_left _ (List.mem_append_right _ (List.mem_append_right _ (List.mem_append_right _ (List.mem_append_right _ (List.mem_append_right _ (List.mem_append_right _ (List.mem_append_right _ (List.mem_append_right _ (List.mem_append_right _ (List.mem_append_right _ (List.mem_append_right _ (List.mem_append_right _ (List.mem_append_right _ (List.mem_append_right _ (List.mem_append_right _ (List.mem_append_right _ (List.mem_append_right _ (List.mem_append_right _ (List.mem_append_right _ (List.mem_append_right _ (List.mem_append_right _ (List.mem_append_left _ h)))))))))))))))))))))))))))))
theorem wi_r23 : ∀ w ∈ wsL_law_r23, w ∈ wsL_law := fun w h => List.mem_append_left _ (List.mem_append_left _ (List.mem_append_left _ (List.mem_append_left _ (List.mem_append_left _ (List.mem_append_left _ (List.mem_append_left _ (List.mem_append_left _ (List.mem_append_right _ (List.mem_append_right _ (List.mem_append_right _ (List.mem_append_right _ (List.mem_append_right _ (List.mem_append_right _ (List.mem_append_right _ (List.mem_append_right _ (List.mem_append_right _ (List.mem_append_right _ (List.mem_append_right _ (List.mem_append_right _ (List.mem_append_right _ (List.mem_append_right _ (List.mem_append_right _ (List.mem_append_right _ (List.mem_append_right _ (List.mem_append_right _ (List.mem_append_right _ (List.mem_append_right _ (List.mem_append_right _ (List.mem_append_right _ (List.mem_append_left _ h))))))))))))))))))))))))))))))
theorem wi_r24 : ∀ w ∈ wsL_law_r24, w ∈ wsL_law := fun w h => List.mem_append_left _ (List.mem_append_left _ (List.mem_append_left _ (List.mem_append_left _ (List.mem_append_left _ (List.mem_append_left _ (List.mem_append_left _ (List.mem_append_left _ (List.mem_append_right _ (List.mem_append_right _ (List.mem_append_right _ (List.mem_append_right _ (List.mem_append_right _ (List.mem_append_right _ (List.mem_append_right _ (List.mem_append_right _ (List.mem_append_right _ (List.mem_append_right _ (List.mem_append_right _ (List.mem_append_right _ (List.mem_append_right _ (List.mem_append_right _ (List.mem_append_right _ (List.mem_append_right _ (List.mem_append_right _ (List.mem_append_right _ (List.mem_append_right _ (List.mem_append_right _ (List.mem_append_right _ (List.mem_append_right _ (List.mem_append_right _ (List.mem_append_left _ h)))))))))))))))))))))))))))))))
theorem wi_r25 : ∀ w ∈ wsL_law_r25, w ∈ wsL_law := fun w h => List.mem_append_left _ (List.mem_append_left _ (List.mem_append_left _ (List.mem_append_left _ (List.mem_append_left _ (List.mem_append_left _ (List.mem_append_left _ (List.mem_append_left _ (List.mem_append_right _ (List.mem_append_right _ (List.mem_append_right _ (List.mem_append_right _ (List.mem_append_right _ (List.mem_append_right _ (List.mem_append_right _ (List.mem_append_right _ (List.mem_append_right _ (List.mem_append_right _ (List.mem_append_right _ (List.mem_append_right _ (List.mem_append_right _ (List.mem_append_right _ (List.mem_append_right _ (List.mem_append_right _ (List.mem_append_right _ (List.mem_append_right _ (List.mem_append_right _ (List.mem_append_right _ (List.mem_append_right _ (List.mem_append_right _ (List.mem_append_right _ (List.mem_append_right _ (List.mem_append_left _ h))))))))))))))))))))))))))))))))
theorem wi_r26 : ∀ w ∈ wsL_law_r26, w ∈ wsL_law := fun w h => List.mem_append_left _ (List.mem_append_left _ (List.mem_append_left _ (List.mem_append_left _ (List.mem_append_left _ (List.mem_append_left _ (List.mem_append_left _ (List.mem_append_left _ (List.mem_append_right _ (List.mem_append_right _ (List.mem_append_right _ (List.mem_append_right _ (List.mem_append_right _ (List.mem_append_right _ (List.mem_append_right _ (List.mem_append_right _ (List.mem_append_right _ (List.mem_append_right _ (List.mem_append_right _ (List.mem_append_right _ (List.mem_append_right _ (List.mem_append_right _ (List.mem_append_right _ (List.mem_append_right _ (List.mem_append_right _ (List.mem_append_right _ (List.mem_append_right _ (List.mem_append_right _ (List.mem_append_right _ (List.mem_append_right _ (List.mem_append_right _ (List.mem_append_right _ (List.mem_append_right _ (List.mem_append_left _ h)))))))))))))))))))))))))))))))))
theorem wi_r27 : ∀ w ∈ wsL_law_r27, w ∈ wsL_law := fun w h => List.mem_append_left _ (List.mem_append_left _ (List.mem_append_left _ (List.mem_append_left _ (List.mem_append_left _ (List.mem_append_left _ (List.mem_append_left _ (List.mem_append_left _ (List.mem_append_right _ (List.mem_append_right _ (List.mem_append_right _ (List.mem_append_right _ (List.mem_append_right _ (List.mem_append_right _ (List.mem_append_right _ (List.mem_append_right _ (List.mem_append_right _ (List.mem_append_right _ (List.mem_append_right _ (List.mem_append_right _ (List.mem_append_right _ (List.mem_append_right _ (List.mem_append_right _ (List.mem_append_right _ (List.mem_append_right _ (List.mem_append_right _ (List.mem_append_right _ (List.mem_append_right _ (List.mem_append_right _ (List.mem_append_right _ (List.mem_append_right _ (List.mem_append_right _ (List.mem_append_right _ (List.mem_append_right _ (List.mem_append_left _ h))))))))))))))))))))))))))))))))))
theorem wi_r28 : ∀ w ∈ wsL_law_r28, w ∈ wsL_law := fun w h => List.mem_append_left _ (List.mem_append_left _ (List.mem_append_left _ (List.mem_append_left _ (List.mem_append_left _ (List.mem_append_left _ (List.mem_append_left _ (List.mem_append_left _ (List.mem_append_right _ (List.mem_append_right _ (List.mem_append_right _ (List.mem_append_right _ (List.mem_append_right _ (List.mem_append_right _ (List.mem_append_right _ (List.mem_append_right _ (List.mem_append_right _ (List.mem_append_right _ (List.mem_append_right _ (List.mem_append_right _ (List.mem_append_right _ (List.mem_append_right _ (List.mem_append_right _ (List.mem_append_right _ (List.mem_append_right _ (List.mem_append_right _ (List.mem_append_right _ (List.mem_append_right _ (List.mem_append_right _ (List.mem_append_right _ (List.mem_append_right _ (List.mem_append_right _ (List.mem_append_right _ (List.mem_append_right _ (List.mem_append_right _ (List.mem_append_left _ h)))))))))))))))))))))))))))))))))))
theorem wi_r29 : ∀ w ∈ wsL_law_r29, w ∈ wsL_law := fun w h => List.mem_append_left _ (List.mem_append_left _ (List.mem_append_left _ (List.mem_append_left _ (List.mem_append_left _ (List.mem_append_left _ (List.mem_append_left _ (List.mem_append_left _ (List.mem_append_right _ (List.mem_append_right _ (List.mem_append_right _ (List.mem_append_right _ (List.mem_append_right _ (List.mem_append_right _ (List.mem_append_right _ (List.mem_append_right _ (List.mem_append_right _ (List.mem_append_right _ (List.mem_append_right _ (List.mem_append_right _ (List.mem_append_right _ (List.mem_append_right _ (List.mem_append_right _ (List.mem_append_right _ (List.mem_append_right _ (List.mem_append_right _ (List.mem_append_right _ (List.mem_append_right _ (List.mem_append_right _ (List.mem_append_right _ (List.mem_append_right _ (List.mem_append_right _ (List.mem_append_right _ (List.mem_append_right _ (List.mem_append_right _ (List.mem_append_right _ (List.mem_append_left _ h))))))))))))))))))))))))))))))))))))
theorem wi_r30 : ∀ w ∈ wsL_law_r30, w ∈ wsL_law := fun w h => List.mem_append_left _ (List.mem_append_left _ (List.mem_append_left _ (List.mem_append_left _ (List.mem_append_left _ (List.mem_append_left _ (List.mem_append_left _ (List.mem_append_left _ (List.mem_append_right _ (List.mem_append_right _ (List.mem_append_right _ (List.mem_append_right _ (List.mem_append_right _ (List.mem_append_right _ (List.mem_append_right _ (List.mem_append_right _ (List.mem_append_right _ (List.mem_append_right _ (List.mem_append_right _ (List.mem_append_right _ (List.mem_append_right _ (List.mem_append_right _ (List.mem_append_right _ (List.mem_append_right _ (List.mem_append_right _ (List.mem_append_right _ (List.mem_append_right _ (List.mem_append_right _ (List.mem_append_right _ (List.mem_append_right _ (List.mem_append_right _ (List.mem_append_right _ (List.mem_append_right _ (List.mem_append_right _ (List.mem_append_right _ (List.mem_append_right _ (List.mem_append_right _ (List.mem_append_left _ h)))))))))))))))))))))))))))))))))))))
theorem wi_r31 : ∀ w ∈ wsL_law_r31, w ∈ wsL_law := fun w h => List.mem_append_left _ (List.mem_append_left _ (List.mem_append_left _ (List.mem_append_left _ (List.mem_append_left _ (List.mem_append_left _ (List.mem_append_left _ (List.mem_append_left _ (List.mem_append_right _ (List.mem_append_right _ (List.mem_append_right _ (List.mem_append_right _ (List.mem_append_right _ (List.mem_append_right _ (List.mem_append_right _ (List.mem_append_right _ (List.mem_append_right _ (List.mem_append_right _ (List.mem_append_right _ (List.mem_append_right _ (List.mem_append_right _ (List.mem_append_right _ (List.mem_append_right _ (List.mem_append_right _ (List.mem_append_right _ (List.mem_append_right _ (List.mem_append_right _ (List.mem_append_right _ (List.mem_append_right _ (List.mem_append_right _ (List.mem_append_right _ (List.mem_append_right _ (List.mem_append_right _ (List.mem_append_right _ (List.mem_append_right _ (List.mem_append_right _ (List.mem_append_right _ (List.mem_append_right _ (List.mem_append_left _ h))))))))))))))))))))))))))))))))))))))
theorem wi_r32 : ∀ w ∈ wsL_law_r32, w ∈ wsL_law := fun w h => List.mem_append_left _ (List.mem_append_left _ (List.mem_append_left _ (List.mem_append_left _ (List.mem_append_left _ (List.mem_append_left _ (List.mem_append_left _ (List.mem_append_left _ (List.mem_append_right _ (List.mem_append_right _ (List.mem_append_right _ (List.mem_append_right _ (List.mem_append_right _ (List.mem_append_right _ (List.mem_append_right _ (List.mem_append_right _ (List.mem_append_right _ (List.mem_append_right _ (List.mem_append_right _ (List.mem_append_right _ (List.mem_append_right _ (List.mem_append_right _ (List.mem_append_right _ (List.mem_append_right _ (List.mem_append_right _ (List.mem_append_right _ (List.mem_append_right _ (List.mem_append_right _ (List.mem_append_right _ (List.mem_append_right _ (List.mem_append_right _ (List.mem_append_right _ (List.mem_append_right _ (List.mem_append_right _ (List.mem_append_right _ (List.mem_append_right _ (List.mem_append_right _ (List.mem_append_right _ (List.mem_append_right _ (h)))))))))))))))))))))))))))))))))))))))
theorem wg_x0 : wsX00.all goodWord = true := by decide +kernel
theorem wg_x1 : wsX10.all goodWord = true := by decide +kernel
theorem wg_x2 : wsX20.all goodWord = true := by decide +kernel
theorem wg_x3 : wsX30.all goodWord = true := by decide +kernel
theorem wg_x4 : wsX40.all goodWord = true := by decide +kernel
theorem wg_x5 : wsX50.all goodWord = true := by decide +kernel
theorem wg_x6 : wsX60.all goodWord = true := by decide +kernel
theorem wg_law : ∀ w ∈ wsL_law, goodWord w = true := by
  intro w h
  unfold wsL_law at h
  simp only [List.mem_append] at h
  rcases h with (((((((((h)|h)|h)|h)|h)|h)|h)|h)|h)
  · rcases h with h|h|h|h|h|h|h|h|h|h|h|h|h|h|h|h|h|h|h|h|h|h|h|h|h|h|h|h|h|h|h|h
    · exact List.all_eq_true.mp wg_r1 w h
    · exact List.all_eq_true.mp wg_r2 w h
    · exact List.all_eq_true.mp wg_r3 w h
    · exact List.all_eq_true.mp wg_r4 w h
    · exact List.all_eq_true.mp wg_r5 w h
    · exact List.all_eq_true.mp wg_r6 w h
    · exact List.all_eq_true.mp wg_r7 w h
    · exact List.all_eq_true.mp wg_r8 w h
    · exact List.all_eq_true.mp wg_r9 w h
    · exact List.all_eq_true.mp wg_r10 w h
    · exact List.all_eq_true.mp wg_r11 w h
    · exact List.all_eq_true.mp wg_r12 w h
    · exact List.all_eq_true.mp wg_r13 w h
    · exact List.all_eq_true.mp wg_r14 w h
    · exact List.all_eq_true.mp wg_r15 w h
    · exact List.all_eq_true.mp wg_r16 w h
    · exact List.all_eq_true.mp wg_r17 w h
    · exact List.all_eq_true.mp wg_r18 w h
    · exact List.all_eq_true.mp wg_r19 w h
    · exact List.all_eq_true.mp wg_r20 w h
    · exact List.all_eq_true.mp wg_r21 w h
    · exact List.all_eq_true.mp wg_r22 w h
    · exact List.all_eq_true.mp wg_r23 w h
    · exact List.all_eq_true.mp wg_r24 w h
    · exact List.all_eq_true.mp wg_r25 w h
    · exact List.all_eq_true.mp wg_r26 w h
    · exact List.all_eq_true.mp wg_r27 w h
    · exact List.all_eq_true.mp wg_r28 w h
    · exact List.all_eq_true.mp wg_r29 w h
    · exact List.all_eq_true.mp wg_r30 w h
    · exact List.all_eq_true.mp wg_r31 w h
    · exact List.all_eq_true.mp wg_r32 w h
  · exact List.all_eq_true.mp wg_x5 w h
  · exact List.all_eq_true.mp wg_x6 w h
  · exact List.all_eq_true.mp wg_x4 w h
  · exact List.all_eq_true.mp wg_x3 w h
  · exact List.all_eq_true.mp wg_x2 w h
  · exact List.all_eq_true.mp wg_x1 w h
  · exact List.all_eq_true.mp wg_x0 w h
  · cases h
theorem wg_good {y : MethodName} {b : ByteArray} {n : Nat} {r : Option FieldType} (hc : Cond.code y b n r ∈ wsL_law) : GoodIn wsL_law (Cond.code y b n r :: wsL_law) := fun w h => (List.mem_cons.mp h).elim (fun e => by subst e; exact ⟨hc, good_of_word (wg_law _ hc)⟩) (fun h => ⟨h, good_of_word (wg_law w h)⟩)
end
section
theorem dX0_init_0 : decode cX0_init 0 = .ok (.aload_n 0, 1) := by decide +kernel
theorem dX0_init_1 : decode cX0_init 1 = .ok (.invokespecial 3, 3) := by decide +kernel
theorem dX0_init_4 : decode cX0_init 4 = .ok (.aload_n 0, 1) := by decide +kernel
theorem dX0_init_5 : decode cX0_init 5 = .ok (.iconst 0, 1) := by decide +kernel
theorem dX0_init_6 : decode cX0_init 6 = .ok (.putfield 9, 3) := by decide +kernel
theorem dX0_init_9 : decode cX0_init 9 = .ok (.aload_n 0, 1) := by decide +kernel
theorem dX0_init_10 : decode cX0_init 10 = .ok (.iconst 5, 1) := by decide +kernel
theorem dX0_init_11 : decode cX0_init 11 = .ok (.newarray .int, 2) := by decide +kernel
theorem dX0_init_13 : decode cX0_init 13 = .ok (.putfield 15, 3) := by decide +kernel
theorem dX0_init_16 : decode cX0_init 16 = .ok (.aload_n 0, 1) := by decide +kernel
theorem dX0_init_17 : decode cX0_init 17 = .ok (.iconst 5, 1) := by decide +kernel
theorem dX0_init_18 : decode cX0_init 18 = .ok (.newarray .int, 2) := by decide +kernel
theorem dX0_init_20 : decode cX0_init 20 = .ok (.putfield 19, 3) := by decide +kernel
theorem dX0_init_23 : decode cX0_init 23 = .ok (.aload_n 0, 1) := by decide +kernel
theorem dX0_init_24 : decode cX0_init 24 = .ok (.iconst 5, 1) := by decide +kernel
theorem dX0_init_25 : decode cX0_init 25 = .ok (.newarray .int, 2) := by decide +kernel
theorem dX0_init_27 : decode cX0_init 27 = .ok (.putfield 22, 3) := by decide +kernel
theorem dX0_init_30 : decode cX0_init 30 = .ok (.aload_n 0, 1) := by decide +kernel
theorem dX0_init_31 : decode cX0_init 31 = .ok (.iconst 5, 1) := by decide +kernel
theorem dX0_init_32 : decode cX0_init 32 = .ok (.newarray .int, 2) := by decide +kernel
theorem dX0_init_34 : decode cX0_init 34 = .ok (.putfield 25, 3) := by decide +kernel
theorem dX0_init_37 : decode cX0_init 37 = .ok (.aload_n 0, 1) := by decide +kernel
theorem dX0_init_38 : decode cX0_init 38 = .ok (.iconst 5, 1) := by decide +kernel
theorem dX0_init_39 : decode cX0_init 39 = .ok (.newarray .int, 2) := by decide +kernel
theorem dX0_init_41 : decode cX0_init 41 = .ok (.putfield 28, 3) := by decide +kernel
theorem dX0_init_44 : decode cX0_init 44 = .ok (.aload_n 0, 1) := by decide +kernel
theorem dX0_init_45 : decode cX0_init 45 = .ok (.iconst 5, 1) := by decide +kernel
theorem dX0_init_46 : decode cX0_init 46 = .ok (.newarray .int, 2) := by decide +kernel
theorem dX0_init_48 : decode cX0_init 48 = .ok (.putfield 31, 3) := by decide +kernel
theorem dX0_init_51 : decode cX0_init 51 = .ok (.aload_n 0, 1) := by decide +kernel
theorem dX0_init_52 : decode cX0_init 52 = .ok (.iconst 0, 1) := by decide +kernel
theorem dX0_init_53 : decode cX0_init 53 = .ok (.putfield 34, 3) := by decide +kernel
theorem dX0_init_56 : decode cX0_init 56 = .ok (.aload_n 0, 1) := by decide +kernel
theorem dX0_init_57 : decode cX0_init 57 = .ok (.bipush 6, 2) := by decide +kernel
theorem dX0_init_59 : decode cX0_init 59 = .ok (.newarray .int, 2) := by decide +kernel
theorem dX0_init_61 : decode cX0_init 61 = .ok (.putfield 37, 3) := by decide +kernel
theorem dX0_init_64 : decode cX0_init 64 = .ok (.aload_n 0, 1) := by decide +kernel
theorem dX0_init_65 : decode cX0_init 65 = .ok (.bipush 6, 2) := by decide +kernel
theorem dX0_init_67 : decode cX0_init 67 = .ok (.newarray .int, 2) := by decide +kernel
theorem dX0_init_69 : decode cX0_init 69 = .ok (.putfield 40, 3) := by decide +kernel
theorem dX0_init_72 : decode cX0_init 72 = .ok (.aload_n 0, 1) := by decide +kernel
theorem dX0_init_73 : decode cX0_init 73 = .ok (.bipush 6, 2) := by decide +kernel
theorem dX0_init_75 : decode cX0_init 75 = .ok (.newarray .int, 2) := by decide +kernel
theorem dX0_init_77 : decode cX0_init 77 = .ok (.putfield 43, 3) := by decide +kernel
theorem dX0_init_80 : decode cX0_init 80 = .ok (.aload_n 0, 1) := by decide +kernel
theorem dX0_init_81 : decode cX0_init 81 = .ok (.bipush 6, 2) := by decide +kernel
theorem dX0_init_83 : decode cX0_init 83 = .ok (.newarray .int, 2) := by decide +kernel
theorem dX0_init_85 : decode cX0_init 85 = .ok (.putfield 46, 3) := by decide +kernel
theorem dX0_init_88 : decode cX0_init 88 = .ok (.aload_n 0, 1) := by decide +kernel
theorem dX0_init_89 : decode cX0_init 89 = .ok (.bipush 6, 2) := by decide +kernel
theorem dX0_init_91 : decode cX0_init 91 = .ok (.newarray .int, 2) := by decide +kernel
theorem dX0_init_93 : decode cX0_init 93 = .ok (.putfield 49, 3) := by decide +kernel
theorem dX0_init_96 : decode cX0_init 96 = .ok (.aload_n 0, 1) := by decide +kernel
theorem dX0_init_97 : decode cX0_init 97 = .ok (.bipush 64, 2) := by decide +kernel
theorem dX0_init_99 : decode cX0_init 99 = .ok (.newarray .int, 2) := by decide +kernel
theorem dX0_init_101 : decode cX0_init 101 = .ok (.putfield 52, 3) := by decide +kernel
theorem dX0_init_104 : decode cX0_init 104 = .ok (.aload_n 0, 1) := by decide +kernel
theorem dX0_init_105 : decode cX0_init 105 = .ok (.bipush 64, 2) := by decide +kernel
theorem dX0_init_107 : decode cX0_init 107 = .ok (.newarray .int, 2) := by decide +kernel
theorem dX0_init_109 : decode cX0_init 109 = .ok (.putfield 55, 3) := by decide +kernel
theorem dX0_init_112 : decode cX0_init 112 = .ok (.aload_n 0, 1) := by decide +kernel
theorem dX0_init_113 : decode cX0_init 113 = .ok (.getfield 31, 3) := by decide +kernel
theorem dX0_init_116 : decode cX0_init 116 = .ok (.iconst (-1), 1) := by decide +kernel
theorem dX0_init_117 : decode cX0_init 117 = .ok (.invokestatic 58, 3) := by decide +kernel
theorem dX0_init_120 : decode cX0_init 120 = .ok (.aload_n 0, 1) := by decide +kernel
theorem dX0_init_121 : decode cX0_init 121 = .ok (.getfield 52, 3) := by decide +kernel
theorem dX0_init_124 : decode cX0_init 124 = .ok (.iconst (-1), 1) := by decide +kernel
theorem dX0_init_125 : decode cX0_init 125 = .ok (.invokestatic 58, 3) := by decide +kernel
theorem dX0_init_128 : decode cX0_init 128 = .ok (.aload_n 0, 1) := by decide +kernel
theorem dX0_init_129 : decode cX0_init 129 = .ok (.getfield 55, 3) := by decide +kernel
theorem dX0_init_132 : decode cX0_init 132 = .ok (.iconst (-1), 1) := by decide +kernel
theorem dX0_init_133 : decode cX0_init 133 = .ok (.invokestatic 58, 3) := by decide +kernel
theorem dX0_init_136 : decode cX0_init 136 = .ok (.return_, 1) := by decide +kernel
theorem dX0_placeCount_0 : decode cX0_placeCount 0 = .ok (.aload_n 0, 1) := by decide +kernel
theorem dX0_placeCount_1 : decode cX0_placeCount 1 = .ok (.getfield 9, 3) := by decide +kernel
theorem dX0_placeCount_4 : decode cX0_placeCount 4 = .ok (.ireturn, 1) := by decide +kernel
theorem dX0_hasPlace_0 : decode cX0_hasPlace 0 = .ok (.iload_n 1, 1) := by decide +kernel
theorem dX0_hasPlace_1 : decode cX0_hasPlace 1 = .ok (.ifCond .lt 20, 3) := by decide +kernel
theorem dX0_hasPlace_4 : decode cX0_hasPlace 4 = .ok (.iload_n 1, 1) := by decide +kernel
theorem dX0_hasPlace_5 : decode cX0_hasPlace 5 = .ok (.aload_n 0, 1) := by decide +kernel
theorem dX0_hasPlace_6 : decode cX0_hasPlace 6 = .ok (.getfield 9, 3) := by decide +kernel
theorem dX0_hasPlace_9 : decode cX0_hasPlace 9 = .ok (.if_icmp .ge 12, 3) := by decide +kernel
theorem dX0_hasPlace_12 : decode cX0_hasPlace 12 = .ok (.iload_n 1, 1) := by decide +kernel
theorem dX0_hasPlace_13 : decode cX0_hasPlace 13 = .ok (.iconst 5, 1) := by decide +kernel
theorem dX0_hasPlace_14 : decode cX0_hasPlace 14 = .ok (.if_icmp .ge 7, 3) := by decide +kernel
theorem dX0_hasPlace_17 : decode cX0_hasPlace 17 = .ok (.iconst 1, 1) := by decide +kernel
theorem dX0_hasPlace_18 : decode cX0_hasPlace 18 = .ok (.goto 4, 3) := by decide +kernel
theorem dX0_hasPlace_21 : decode cX0_hasPlace 21 = .ok (.iconst 0, 1) := by decide +kernel
theorem dX0_hasPlace_22 : decode cX0_hasPlace 22 = .ok (.ireturn, 1) := by decide +kernel
theorem dX0_hasValue_0 : decode cX0_hasValue 0 = .ok (.aload_n 0, 1) := by decide +kernel
theorem dX0_hasValue_1 : decode cX0_hasValue 1 = .ok (.iload_n 1, 1) := by decide +kernel
theorem dX0_hasValue_2 : decode cX0_hasValue 2 = .ok (.invokevirtual 64, 3) := by decide +kernel
theorem dX0_hasValue_5 : decode cX0_hasValue 5 = .ok (.ifCond .eq 21, 3) := by decide +kernel
theorem dX0_hasValue_8 : decode cX0_hasValue 8 = .ok (.iload_n 2, 1) := by decide +kernel
theorem dX0_hasValue_9 : decode cX0_hasValue 9 = .ok (.ifCond .lt 17, 3) := by decide +kernel
theorem dX0_hasValue_12 : decode cX0_hasValue 12 = .ok (.iload_n 2, 1) := by decide +kernel
theorem dX0_hasValue_13 : decode cX0_hasValue 13 = .ok (.aload_n 0, 1) := by decide +kernel
theorem dX0_hasValue_14 : decode cX0_hasValue 14 = .ok (.getfield 19, 3) := by decide +kernel
theorem dX0_hasValue_17 : decode cX0_hasValue 17 = .ok (.iload_n 1, 1) := by decide +kernel
theorem dX0_hasValue_18 : decode cX0_hasValue 18 = .ok (.iaload, 1) := by decide +kernel
theorem dX0_hasValue_19 : decode cX0_hasValue 19 = .ok (.if_icmp .ge 7, 3) := by decide +kernel
theorem dX0_hasValue_22 : decode cX0_hasValue 22 = .ok (.iconst 1, 1) := by decide +kernel
theorem dX0_hasValue_23 : decode cX0_hasValue 23 = .ok (.goto 4, 3) := by decide +kernel
theorem dX0_hasValue_26 : decode cX0_hasValue 26 = .ok (.iconst 0, 1) := by decide +kernel
theorem dX0_hasValue_27 : decode cX0_hasValue 27 = .ok (.ireturn, 1) := by decide +kernel
theorem dX0_isWorked_0 : decode cX0_isWorked 0 = .ok (.aload_n 0, 1) := by decide +kernel
theorem dX0_isWorked_1 : decode cX0_isWorked 1 = .ok (.iload_n 1, 1) := by decide +kernel
theorem dX0_isWorked_2 : decode cX0_isWorked 2 = .ok (.invokevirtual 64, 3) := by decide +kernel
theorem dX0_isWorked_5 : decode cX0_isWorked 5 = .ok (.ifCond .eq 17, 3) := by decide +kernel
theorem dX0_isWorked_8 : decode cX0_isWorked 8 = .ok (.aload_n 0, 1) := by decide +kernel
theorem dX0_isWorked_9 : decode cX0_isWorked 9 = .ok (.getfield 15, 3) := by decide +kernel
theorem dX0_isWorked_12 : decode cX0_isWorked 12 = .ok (.iload_n 1, 1) := by decide +kernel
theorem dX0_isWorked_13 : decode cX0_isWorked 13 = .ok (.iaload, 1) := by decide +kernel
theorem dX0_isWorked_14 : decode cX0_isWorked 14 = .ok (.iconst 1, 1) := by decide +kernel
theorem dX0_isWorked_15 : decode cX0_isWorked 15 = .ok (.if_icmp .ne 7, 3) := by decide +kernel
theorem dX0_isWorked_18 : decode cX0_isWorked 18 = .ok (.iconst 1, 1) := by decide +kernel
theorem dX0_isWorked_19 : decode cX0_isWorked 19 = .ok (.goto 4, 3) := by decide +kernel
theorem dX0_isWorked_22 : decode cX0_isWorked 22 = .ok (.iconst 0, 1) := by decide +kernel
theorem dX0_isWorked_23 : decode cX0_isWorked 23 = .ok (.ireturn, 1) := by decide +kernel
theorem dX0_kindOf_0 : decode cX0_kindOf 0 = .ok (.aload_n 0, 1) := by decide +kernel
theorem dX0_kindOf_1 : decode cX0_kindOf 1 = .ok (.iload_n 1, 1) := by decide +kernel
theorem dX0_kindOf_2 : decode cX0_kindOf 2 = .ok (.invokevirtual 64, 3) := by decide +kernel
theorem dX0_kindOf_5 : decode cX0_kindOf 5 = .ok (.ifCond .eq 12, 3) := by decide +kernel
theorem dX0_kindOf_8 : decode cX0_kindOf 8 = .ok (.aload_n 0, 1) := by decide +kernel
theorem dX0_kindOf_9 : decode cX0_kindOf 9 = .ok (.getfield 15, 3) := by decide +kernel
theorem dX0_kindOf_12 : decode cX0_kindOf 12 = .ok (.iload_n 1, 1) := by decide +kernel
theorem dX0_kindOf_13 : decode cX0_kindOf 13 = .ok (.iaload, 1) := by decide +kernel
theorem dX0_kindOf_14 : decode cX0_kindOf 14 = .ok (.goto 4, 3) := by decide +kernel
theorem dX0_kindOf_17 : decode cX0_kindOf 17 = .ok (.iconst (-1), 1) := by decide +kernel
theorem dX0_kindOf_18 : decode cX0_kindOf 18 = .ok (.ireturn, 1) := by decide +kernel
theorem dX0_sizeOf_0 : decode cX0_sizeOf 0 = .ok (.aload_n 0, 1) := by decide +kernel
theorem dX0_sizeOf_1 : decode cX0_sizeOf 1 = .ok (.iload_n 1, 1) := by decide +kernel
theorem dX0_sizeOf_2 : decode cX0_sizeOf 2 = .ok (.invokevirtual 64, 3) := by decide +kernel
theorem dX0_sizeOf_5 : decode cX0_sizeOf 5 = .ok (.ifCond .eq 12, 3) := by decide +kernel
theorem dX0_sizeOf_8 : decode cX0_sizeOf 8 = .ok (.aload_n 0, 1) := by decide +kernel
theorem dX0_sizeOf_9 : decode cX0_sizeOf 9 = .ok (.getfield 19, 3) := by decide +kernel
theorem dX0_sizeOf_12 : decode cX0_sizeOf 12 = .ok (.iload_n 1, 1) := by decide +kernel
theorem dX0_sizeOf_13 : decode cX0_sizeOf 13 = .ok (.iaload, 1) := by decide +kernel
theorem dX0_sizeOf_14 : decode cX0_sizeOf 14 = .ok (.goto 4, 3) := by decide +kernel
theorem dX0_sizeOf_17 : decode cX0_sizeOf 17 = .ok (.iconst 0, 1) := by decide +kernel
theorem dX0_sizeOf_18 : decode cX0_sizeOf 18 = .ok (.ireturn, 1) := by decide +kernel
theorem dX0_addPlace_0 : decode cX0_addPlace 0 = .ok (.aload_n 0, 1) := by decide +kernel
theorem dX0_addPlace_1 : decode cX0_addPlace 1 = .ok (.getfield 9, 3) := by decide +kernel
theorem dX0_addPlace_4 : decode cX0_addPlace 4 = .ok (.iconst 5, 1) := by decide +kernel
theorem dX0_addPlace_5 : decode cX0_addPlace 5 = .ok (.if_icmp .lt 6, 3) := by decide +kernel
theorem dX0_addPlace_8 : decode cX0_addPlace 8 = .ok (.bipush (-4), 2) := by decide +kernel
theorem dX0_addPlace_10 : decode cX0_addPlace 10 = .ok (.ireturn, 1) := by decide +kernel
theorem dX0_addPlace_11 : decode cX0_addPlace 11 = .ok (.aload_n 0, 1) := by decide +kernel
theorem dX0_addPlace_12 : decode cX0_addPlace 12 = .ok (.getfield 15, 3) := by decide +kernel
theorem dX0_addPlace_15 : decode cX0_addPlace 15 = .ok (.aload_n 0, 1) := by decide +kernel
theorem dX0_addPlace_16 : decode cX0_addPlace 16 = .ok (.getfield 9, 3) := by decide +kernel
theorem dX0_addPlace_19 : decode cX0_addPlace 19 = .ok (.iload_n 1, 1) := by decide +kernel
theorem dX0_addPlace_20 : decode cX0_addPlace 20 = .ok (.iastore, 1) := by decide +kernel
theorem dX0_addPlace_21 : decode cX0_addPlace 21 = .ok (.aload_n 0, 1) := by decide +kernel
theorem dX0_addPlace_22 : decode cX0_addPlace 22 = .ok (.getfield 19, 3) := by decide +kernel
theorem dX0_addPlace_25 : decode cX0_addPlace 25 = .ok (.aload_n 0, 1) := by decide +kernel
theorem dX0_addPlace_26 : decode cX0_addPlace 26 = .ok (.getfield 9, 3) := by decide +kernel
theorem dX0_addPlace_29 : decode cX0_addPlace 29 = .ok (.iload_n 2, 1) := by decide +kernel
theorem dX0_addPlace_30 : decode cX0_addPlace 30 = .ok (.iastore, 1) := by decide +kernel
theorem dX0_addPlace_31 : decode cX0_addPlace 31 = .ok (.aload_n 0, 1) := by decide +kernel
theorem dX0_addPlace_32 : decode cX0_addPlace 32 = .ok (.getfield 22, 3) := by decide +kernel
theorem dX0_addPlace_35 : decode cX0_addPlace 35 = .ok (.aload_n 0, 1) := by decide +kernel
theorem dX0_addPlace_36 : decode cX0_addPlace 36 = .ok (.getfield 9, 3) := by decide +kernel
theorem dX0_addPlace_39 : decode cX0_addPlace 39 = .ok (.iload_n 3, 1) := by decide +kernel
theorem dX0_addPlace_40 : decode cX0_addPlace 40 = .ok (.iastore, 1) := by decide +kernel
theorem dX0_addPlace_41 : decode cX0_addPlace 41 = .ok (.aload_n 0, 1) := by decide +kernel
theorem dX0_addPlace_42 : decode cX0_addPlace 42 = .ok (.getfield 25, 3) := by decide +kernel
theorem dX0_addPlace_45 : decode cX0_addPlace 45 = .ok (.aload_n 0, 1) := by decide +kernel
theorem dX0_addPlace_46 : decode cX0_addPlace 46 = .ok (.getfield 9, 3) := by decide +kernel
theorem dX0_addPlace_49 : decode cX0_addPlace 49 = .ok (.iload 4, 2) := by decide +kernel
theorem dX0_addPlace_51 : decode cX0_addPlace 51 = .ok (.iastore, 1) := by decide +kernel
theorem dX0_addPlace_52 : decode cX0_addPlace 52 = .ok (.aload_n 0, 1) := by decide +kernel
theorem dX0_addPlace_53 : decode cX0_addPlace 53 = .ok (.dup, 1) := by decide +kernel
theorem dX0_addPlace_54 : decode cX0_addPlace 54 = .ok (.getfield 9, 3) := by decide +kernel
theorem dX0_addPlace_57 : decode cX0_addPlace 57 = .ok (.iconst 1, 1) := by decide +kernel
theorem dX0_addPlace_58 : decode cX0_addPlace 58 = .ok (.iadd, 1) := by decide +kernel
theorem dX0_addPlace_59 : decode cX0_addPlace 59 = .ok (.putfield 9, 3) := by decide +kernel
theorem dX0_addPlace_62 : decode cX0_addPlace 62 = .ok (.aload_n 0, 1) := by decide +kernel
theorem dX0_addPlace_63 : decode cX0_addPlace 63 = .ok (.getfield 9, 3) := by decide +kernel
theorem dX0_addPlace_66 : decode cX0_addPlace 66 = .ok (.iconst 1, 1) := by decide +kernel
theorem dX0_addPlace_67 : decode cX0_addPlace 67 = .ok (.isub, 1) := by decide +kernel
theorem dX0_addPlace_68 : decode cX0_addPlace 68 = .ok (.ireturn, 1) := by decide +kernel
theorem dX0_addRule_0 : decode cX0_addRule 0 = .ok (.aload_n 0, 1) := by decide +kernel
theorem dX0_addRule_1 : decode cX0_addRule 1 = .ok (.getfield 34, 3) := by decide +kernel
theorem dX0_addRule_4 : decode cX0_addRule 4 = .ok (.bipush 6, 2) := by decide +kernel
theorem dX0_addRule_6 : decode cX0_addRule 6 = .ok (.if_icmp .lt 6, 3) := by decide +kernel
theorem dX0_addRule_9 : decode cX0_addRule 9 = .ok (.bipush (-4), 2) := by decide +kernel
theorem dX0_addRule_11 : decode cX0_addRule 11 = .ok (.ireturn, 1) := by decide +kernel
theorem dX0_addRule_12 : decode cX0_addRule 12 = .ok (.aload_n 0, 1) := by decide +kernel
theorem dX0_addRule_13 : decode cX0_addRule 13 = .ok (.getfield 37, 3) := by decide +kernel
theorem dX0_addRule_16 : decode cX0_addRule 16 = .ok (.aload_n 0, 1) := by decide +kernel
theorem dX0_addRule_17 : decode cX0_addRule 17 = .ok (.getfield 34, 3) := by decide +kernel
theorem dX0_addRule_20 : decode cX0_addRule 20 = .ok (.iload_n 1, 1) := by decide +kernel
theorem dX0_addRule_21 : decode cX0_addRule 21 = .ok (.iastore, 1) := by decide +kernel
theorem dX0_addRule_22 : decode cX0_addRule 22 = .ok (.aload_n 0, 1) := by decide +kernel
theorem dX0_addRule_23 : decode cX0_addRule 23 = .ok (.getfield 40, 3) := by decide +kernel
theorem dX0_addRule_26 : decode cX0_addRule 26 = .ok (.aload_n 0, 1) := by decide +kernel
theorem dX0_addRule_27 : decode cX0_addRule 27 = .ok (.getfield 34, 3) := by decide +kernel
theorem dX0_addRule_30 : decode cX0_addRule 30 = .ok (.iload_n 2, 1) := by decide +kernel
theorem dX0_addRule_31 : decode cX0_addRule 31 = .ok (.iastore, 1) := by decide +kernel
theorem dX0_addRule_32 : decode cX0_addRule 32 = .ok (.aload_n 0, 1) := by decide +kernel
theorem dX0_addRule_33 : decode cX0_addRule 33 = .ok (.getfield 43, 3) := by decide +kernel
theorem dX0_addRule_36 : decode cX0_addRule 36 = .ok (.aload_n 0, 1) := by decide +kernel
theorem dX0_addRule_37 : decode cX0_addRule 37 = .ok (.getfield 34, 3) := by decide +kernel
theorem dX0_addRule_40 : decode cX0_addRule 40 = .ok (.iload_n 3, 1) := by decide +kernel
theorem dX0_addRule_41 : decode cX0_addRule 41 = .ok (.iastore, 1) := by decide +kernel
theorem dX0_addRule_42 : decode cX0_addRule 42 = .ok (.aload_n 0, 1) := by decide +kernel
theorem dX0_addRule_43 : decode cX0_addRule 43 = .ok (.getfield 46, 3) := by decide +kernel
theorem dX0_addRule_46 : decode cX0_addRule 46 = .ok (.aload_n 0, 1) := by decide +kernel
theorem dX0_addRule_47 : decode cX0_addRule 47 = .ok (.getfield 34, 3) := by decide +kernel
theorem dX0_addRule_50 : decode cX0_addRule 50 = .ok (.iload 4, 2) := by decide +kernel
theorem dX0_addRule_52 : decode cX0_addRule 52 = .ok (.iastore, 1) := by decide +kernel
theorem dX0_addRule_53 : decode cX0_addRule 53 = .ok (.aload_n 0, 1) := by decide +kernel
theorem dX0_addRule_54 : decode cX0_addRule 54 = .ok (.getfield 49, 3) := by decide +kernel
theorem dX0_addRule_57 : decode cX0_addRule 57 = .ok (.aload_n 0, 1) := by decide +kernel
theorem dX0_addRule_58 : decode cX0_addRule 58 = .ok (.getfield 34, 3) := by decide +kernel
theorem dX0_addRule_61 : decode cX0_addRule 61 = .ok (.iload 5, 2) := by decide +kernel
theorem dX0_addRule_63 : decode cX0_addRule 63 = .ok (.iastore, 1) := by decide +kernel
theorem dX0_addRule_64 : decode cX0_addRule 64 = .ok (.aload_n 0, 1) := by decide +kernel
theorem dX0_addRule_65 : decode cX0_addRule 65 = .ok (.dup, 1) := by decide +kernel
theorem dX0_addRule_66 : decode cX0_addRule 66 = .ok (.getfield 34, 3) := by decide +kernel
theorem dX0_addRule_69 : decode cX0_addRule 69 = .ok (.iconst 1, 1) := by decide +kernel
theorem dX0_addRule_70 : decode cX0_addRule 70 = .ok (.iadd, 1) := by decide +kernel
theorem dX0_addRule_71 : decode cX0_addRule 71 = .ok (.putfield 34, 3) := by decide +kernel
theorem dX0_addRule_74 : decode cX0_addRule 74 = .ok (.aload_n 0, 1) := by decide +kernel
theorem dX0_addRule_75 : decode cX0_addRule 75 = .ok (.getfield 34, 3) := by decide +kernel
theorem dX0_addRule_78 : decode cX0_addRule 78 = .ok (.iconst 1, 1) := by decide +kernel
theorem dX0_addRule_79 : decode cX0_addRule 79 = .ok (.isub, 1) := by decide +kernel
theorem dX0_addRule_80 : decode cX0_addRule 80 = .ok (.ireturn, 1) := by decide +kernel
theorem dX0_teach_0 : decode cX0_teach 0 = .ok (.iload_n 1, 1) := by decide +kernel
theorem dX0_teach_1 : decode cX0_teach 1 = .ok (.invokestatic 68, 3) := by decide +kernel
theorem dX0_teach_4 : decode cX0_teach 4 = .ok (.ifCond .eq 17, 3) := by decide +kernel
theorem dX0_teach_7 : decode cX0_teach 7 = .ok (.aload_n 0, 1) := by decide +kernel
theorem dX0_teach_8 : decode cX0_teach 8 = .ok (.getfield 52, 3) := by decide +kernel
theorem dX0_teach_11 : decode cX0_teach 11 = .ok (.iload_n 1, 1) := by decide +kernel
theorem dX0_teach_12 : decode cX0_teach 12 = .ok (.iload_n 2, 1) := by decide +kernel
theorem dX0_teach_13 : decode cX0_teach 13 = .ok (.iastore, 1) := by decide +kernel
theorem dX0_teach_14 : decode cX0_teach 14 = .ok (.aload_n 0, 1) := by decide +kernel
theorem dX0_teach_15 : decode cX0_teach 15 = .ok (.getfield 55, 3) := by decide +kernel
theorem dX0_teach_18 : decode cX0_teach 18 = .ok (.iload_n 1, 1) := by decide +kernel
theorem dX0_teach_19 : decode cX0_teach 19 = .ok (.iload_n 3, 1) := by decide +kernel
theorem dX0_teach_20 : decode cX0_teach 20 = .ok (.iastore, 1) := by decide +kernel
theorem dX0_teach_21 : decode cX0_teach 21 = .ok (.return_, 1) := by decide +kernel
theorem dX0_placeSaidBy_0 : decode cX0_placeSaidBy 0 = .ok (.iload_n 1, 1) := by decide +kernel
theorem dX0_placeSaidBy_1 : decode cX0_placeSaidBy 1 = .ok (.invokestatic 68, 3) := by decide +kernel
theorem dX0_placeSaidBy_4 : decode cX0_placeSaidBy 4 = .ok (.ifCond .eq 12, 3) := by decide +kernel
theorem dX0_placeSaidBy_7 : decode cX0_placeSaidBy 7 = .ok (.aload_n 0, 1) := by decide +kernel
theorem dX0_placeSaidBy_8 : decode cX0_placeSaidBy 8 = .ok (.getfield 52, 3) := by decide +kernel
theorem dX0_placeSaidBy_11 : decode cX0_placeSaidBy 11 = .ok (.iload_n 1, 1) := by decide +kernel
theorem dX0_placeSaidBy_12 : decode cX0_placeSaidBy 12 = .ok (.iaload, 1) := by decide +kernel
theorem dX0_placeSaidBy_13 : decode cX0_placeSaidBy 13 = .ok (.goto 4, 3) := by decide +kernel
theorem dX0_placeSaidBy_16 : decode cX0_placeSaidBy 16 = .ok (.iconst (-1), 1) := by decide +kernel
theorem dX0_placeSaidBy_17 : decode cX0_placeSaidBy 17 = .ok (.ireturn, 1) := by decide +kernel
theorem dX0_valueSaidBy_0 : decode cX0_valueSaidBy 0 = .ok (.iload_n 1, 1) := by decide +kernel
theorem dX0_valueSaidBy_1 : decode cX0_valueSaidBy 1 = .ok (.invokestatic 68, 3) := by decide +kernel
theorem dX0_valueSaidBy_4 : decode cX0_valueSaidBy 4 = .ok (.ifCond .eq 12, 3) := by decide +kernel
theorem dX0_valueSaidBy_7 : decode cX0_valueSaidBy 7 = .ok (.aload_n 0, 1) := by decide +kernel
theorem dX0_valueSaidBy_8 : decode cX0_valueSaidBy 8 = .ok (.getfield 55, 3) := by decide +kernel
theorem dX0_valueSaidBy_11 : decode cX0_valueSaidBy 11 = .ok (.iload_n 1, 1) := by decide +kernel
theorem dX0_valueSaidBy_12 : decode cX0_valueSaidBy 12 = .ok (.iaload, 1) := by decide +kernel
theorem dX0_valueSaidBy_13 : decode cX0_valueSaidBy 13 = .ok (.goto 4, 3) := by decide +kernel
theorem dX0_valueSaidBy_16 : decode cX0_valueSaidBy 16 = .ok (.iconst (-1), 1) := by decide +kernel
theorem dX0_valueSaidBy_17 : decode cX0_valueSaidBy 17 = .ok (.ireturn, 1) := by decide +kernel
theorem dX0_leastWord_0 : decode cX0_leastWord 0 = .ok (.iconst 0, 1) := by decide +kernel
theorem dX0_leastWord_1 : decode cX0_leastWord 1 = .ok (.istore_n 3, 1) := by decide +kernel
theorem dX0_leastWord_2 : decode cX0_leastWord 2 = .ok (.iload_n 3, 1) := by decide +kernel
theorem dX0_leastWord_3 : decode cX0_leastWord 3 = .ok (.bipush 64, 2) := by decide +kernel
theorem dX0_leastWord_5 : decode cX0_leastWord 5 = .ok (.if_icmp .ge 31, 3) := by decide +kernel
theorem dX0_leastWord_8 : decode cX0_leastWord 8 = .ok (.aload_n 0, 1) := by decide +kernel
theorem dX0_leastWord_9 : decode cX0_leastWord 9 = .ok (.getfield 52, 3) := by decide +kernel
theorem dX0_leastWord_12 : decode cX0_leastWord 12 = .ok (.iload_n 3, 1) := by decide +kernel
theorem dX0_leastWord_13 : decode cX0_leastWord 13 = .ok (.iaload, 1) := by decide +kernel
theorem dX0_leastWord_14 : decode cX0_leastWord 14 = .ok (.iload_n 1, 1) := by decide +kernel
theorem dX0_leastWord_15 : decode cX0_leastWord 15 = .ok (.if_icmp .ne 15, 3) := by decide +kernel
theorem dX0_leastWord_18 : decode cX0_leastWord 18 = .ok (.aload_n 0, 1) := by decide +kernel
theorem dX0_leastWord_19 : decode cX0_leastWord 19 = .ok (.getfield 55, 3) := by decide +kernel
theorem dX0_leastWord_22 : decode cX0_leastWord 22 = .ok (.iload_n 3, 1) := by decide +kernel
theorem dX0_leastWord_23 : decode cX0_leastWord 23 = .ok (.iaload, 1) := by decide +kernel
theorem dX0_leastWord_24 : decode cX0_leastWord 24 = .ok (.iload_n 2, 1) := by decide +kernel
theorem dX0_leastWord_25 : decode cX0_leastWord 25 = .ok (.if_icmp .ne 5, 3) := by decide +kernel
theorem dX0_leastWord_28 : decode cX0_leastWord 28 = .ok (.iload_n 3, 1) := by decide +kernel
theorem dX0_leastWord_29 : decode cX0_leastWord 29 = .ok (.ireturn, 1) := by decide +kernel
theorem dX0_leastWord_30 : decode cX0_leastWord 30 = .ok (.iinc 3 1, 3) := by decide +kernel
theorem dX0_leastWord_33 : decode cX0_leastWord 33 = .ok (.goto (-31), 3) := by decide +kernel
theorem dX0_leastWord_36 : decode cX0_leastWord 36 = .ok (.iconst (-1), 1) := by decide +kernel
theorem dX0_leastWord_37 : decode cX0_leastWord 37 = .ok (.ireturn, 1) := by decide +kernel
theorem dX0_empty_0 : decode cX0_empty 0 = .ok (.aload_n 0, 1) := by decide +kernel
theorem dX0_empty_1 : decode cX0_empty 1 = .ok (.getfield 28, 3) := by decide +kernel
theorem dX0_empty_4 : decode cX0_empty 4 = .ok (.iconst 0, 1) := by decide +kernel
theorem dX0_empty_5 : decode cX0_empty 5 = .ok (.invokestatic 58, 3) := by decide +kernel
theorem dX0_empty_8 : decode cX0_empty 8 = .ok (.aload_n 0, 1) := by decide +kernel
theorem dX0_empty_9 : decode cX0_empty 9 = .ok (.getfield 31, 3) := by decide +kernel
theorem dX0_empty_12 : decode cX0_empty 12 = .ok (.iconst (-1), 1) := by decide +kernel
theorem dX0_empty_13 : decode cX0_empty 13 = .ok (.invokestatic 58, 3) := by decide +kernel
theorem dX0_empty_16 : decode cX0_empty 16 = .ok (.return_, 1) := by decide +kernel
theorem dX0_sureValue_0 : decode cX0_sureValue 0 = .ok (.aload_n 0, 1) := by decide +kernel
theorem dX0_sureValue_1 : decode cX0_sureValue 1 = .ok (.iload_n 1, 1) := by decide +kernel
theorem dX0_sureValue_2 : decode cX0_sureValue 2 = .ok (.invokevirtual 64, 3) := by decide +kernel
theorem dX0_sureValue_5 : decode cX0_sureValue 5 = .ok (.ifCond .ne 5, 3) := by decide +kernel
theorem dX0_sureValue_8 : decode cX0_sureValue 8 = .ok (.iconst (-1), 1) := by decide +kernel
theorem dX0_sureValue_9 : decode cX0_sureValue 9 = .ok (.ireturn, 1) := by decide +kernel
theorem dX0_sureValue_10 : decode cX0_sureValue 10 = .ok (.aload_n 0, 1) := by decide +kernel
theorem dX0_sureValue_11 : decode cX0_sureValue 11 = .ok (.getfield 15, 3) := by decide +kernel
theorem dX0_sureValue_14 : decode cX0_sureValue 14 = .ok (.iload_n 1, 1) := by decide +kernel
theorem dX0_sureValue_15 : decode cX0_sureValue 15 = .ok (.iaload, 1) := by decide +kernel
theorem dX0_sureValue_16 : decode cX0_sureValue 16 = .ok (.iconst 1, 1) := by decide +kernel
theorem dX0_sureValue_17 : decode cX0_sureValue 17 = .ok (.if_icmp .eq 10, 3) := by decide +kernel
theorem dX0_sureValue_20 : decode cX0_sureValue 20 = .ok (.aload_n 0, 1) := by decide +kernel
theorem dX0_sureValue_21 : decode cX0_sureValue 21 = .ok (.getfield 31, 3) := by decide +kernel
theorem dX0_sureValue_24 : decode cX0_sureValue 24 = .ok (.iload_n 1, 1) := by decide +kernel
theorem dX0_sureValue_25 : decode cX0_sureValue 25 = .ok (.iaload, 1) := by decide +kernel
theorem dX0_sureValue_26 : decode cX0_sureValue 26 = .ok (.ireturn, 1) := by decide +kernel
theorem dX0_sureValue_27 : decode cX0_sureValue 27 = .ok (.aload_n 0, 1) := by decide +kernel
theorem dX0_sureValue_28 : decode cX0_sureValue 28 = .ok (.getfield 22, 3) := by decide +kernel
theorem dX0_sureValue_31 : decode cX0_sureValue 31 = .ok (.iload_n 1, 1) := by decide +kernel
theorem dX0_sureValue_32 : decode cX0_sureValue 32 = .ok (.iaload, 1) := by decide +kernel
theorem dX0_sureValue_33 : decode cX0_sureValue 33 = .ok (.istore_n 2, 1) := by decide +kernel
theorem dX0_sureValue_34 : decode cX0_sureValue 34 = .ok (.aload_n 0, 1) := by decide +kernel
theorem dX0_sureValue_35 : decode cX0_sureValue 35 = .ok (.getfield 25, 3) := by decide +kernel
theorem dX0_sureValue_38 : decode cX0_sureValue 38 = .ok (.iload_n 1, 1) := by decide +kernel
theorem dX0_sureValue_39 : decode cX0_sureValue 39 = .ok (.iaload, 1) := by decide +kernel
theorem dX0_sureValue_40 : decode cX0_sureValue 40 = .ok (.istore_n 3, 1) := by decide +kernel
theorem dX0_sureValue_41 : decode cX0_sureValue 41 = .ok (.aload_n 0, 1) := by decide +kernel
theorem dX0_sureValue_42 : decode cX0_sureValue 42 = .ok (.iload_n 2, 1) := by decide +kernel
theorem dX0_sureValue_43 : decode cX0_sureValue 43 = .ok (.invokevirtual 64, 3) := by decide +kernel
theorem dX0_sureValue_46 : decode cX0_sureValue 46 = .ok (.ifCond .eq 20, 3) := by decide +kernel
theorem dX0_sureValue_49 : decode cX0_sureValue 49 = .ok (.aload_n 0, 1) := by decide +kernel
theorem dX0_sureValue_50 : decode cX0_sureValue 50 = .ok (.iload_n 3, 1) := by decide +kernel
theorem dX0_sureValue_51 : decode cX0_sureValue 51 = .ok (.invokevirtual 64, 3) := by decide +kernel
theorem dX0_sureValue_54 : decode cX0_sureValue 54 = .ok (.ifCond .eq 12, 3) := by decide +kernel
theorem dX0_sureValue_57 : decode cX0_sureValue 57 = .ok (.aload_n 0, 1) := by decide +kernel
theorem dX0_sureValue_58 : decode cX0_sureValue 58 = .ok (.getfield 19, 3) := by decide +kernel
theorem dX0_sureValue_61 : decode cX0_sureValue 61 = .ok (.iload_n 1, 1) := by decide +kernel
theorem dX0_sureValue_62 : decode cX0_sureValue 62 = .ok (.iaload, 1) := by decide +kernel
theorem dX0_sureValue_63 : decode cX0_sureValue 63 = .ok (.ifCond .gt 5, 3) := by decide +kernel
theorem dX0_sureValue_66 : decode cX0_sureValue 66 = .ok (.iconst (-1), 1) := by decide +kernel
theorem dX0_sureValue_67 : decode cX0_sureValue 67 = .ok (.ireturn, 1) := by decide +kernel
theorem dX0_sureValue_68 : decode cX0_sureValue 68 = .ok (.aload_n 0, 1) := by decide +kernel
theorem dX0_sureValue_69 : decode cX0_sureValue 69 = .ok (.getfield 31, 3) := by decide +kernel
theorem dX0_sureValue_72 : decode cX0_sureValue 72 = .ok (.iload_n 2, 1) := by decide +kernel
theorem dX0_sureValue_73 : decode cX0_sureValue 73 = .ok (.iaload, 1) := by decide +kernel
theorem dX0_sureValue_74 : decode cX0_sureValue 74 = .ok (.iconst (-1), 1) := by decide +kernel
theorem dX0_sureValue_75 : decode cX0_sureValue 75 = .ok (.if_icmp .eq 13, 3) := by decide +kernel
theorem dX0_sureValue_78 : decode cX0_sureValue 78 = .ok (.aload_n 0, 1) := by decide +kernel
theorem dX0_sureValue_79 : decode cX0_sureValue 79 = .ok (.getfield 31, 3) := by decide +kernel
theorem dX0_sureValue_82 : decode cX0_sureValue 82 = .ok (.iload_n 3, 1) := by decide +kernel
theorem dX0_sureValue_83 : decode cX0_sureValue 83 = .ok (.iaload, 1) := by decide +kernel
theorem dX0_sureValue_84 : decode cX0_sureValue 84 = .ok (.iconst (-1), 1) := by decide +kernel
theorem dX0_sureValue_85 : decode cX0_sureValue 85 = .ok (.if_icmp .ne 5, 3) := by decide +kernel
theorem dX0_sureValue_88 : decode cX0_sureValue 88 = .ok (.iconst (-1), 1) := by decide +kernel
theorem dX0_sureValue_89 : decode cX0_sureValue 89 = .ok (.ireturn, 1) := by decide +kernel
theorem dX0_sureValue_90 : decode cX0_sureValue 90 = .ok (.aload_n 0, 1) := by decide +kernel
theorem dX0_sureValue_91 : decode cX0_sureValue 91 = .ok (.getfield 31, 3) := by decide +kernel
theorem dX0_sureValue_94 : decode cX0_sureValue 94 = .ok (.iload_n 2, 1) := by decide +kernel
theorem dX0_sureValue_95 : decode cX0_sureValue 95 = .ok (.iaload, 1) := by decide +kernel
theorem dX0_sureValue_96 : decode cX0_sureValue 96 = .ok (.aload_n 0, 1) := by decide +kernel
theorem dX0_sureValue_97 : decode cX0_sureValue 97 = .ok (.getfield 31, 3) := by decide +kernel
theorem dX0_sureValue_100 : decode cX0_sureValue 100 = .ok (.iload_n 3, 1) := by decide +kernel
theorem dX0_sureValue_101 : decode cX0_sureValue 101 = .ok (.iaload, 1) := by decide +kernel
theorem dX0_sureValue_102 : decode cX0_sureValue 102 = .ok (.iadd, 1) := by decide +kernel
theorem dX0_sureValue_103 : decode cX0_sureValue 103 = .ok (.aload_n 0, 1) := by decide +kernel
theorem dX0_sureValue_104 : decode cX0_sureValue 104 = .ok (.getfield 19, 3) := by decide +kernel
theorem dX0_sureValue_107 : decode cX0_sureValue 107 = .ok (.iload_n 1, 1) := by decide +kernel
theorem dX0_sureValue_108 : decode cX0_sureValue 108 = .ok (.iaload, 1) := by decide +kernel
theorem dX0_sureValue_109 : decode cX0_sureValue 109 = .ok (.irem, 1) := by decide +kernel
theorem dX0_sureValue_110 : decode cX0_sureValue 110 = .ok (.ireturn, 1) := by decide +kernel
theorem dX0_setOf_0 : decode cX0_setOf 0 = .ok (.aload_n 0, 1) := by decide +kernel
theorem dX0_setOf_1 : decode cX0_setOf 1 = .ok (.iload_n 1, 1) := by decide +kernel
theorem dX0_setOf_2 : decode cX0_setOf 2 = .ok (.invokevirtual 71, 3) := by decide +kernel
theorem dX0_setOf_5 : decode cX0_setOf 5 = .ok (.ifCond .ne 22, 3) := by decide +kernel
theorem dX0_setOf_8 : decode cX0_setOf 8 = .ok (.aload_n 0, 1) := by decide +kernel
theorem dX0_setOf_9 : decode cX0_setOf 9 = .ok (.iload_n 1, 1) := by decide +kernel
theorem dX0_setOf_10 : decode cX0_setOf 10 = .ok (.invokevirtual 64, 3) := by decide +kernel
theorem dX0_setOf_13 : decode cX0_setOf 13 = .ok (.ifCond .eq 12, 3) := by decide +kernel
theorem dX0_setOf_16 : decode cX0_setOf 16 = .ok (.aload_n 0, 1) := by decide +kernel
theorem dX0_setOf_17 : decode cX0_setOf 17 = .ok (.getfield 28, 3) := by decide +kernel
theorem dX0_setOf_20 : decode cX0_setOf 20 = .ok (.iload_n 1, 1) := by decide +kernel
theorem dX0_setOf_21 : decode cX0_setOf 21 = .ok (.iaload, 1) := by decide +kernel
theorem dX0_setOf_22 : decode cX0_setOf 22 = .ok (.goto 4, 3) := by decide +kernel
theorem dX0_setOf_25 : decode cX0_setOf 25 = .ok (.iconst 0, 1) := by decide +kernel
theorem dX0_setOf_26 : decode cX0_setOf 26 = .ok (.ireturn, 1) := by decide +kernel
theorem dX0_setOf_27 : decode cX0_setOf 27 = .ok (.aload_n 0, 1) := by decide +kernel
theorem dX0_setOf_28 : decode cX0_setOf 28 = .ok (.iload_n 1, 1) := by decide +kernel
theorem dX0_setOf_29 : decode cX0_setOf 29 = .ok (.invokevirtual 74, 3) := by decide +kernel
theorem dX0_setOf_32 : decode cX0_setOf 32 = .ok (.istore_n 2, 1) := by decide +kernel
theorem dX0_setOf_33 : decode cX0_setOf 33 = .ok (.iload_n 2, 1) := by decide +kernel
theorem dX0_setOf_34 : decode cX0_setOf 34 = .ok (.iconst (-1), 1) := by decide +kernel
theorem dX0_setOf_35 : decode cX0_setOf 35 = .ok (.if_icmp .ne 7, 3) := by decide +kernel
theorem dX0_setOf_38 : decode cX0_setOf 38 = .ok (.iconst 0, 1) := by decide +kernel
theorem dX0_setOf_39 : decode cX0_setOf 39 = .ok (.goto 6, 3) := by decide +kernel
theorem dX0_setOf_42 : decode cX0_setOf 42 = .ok (.iconst 1, 1) := by decide +kernel
theorem dX0_setOf_43 : decode cX0_setOf 43 = .ok (.iload_n 2, 1) := by decide +kernel
theorem dX0_setOf_44 : decode cX0_setOf 44 = .ok (.ishl, 1) := by decide +kernel
theorem dX0_setOf_45 : decode cX0_setOf 45 = .ok (.ireturn, 1) := by decide +kernel
theorem dX0_leastValue_0 : decode cX0_leastValue 0 = .ok (.aload_n 0, 1) := by decide +kernel
theorem dX0_leastValue_1 : decode cX0_leastValue 1 = .ok (.iload_n 1, 1) := by decide +kernel
theorem dX0_leastValue_2 : decode cX0_leastValue 2 = .ok (.invokevirtual 78, 3) := by decide +kernel
theorem dX0_leastValue_5 : decode cX0_leastValue 5 = .ok (.istore_n 2, 1) := by decide +kernel
theorem dX0_leastValue_6 : decode cX0_leastValue 6 = .ok (.iconst 0, 1) := by decide +kernel
theorem dX0_leastValue_7 : decode cX0_leastValue 7 = .ok (.istore_n 3, 1) := by decide +kernel
theorem dX0_leastValue_8 : decode cX0_leastValue 8 = .ok (.iload_n 3, 1) := by decide +kernel
theorem dX0_leastValue_9 : decode cX0_leastValue 9 = .ok (.iconst 4, 1) := by decide +kernel
theorem dX0_leastValue_10 : decode cX0_leastValue 10 = .ok (.if_icmp .ge 19, 3) := by decide +kernel
theorem dX0_leastValue_13 : decode cX0_leastValue 13 = .ok (.iload_n 2, 1) := by decide +kernel
theorem dX0_leastValue_14 : decode cX0_leastValue 14 = .ok (.iload_n 3, 1) := by decide +kernel
theorem dX0_leastValue_15 : decode cX0_leastValue 15 = .ok (.ishr, 1) := by decide +kernel
theorem dX0_leastValue_16 : decode cX0_leastValue 16 = .ok (.iconst 1, 1) := by decide +kernel
theorem dX0_leastValue_17 : decode cX0_leastValue 17 = .ok (.iand, 1) := by decide +kernel
theorem dX0_leastValue_18 : decode cX0_leastValue 18 = .ok (.ifCond .eq 5, 3) := by decide +kernel
theorem dX0_leastValue_21 : decode cX0_leastValue 21 = .ok (.iload_n 3, 1) := by decide +kernel
theorem dX0_leastValue_22 : decode cX0_leastValue 22 = .ok (.ireturn, 1) := by decide +kernel
theorem dX0_leastValue_23 : decode cX0_leastValue 23 = .ok (.iinc 3 1, 3) := by decide +kernel
theorem dX0_leastValue_26 : decode cX0_leastValue 26 = .ok (.goto (-18), 3) := by decide +kernel
theorem dX0_leastValue_29 : decode cX0_leastValue 29 = .ok (.iconst (-1), 1) := by decide +kernel
theorem dX0_leastValue_30 : decode cX0_leastValue 30 = .ok (.ireturn, 1) := by decide +kernel
theorem dX0_isWanted_0 : decode cX0_isWanted 0 = .ok (.aload_n 0, 1) := by decide +kernel
theorem dX0_isWanted_1 : decode cX0_isWanted 1 = .ok (.iload_n 1, 1) := by decide +kernel
theorem dX0_isWanted_2 : decode cX0_isWanted 2 = .ok (.invokevirtual 64, 3) := by decide +kernel
theorem dX0_isWanted_5 : decode cX0_isWanted 5 = .ok (.ifCond .eq 13, 3) := by decide +kernel
theorem dX0_isWanted_8 : decode cX0_isWanted 8 = .ok (.aload_n 0, 1) := by decide +kernel
theorem dX0_isWanted_9 : decode cX0_isWanted 9 = .ok (.getfield 15, 3) := by decide +kernel
theorem dX0_isWanted_12 : decode cX0_isWanted 12 = .ok (.iload_n 1, 1) := by decide +kernel
theorem dX0_isWanted_13 : decode cX0_isWanted 13 = .ok (.iaload, 1) := by decide +kernel
theorem dX0_isWanted_14 : decode cX0_isWanted 14 = .ok (.iconst 1, 1) := by decide +kernel
theorem dX0_isWanted_15 : decode cX0_isWanted 15 = .ok (.if_icmp .ne 5, 3) := by decide +kernel
theorem dX0_isWanted_18 : decode cX0_isWanted 18 = .ok (.iconst 0, 1) := by decide +kernel
theorem dX0_isWanted_19 : decode cX0_isWanted 19 = .ok (.ireturn, 1) := by decide +kernel
theorem dX0_isWanted_20 : decode cX0_isWanted 20 = .ok (.iconst 1, 1) := by decide +kernel
theorem dX0_isWanted_21 : decode cX0_isWanted 21 = .ok (.istore_n 2, 1) := by decide +kernel
theorem dX0_isWanted_22 : decode cX0_isWanted 22 = .ok (.iconst 0, 1) := by decide +kernel
theorem dX0_isWanted_23 : decode cX0_isWanted 23 = .ok (.istore_n 3, 1) := by decide +kernel
theorem dX0_isWanted_24 : decode cX0_isWanted 24 = .ok (.iload_n 3, 1) := by decide +kernel
theorem dX0_isWanted_25 : decode cX0_isWanted 25 = .ok (.aload_n 0, 1) := by decide +kernel
theorem dX0_isWanted_26 : decode cX0_isWanted 26 = .ok (.getfield 34, 3) := by decide +kernel
theorem dX0_isWanted_29 : decode cX0_isWanted 29 = .ok (.if_icmp .ge 52, 3) := by decide +kernel
theorem dX0_isWanted_32 : decode cX0_isWanted 32 = .ok (.aload_n 0, 1) := by decide +kernel
theorem dX0_isWanted_33 : decode cX0_isWanted 33 = .ok (.getfield 37, 3) := by decide +kernel
theorem dX0_isWanted_36 : decode cX0_isWanted 36 = .ok (.iload_n 3, 1) := by decide +kernel
theorem dX0_isWanted_37 : decode cX0_isWanted 37 = .ok (.iaload, 1) := by decide +kernel
theorem dX0_isWanted_38 : decode cX0_isWanted 38 = .ok (.iconst 1, 1) := by decide +kernel
theorem dX0_isWanted_39 : decode cX0_isWanted 39 = .ok (.if_icmp .ne 36, 3) := by decide +kernel
theorem dX0_isWanted_42 : decode cX0_isWanted 42 = .ok (.aload_n 0, 1) := by decide +kernel
theorem dX0_isWanted_43 : decode cX0_isWanted 43 = .ok (.getfield 46, 3) := by decide +kernel
theorem dX0_isWanted_46 : decode cX0_isWanted 46 = .ok (.iload_n 3, 1) := by decide +kernel
theorem dX0_isWanted_47 : decode cX0_isWanted 47 = .ok (.iaload, 1) := by decide +kernel
theorem dX0_isWanted_48 : decode cX0_isWanted 48 = .ok (.iload_n 1, 1) := by decide +kernel
theorem dX0_isWanted_49 : decode cX0_isWanted 49 = .ok (.if_icmp .ne 26, 3) := by decide +kernel
theorem dX0_isWanted_52 : decode cX0_isWanted 52 = .ok (.aload_n 0, 1) := by decide +kernel
theorem dX0_isWanted_53 : decode cX0_isWanted 53 = .ok (.aload_n 0, 1) := by decide +kernel
theorem dX0_isWanted_54 : decode cX0_isWanted 54 = .ok (.getfield 40, 3) := by decide +kernel
theorem dX0_isWanted_57 : decode cX0_isWanted 57 = .ok (.iload_n 3, 1) := by decide +kernel
theorem dX0_isWanted_58 : decode cX0_isWanted 58 = .ok (.iaload, 1) := by decide +kernel
theorem dX0_isWanted_59 : decode cX0_isWanted 59 = .ok (.invokevirtual 74, 3) := by decide +kernel
theorem dX0_isWanted_62 : decode cX0_isWanted 62 = .ok (.aload_n 0, 1) := by decide +kernel
theorem dX0_isWanted_63 : decode cX0_isWanted 63 = .ok (.getfield 43, 3) := by decide +kernel
theorem dX0_isWanted_66 : decode cX0_isWanted 66 = .ok (.iload_n 3, 1) := by decide +kernel
theorem dX0_isWanted_67 : decode cX0_isWanted 67 = .ok (.iaload, 1) := by decide +kernel
theorem dX0_isWanted_68 : decode cX0_isWanted 68 = .ok (.if_icmp .ne 5, 3) := by decide +kernel
theorem dX0_isWanted_71 : decode cX0_isWanted 71 = .ok (.iconst 1, 1) := by decide +kernel
theorem dX0_isWanted_72 : decode cX0_isWanted 72 = .ok (.ireturn, 1) := by decide +kernel
theorem dX0_isWanted_73 : decode cX0_isWanted 73 = .ok (.iconst 0, 1) := by decide +kernel
theorem dX0_isWanted_74 : decode cX0_isWanted 74 = .ok (.istore_n 2, 1) := by decide +kernel
theorem dX0_isWanted_75 : decode cX0_isWanted 75 = .ok (.iinc 3 1, 3) := by decide +kernel
theorem dX0_isWanted_78 : decode cX0_isWanted 78 = .ok (.goto (-54), 3) := by decide +kernel
theorem dX0_isWanted_81 : decode cX0_isWanted 81 = .ok (.iload_n 2, 1) := by decide +kernel
theorem dX0_isWanted_82 : decode cX0_isWanted 82 = .ok (.ireturn, 1) := by decide +kernel
theorem dX0_questions_0 : decode cX0_questions 0 = .ok (.iconst 0, 1) := by decide +kernel
theorem dX0_questions_1 : decode cX0_questions 1 = .ok (.istore_n 1, 1) := by decide +kernel
theorem dX0_questions_2 : decode cX0_questions 2 = .ok (.iconst 0, 1) := by decide +kernel
theorem dX0_questions_3 : decode cX0_questions 3 = .ok (.istore_n 2, 1) := by decide +kernel
theorem dX0_questions_4 : decode cX0_questions 4 = .ok (.iload_n 2, 1) := by decide +kernel
theorem dX0_questions_5 : decode cX0_questions 5 = .ok (.aload_n 0, 1) := by decide +kernel
theorem dX0_questions_6 : decode cX0_questions 6 = .ok (.getfield 9, 3) := by decide +kernel
theorem dX0_questions_9 : decode cX0_questions 9 = .ok (.if_icmp .ge 32, 3) := by decide +kernel
theorem dX0_questions_12 : decode cX0_questions 12 = .ok (.aload_n 0, 1) := by decide +kernel
theorem dX0_questions_13 : decode cX0_questions 13 = .ok (.iload_n 2, 1) := by decide +kernel
theorem dX0_questions_14 : decode cX0_questions 14 = .ok (.invokevirtual 74, 3) := by decide +kernel
theorem dX0_questions_17 : decode cX0_questions 17 = .ok (.iconst (-1), 1) := by decide +kernel
theorem dX0_questions_18 : decode cX0_questions 18 = .ok (.if_icmp .ne 17, 3) := by decide +kernel
theorem dX0_questions_21 : decode cX0_questions 21 = .ok (.aload_n 0, 1) := by decide +kernel
theorem dX0_questions_22 : decode cX0_questions 22 = .ok (.iload_n 2, 1) := by decide +kernel
theorem dX0_questions_23 : decode cX0_questions 23 = .ok (.invokevirtual 81, 3) := by decide +kernel
theorem dX0_questions_26 : decode cX0_questions 26 = .ok (.ifCond .eq 9, 3) := by decide +kernel
theorem dX0_questions_29 : decode cX0_questions 29 = .ok (.iload_n 1, 1) := by decide +kernel
theorem dX0_questions_30 : decode cX0_questions 30 = .ok (.iconst 1, 1) := by decide +kernel
theorem dX0_questions_31 : decode cX0_questions 31 = .ok (.iload_n 2, 1) := by decide +kernel
theorem dX0_questions_32 : decode cX0_questions 32 = .ok (.ishl, 1) := by decide +kernel
theorem dX0_questions_33 : decode cX0_questions 33 = .ok (.ior, 1) := by decide +kernel
theorem dX0_questions_34 : decode cX0_questions 34 = .ok (.istore_n 1, 1) := by decide +kernel
theorem dX0_questions_35 : decode cX0_questions 35 = .ok (.iinc 2 1, 3) := by decide +kernel
theorem dX0_questions_38 : decode cX0_questions 38 = .ok (.goto (-34), 3) := by decide +kernel
theorem dX0_questions_41 : decode cX0_questions 41 = .ok (.iload_n 1, 1) := by decide +kernel
theorem dX0_questions_42 : decode cX0_questions 42 = .ok (.ireturn, 1) := by decide +kernel
theorem dX0_placeToConfirm_0 : decode cX0_placeToConfirm 0 = .ok (.aload_n 0, 1) := by decide +kernel
theorem dX0_placeToConfirm_1 : decode cX0_placeToConfirm 1 = .ok (.invokevirtual 84, 3) := by decide +kernel
theorem dX0_placeToConfirm_4 : decode cX0_placeToConfirm 4 = .ok (.istore_n 1, 1) := by decide +kernel
theorem dX0_placeToConfirm_5 : decode cX0_placeToConfirm 5 = .ok (.iconst 0, 1) := by decide +kernel
theorem dX0_placeToConfirm_6 : decode cX0_placeToConfirm 6 = .ok (.istore_n 2, 1) := by decide +kernel
theorem dX0_placeToConfirm_7 : decode cX0_placeToConfirm 7 = .ok (.iload_n 2, 1) := by decide +kernel
theorem dX0_placeToConfirm_8 : decode cX0_placeToConfirm 8 = .ok (.aload_n 0, 1) := by decide +kernel
theorem dX0_placeToConfirm_9 : decode cX0_placeToConfirm 9 = .ok (.getfield 9, 3) := by decide +kernel
theorem dX0_placeToConfirm_12 : decode cX0_placeToConfirm 12 = .ok (.if_icmp .ge 38, 3) := by decide +kernel
theorem dX0_placeToConfirm_15 : decode cX0_placeToConfirm 15 = .ok (.iload_n 1, 1) := by decide +kernel
theorem dX0_placeToConfirm_16 : decode cX0_placeToConfirm 16 = .ok (.iload_n 2, 1) := by decide +kernel
theorem dX0_placeToConfirm_17 : decode cX0_placeToConfirm 17 = .ok (.ishr, 1) := by decide +kernel
theorem dX0_placeToConfirm_18 : decode cX0_placeToConfirm 18 = .ok (.iconst 1, 1) := by decide +kernel
theorem dX0_placeToConfirm_19 : decode cX0_placeToConfirm 19 = .ok (.iand, 1) := by decide +kernel
theorem dX0_placeToConfirm_20 : decode cX0_placeToConfirm 20 = .ok (.ifCond .eq 24, 3) := by decide +kernel
theorem dX0_placeToConfirm_23 : decode cX0_placeToConfirm 23 = .ok (.aload_n 0, 1) := by decide +kernel
theorem dX0_placeToConfirm_24 : decode cX0_placeToConfirm 24 = .ok (.getfield 28, 3) := by decide +kernel
theorem dX0_placeToConfirm_27 : decode cX0_placeToConfirm 27 = .ok (.iload_n 2, 1) := by decide +kernel
theorem dX0_placeToConfirm_28 : decode cX0_placeToConfirm 28 = .ok (.iaload, 1) := by decide +kernel
theorem dX0_placeToConfirm_29 : decode cX0_placeToConfirm 29 = .ok (.ifCond .eq 15, 3) := by decide +kernel
theorem dX0_placeToConfirm_32 : decode cX0_placeToConfirm 32 = .ok (.aload_n 0, 1) := by decide +kernel
theorem dX0_placeToConfirm_33 : decode cX0_placeToConfirm 33 = .ok (.getfield 15, 3) := by decide +kernel
theorem dX0_placeToConfirm_36 : decode cX0_placeToConfirm 36 = .ok (.iload_n 2, 1) := by decide +kernel
theorem dX0_placeToConfirm_37 : decode cX0_placeToConfirm 37 = .ok (.iaload, 1) := by decide +kernel
theorem dX0_placeToConfirm_38 : decode cX0_placeToConfirm 38 = .ok (.iconst 2, 1) := by decide +kernel
theorem dX0_placeToConfirm_39 : decode cX0_placeToConfirm 39 = .ok (.if_icmp .eq 5, 3) := by decide +kernel
theorem dX0_placeToConfirm_42 : decode cX0_placeToConfirm 42 = .ok (.iload_n 2, 1) := by decide +kernel
theorem dX0_placeToConfirm_43 : decode cX0_placeToConfirm 43 = .ok (.ireturn, 1) := by decide +kernel
theorem dX0_placeToConfirm_44 : decode cX0_placeToConfirm 44 = .ok (.iinc 2 1, 3) := by decide +kernel
theorem dX0_placeToConfirm_47 : decode cX0_placeToConfirm 47 = .ok (.goto (-40), 3) := by decide +kernel
theorem dX0_placeToConfirm_50 : decode cX0_placeToConfirm 50 = .ok (.iconst (-1), 1) := by decide +kernel
theorem dX0_placeToConfirm_51 : decode cX0_placeToConfirm 51 = .ok (.ireturn, 1) := by decide +kernel
theorem dX0_firstBrokenBar_0 : decode cX0_firstBrokenBar 0 = .ok (.iconst 0, 1) := by decide +kernel
theorem dX0_firstBrokenBar_1 : decode cX0_firstBrokenBar 1 = .ok (.istore_n 1, 1) := by decide +kernel
theorem dX0_firstBrokenBar_2 : decode cX0_firstBrokenBar 2 = .ok (.iload_n 1, 1) := by decide +kernel
theorem dX0_firstBrokenBar_3 : decode cX0_firstBrokenBar 3 = .ok (.aload_n 0, 1) := by decide +kernel
theorem dX0_firstBrokenBar_4 : decode cX0_firstBrokenBar 4 = .ok (.getfield 34, 3) := by decide +kernel
theorem dX0_firstBrokenBar_7 : decode cX0_firstBrokenBar 7 = .ok (.if_icmp .ge 58, 3) := by decide +kernel
theorem dX0_firstBrokenBar_10 : decode cX0_firstBrokenBar 10 = .ok (.aload_n 0, 1) := by decide +kernel
theorem dX0_firstBrokenBar_11 : decode cX0_firstBrokenBar 11 = .ok (.getfield 37, 3) := by decide +kernel
theorem dX0_firstBrokenBar_14 : decode cX0_firstBrokenBar 14 = .ok (.iload_n 1, 1) := by decide +kernel
theorem dX0_firstBrokenBar_15 : decode cX0_firstBrokenBar 15 = .ok (.iaload, 1) := by decide +kernel
theorem dX0_firstBrokenBar_16 : decode cX0_firstBrokenBar 16 = .ok (.ifCond .ne 43, 3) := by decide +kernel
theorem dX0_firstBrokenBar_19 : decode cX0_firstBrokenBar 19 = .ok (.aload_n 0, 1) := by decide +kernel
theorem dX0_firstBrokenBar_20 : decode cX0_firstBrokenBar 20 = .ok (.aload_n 0, 1) := by decide +kernel
theorem dX0_firstBrokenBar_21 : decode cX0_firstBrokenBar 21 = .ok (.getfield 40, 3) := by decide +kernel
theorem dX0_firstBrokenBar_24 : decode cX0_firstBrokenBar 24 = .ok (.iload_n 1, 1) := by decide +kernel
theorem dX0_firstBrokenBar_25 : decode cX0_firstBrokenBar 25 = .ok (.iaload, 1) := by decide +kernel
theorem dX0_firstBrokenBar_26 : decode cX0_firstBrokenBar 26 = .ok (.invokevirtual 74, 3) := by decide +kernel
theorem dX0_firstBrokenBar_29 : decode cX0_firstBrokenBar 29 = .ok (.aload_n 0, 1) := by decide +kernel
theorem dX0_firstBrokenBar_30 : decode cX0_firstBrokenBar 30 = .ok (.getfield 43, 3) := by decide +kernel
theorem dX0_firstBrokenBar_33 : decode cX0_firstBrokenBar 33 = .ok (.iload_n 1, 1) := by decide +kernel
theorem dX0_firstBrokenBar_34 : decode cX0_firstBrokenBar 34 = .ok (.iaload, 1) := by decide +kernel
theorem dX0_firstBrokenBar_35 : decode cX0_firstBrokenBar 35 = .ok (.if_icmp .ne 24, 3) := by decide +kernel
theorem dX0_firstBrokenBar_38 : decode cX0_firstBrokenBar 38 = .ok (.aload_n 0, 1) := by decide +kernel
theorem dX0_firstBrokenBar_39 : decode cX0_firstBrokenBar 39 = .ok (.aload_n 0, 1) := by decide +kernel
theorem dX0_firstBrokenBar_40 : decode cX0_firstBrokenBar 40 = .ok (.getfield 46, 3) := by decide +kernel
theorem dX0_firstBrokenBar_43 : decode cX0_firstBrokenBar 43 = .ok (.iload_n 1, 1) := by decide +kernel
theorem dX0_firstBrokenBar_44 : decode cX0_firstBrokenBar 44 = .ok (.iaload, 1) := by decide +kernel
theorem dX0_firstBrokenBar_45 : decode cX0_firstBrokenBar 45 = .ok (.invokevirtual 74, 3) := by decide +kernel
theorem dX0_firstBrokenBar_48 : decode cX0_firstBrokenBar 48 = .ok (.aload_n 0, 1) := by decide +kernel
theorem dX0_firstBrokenBar_49 : decode cX0_firstBrokenBar 49 = .ok (.getfield 49, 3) := by decide +kernel
theorem dX0_firstBrokenBar_52 : decode cX0_firstBrokenBar 52 = .ok (.iload_n 1, 1) := by decide +kernel
theorem dX0_firstBrokenBar_53 : decode cX0_firstBrokenBar 53 = .ok (.iaload, 1) := by decide +kernel
theorem dX0_firstBrokenBar_54 : decode cX0_firstBrokenBar 54 = .ok (.if_icmp .ne 5, 3) := by decide +kernel
theorem dX0_firstBrokenBar_57 : decode cX0_firstBrokenBar 57 = .ok (.iload_n 1, 1) := by decide +kernel
theorem dX0_firstBrokenBar_58 : decode cX0_firstBrokenBar 58 = .ok (.ireturn, 1) := by decide +kernel
theorem dX0_firstBrokenBar_59 : decode cX0_firstBrokenBar 59 = .ok (.iinc 1 1, 3) := by decide +kernel
theorem dX0_firstBrokenBar_62 : decode cX0_firstBrokenBar 62 = .ok (.goto (-60), 3) := by decide +kernel
theorem dX0_firstBrokenBar_65 : decode cX0_firstBrokenBar 65 = .ok (.iconst (-1), 1) := by decide +kernel
theorem dX0_firstBrokenBar_66 : decode cX0_firstBrokenBar 66 = .ok (.ireturn, 1) := by decide +kernel
theorem dX0_put_0 : decode cX0_put 0 = .ok (.aload_n 0, 1) := by decide +kernel
theorem dX0_put_1 : decode cX0_put 1 = .ok (.iload_n 1, 1) := by decide +kernel
theorem dX0_put_2 : decode cX0_put 2 = .ok (.invokevirtual 64, 3) := by decide +kernel
theorem dX0_put_5 : decode cX0_put 5 = .ok (.ifCond .eq 17, 3) := by decide +kernel
theorem dX0_put_8 : decode cX0_put 8 = .ok (.aload_n 0, 1) := by decide +kernel
theorem dX0_put_9 : decode cX0_put 9 = .ok (.getfield 28, 3) := by decide +kernel
theorem dX0_put_12 : decode cX0_put 12 = .ok (.iload_n 1, 1) := by decide +kernel
theorem dX0_put_13 : decode cX0_put 13 = .ok (.iload_n 2, 1) := by decide +kernel
theorem dX0_put_14 : decode cX0_put 14 = .ok (.iastore, 1) := by decide +kernel
theorem dX0_put_15 : decode cX0_put 15 = .ok (.aload_n 0, 1) := by decide +kernel
theorem dX0_put_16 : decode cX0_put 16 = .ok (.getfield 31, 3) := by decide +kernel
theorem dX0_put_19 : decode cX0_put 19 = .ok (.iload_n 1, 1) := by decide +kernel
theorem dX0_put_20 : decode cX0_put 20 = .ok (.iload_n 3, 1) := by decide +kernel
theorem dX0_put_21 : decode cX0_put 21 = .ok (.iastore, 1) := by decide +kernel
theorem dX0_put_22 : decode cX0_put 22 = .ok (.return_, 1) := by decide +kernel
theorem dX0_settle_0 : decode cX0_settle 0 = .ok (.aload_n 0, 1) := by decide +kernel
theorem dX0_settle_1 : decode cX0_settle 1 = .ok (.iload_n 1, 1) := by decide +kernel
theorem dX0_settle_2 : decode cX0_settle 2 = .ok (.invokevirtual 78, 3) := by decide +kernel
theorem dX0_settle_5 : decode cX0_settle 5 = .ok (.istore 4, 2) := by decide +kernel
theorem dX0_settle_7 : decode cX0_settle 7 = .ok (.aload_n 0, 1) := by decide +kernel
theorem dX0_settle_8 : decode cX0_settle 8 = .ok (.iload_n 1, 1) := by decide +kernel
theorem dX0_settle_9 : decode cX0_settle 9 = .ok (.invokevirtual 74, 3) := by decide +kernel
theorem dX0_settle_12 : decode cX0_settle 12 = .ok (.istore 5, 2) := by decide +kernel
theorem dX0_settle_14 : decode cX0_settle 14 = .ok (.aload_n 0, 1) := by decide +kernel
theorem dX0_settle_15 : decode cX0_settle 15 = .ok (.iload_n 1, 1) := by decide +kernel
theorem dX0_settle_16 : decode cX0_settle 16 = .ok (.iload_n 2, 1) := by decide +kernel
theorem dX0_settle_17 : decode cX0_settle 17 = .ok (.iload_n 3, 1) := by decide +kernel
theorem dX0_settle_18 : decode cX0_settle 18 = .ok (.invokevirtual 88, 3) := by decide +kernel
theorem dX0_settle_21 : decode cX0_settle 21 = .ok (.aload_n 0, 1) := by decide +kernel
theorem dX0_settle_22 : decode cX0_settle 22 = .ok (.invokevirtual 92, 3) := by decide +kernel
theorem dX0_settle_25 : decode cX0_settle 25 = .ok (.istore 6, 2) := by decide +kernel
theorem dX0_settle_27 : decode cX0_settle 27 = .ok (.iload 6, 2) := by decide +kernel
theorem dX0_settle_29 : decode cX0_settle 29 = .ok (.iconst (-1), 1) := by decide +kernel
theorem dX0_settle_30 : decode cX0_settle 30 = .ok (.if_icmp .eq 12, 3) := by decide +kernel
theorem dX0_settle_33 : decode cX0_settle 33 = .ok (.aload_n 0, 1) := by decide +kernel
theorem dX0_settle_34 : decode cX0_settle 34 = .ok (.iload_n 1, 1) := by decide +kernel
theorem dX0_settle_35 : decode cX0_settle 35 = .ok (.iload 4, 2) := by decide +kernel
theorem dX0_settle_37 : decode cX0_settle 37 = .ok (.iload 5, 2) := by decide +kernel
theorem dX0_settle_39 : decode cX0_settle 39 = .ok (.invokevirtual 88, 3) := by decide +kernel
theorem dX0_settle_42 : decode cX0_settle 42 = .ok (.iload 6, 2) := by decide +kernel
theorem dX0_settle_44 : decode cX0_settle 44 = .ok (.ireturn, 1) := by decide +kernel
theorem dX0_strike_0 : decode cX0_strike 0 = .ok (.aload_n 0, 1) := by decide +kernel
theorem dX0_strike_1 : decode cX0_strike 1 = .ok (.iload_n 1, 1) := by decide +kernel
theorem dX0_strike_2 : decode cX0_strike 2 = .ok (.iload_n 2, 1) := by decide +kernel
theorem dX0_strike_3 : decode cX0_strike 3 = .ok (.invokevirtual 95, 3) := by decide +kernel
theorem dX0_strike_6 : decode cX0_strike 6 = .ok (.ifCond .eq 21, 3) := by decide +kernel
theorem dX0_strike_9 : decode cX0_strike 9 = .ok (.aload_n 0, 1) := by decide +kernel
theorem dX0_strike_10 : decode cX0_strike 10 = .ok (.iload_n 1, 1) := by decide +kernel
theorem dX0_strike_11 : decode cX0_strike 11 = .ok (.aload_n 0, 1) := by decide +kernel
theorem dX0_strike_12 : decode cX0_strike 12 = .ok (.getfield 28, 3) := by decide +kernel
theorem dX0_strike_15 : decode cX0_strike 15 = .ok (.iload_n 1, 1) := by decide +kernel
theorem dX0_strike_16 : decode cX0_strike 16 = .ok (.iaload, 1) := by decide +kernel
theorem dX0_strike_17 : decode cX0_strike 17 = .ok (.iconst 1, 1) := by decide +kernel
theorem dX0_strike_18 : decode cX0_strike 18 = .ok (.iload_n 2, 1) := by decide +kernel
theorem dX0_strike_19 : decode cX0_strike 19 = .ok (.ishl, 1) := by decide +kernel
theorem dX0_strike_20 : decode cX0_strike 20 = .ok (.iconst (-1), 1) := by decide +kernel
theorem dX0_strike_21 : decode cX0_strike 21 = .ok (.ixor, 1) := by decide +kernel
theorem dX0_strike_22 : decode cX0_strike 22 = .ok (.iand, 1) := by decide +kernel
theorem dX0_strike_23 : decode cX0_strike 23 = .ok (.iconst (-1), 1) := by decide +kernel
theorem dX0_strike_24 : decode cX0_strike 24 = .ok (.invokevirtual 88, 3) := by decide +kernel
theorem dX0_strike_27 : decode cX0_strike 27 = .ok (.return_, 1) := by decide +kernel
theorem dX0_copyTo_0 : decode cX0_copyTo 0 = .ok (.aload_n 1, 1) := by decide +kernel
theorem dX0_copyTo_1 : decode cX0_copyTo 1 = .ok (.iload_n 3, 1) := by decide +kernel
theorem dX0_copyTo_2 : decode cX0_copyTo 2 = .ok (.invokestatic 99, 3) := by decide +kernel
theorem dX0_copyTo_5 : decode cX0_copyTo 5 = .ok (.ifCond .eq 33, 3) := by decide +kernel
theorem dX0_copyTo_8 : decode cX0_copyTo 8 = .ok (.aload_n 2, 1) := by decide +kernel
theorem dX0_copyTo_9 : decode cX0_copyTo 9 = .ok (.iload_n 3, 1) := by decide +kernel
theorem dX0_copyTo_10 : decode cX0_copyTo 10 = .ok (.invokestatic 99, 3) := by decide +kernel
theorem dX0_copyTo_13 : decode cX0_copyTo 13 = .ok (.ifCond .eq 25, 3) := by decide +kernel
theorem dX0_copyTo_16 : decode cX0_copyTo 16 = .ok (.aload_n 0, 1) := by decide +kernel
theorem dX0_copyTo_17 : decode cX0_copyTo 17 = .ok (.getfield 28, 3) := by decide +kernel
theorem dX0_copyTo_20 : decode cX0_copyTo 20 = .ok (.iconst 0, 1) := by decide +kernel
theorem dX0_copyTo_21 : decode cX0_copyTo 21 = .ok (.aload_n 1, 1) := by decide +kernel
theorem dX0_copyTo_22 : decode cX0_copyTo 22 = .ok (.iload_n 3, 1) := by decide +kernel
theorem dX0_copyTo_23 : decode cX0_copyTo 23 = .ok (.iconst 5, 1) := by decide +kernel
theorem dX0_copyTo_24 : decode cX0_copyTo 24 = .ok (.invokestatic 103, 3) := by decide +kernel
theorem dX0_copyTo_27 : decode cX0_copyTo 27 = .ok (.aload_n 0, 1) := by decide +kernel
theorem dX0_copyTo_28 : decode cX0_copyTo 28 = .ok (.getfield 31, 3) := by decide +kernel
theorem dX0_copyTo_31 : decode cX0_copyTo 31 = .ok (.iconst 0, 1) := by decide +kernel
theorem dX0_copyTo_32 : decode cX0_copyTo 32 = .ok (.aload_n 2, 1) := by decide +kernel
theorem dX0_copyTo_33 : decode cX0_copyTo 33 = .ok (.iload_n 3, 1) := by decide +kernel
theorem dX0_copyTo_34 : decode cX0_copyTo 34 = .ok (.iconst 5, 1) := by decide +kernel
theorem dX0_copyTo_35 : decode cX0_copyTo 35 = .ok (.invokestatic 103, 3) := by decide +kernel
theorem dX0_copyTo_38 : decode cX0_copyTo 38 = .ok (.return_, 1) := by decide +kernel
theorem dX0_copyFrom_0 : decode cX0_copyFrom 0 = .ok (.aload_n 1, 1) := by decide +kernel
theorem dX0_copyFrom_1 : decode cX0_copyFrom 1 = .ok (.iload_n 3, 1) := by decide +kernel
theorem dX0_copyFrom_2 : decode cX0_copyFrom 2 = .ok (.invokestatic 99, 3) := by decide +kernel
theorem dX0_copyFrom_5 : decode cX0_copyFrom 5 = .ok (.ifCond .eq 33, 3) := by decide +kernel
theorem dX0_copyFrom_8 : decode cX0_copyFrom 8 = .ok (.aload_n 2, 1) := by decide +kernel
theorem dX0_copyFrom_9 : decode cX0_copyFrom 9 = .ok (.iload_n 3, 1) := by decide +kernel
theorem dX0_copyFrom_10 : decode cX0_copyFrom 10 = .ok (.invokestatic 99, 3) := by decide +kernel
theorem dX0_copyFrom_13 : decode cX0_copyFrom 13 = .ok (.ifCond .eq 25, 3) := by decide +kernel
theorem dX0_copyFrom_16 : decode cX0_copyFrom 16 = .ok (.aload_n 1, 1) := by decide +kernel
theorem dX0_copyFrom_17 : decode cX0_copyFrom 17 = .ok (.iload_n 3, 1) := by decide +kernel
theorem dX0_copyFrom_18 : decode cX0_copyFrom 18 = .ok (.aload_n 0, 1) := by decide +kernel
theorem dX0_copyFrom_19 : decode cX0_copyFrom 19 = .ok (.getfield 28, 3) := by decide +kernel
theorem dX0_copyFrom_22 : decode cX0_copyFrom 22 = .ok (.iconst 0, 1) := by decide +kernel
theorem dX0_copyFrom_23 : decode cX0_copyFrom 23 = .ok (.iconst 5, 1) := by decide +kernel
theorem dX0_copyFrom_24 : decode cX0_copyFrom 24 = .ok (.invokestatic 103, 3) := by decide +kernel
theorem dX0_copyFrom_27 : decode cX0_copyFrom 27 = .ok (.aload_n 2, 1) := by decide +kernel
theorem dX0_copyFrom_28 : decode cX0_copyFrom 28 = .ok (.iload_n 3, 1) := by decide +kernel
theorem dX0_copyFrom_29 : decode cX0_copyFrom 29 = .ok (.aload_n 0, 1) := by decide +kernel
theorem dX0_copyFrom_30 : decode cX0_copyFrom 30 = .ok (.getfield 31, 3) := by decide +kernel
theorem dX0_copyFrom_33 : decode cX0_copyFrom 33 = .ok (.iconst 0, 1) := by decide +kernel
theorem dX0_copyFrom_34 : decode cX0_copyFrom 34 = .ok (.iconst 5, 1) := by decide +kernel
theorem dX0_copyFrom_35 : decode cX0_copyFrom 35 = .ok (.invokestatic 103, 3) := by decide +kernel
theorem dX0_copyFrom_38 : decode cX0_copyFrom 38 = .ok (.return_, 1) := by decide +kernel
theorem dX0_holdsForm_0 : decode cX0_holdsForm 0 = .ok (.aload_n 0, 1) := by decide +kernel
theorem dX0_holdsForm_1 : decode cX0_holdsForm 1 = .ok (.ifnull 19, 3) := by decide +kernel
theorem dX0_holdsForm_4 : decode cX0_holdsForm 4 = .ok (.iload_n 1, 1) := by decide +kernel
theorem dX0_holdsForm_5 : decode cX0_holdsForm 5 = .ok (.ifCond .lt 15, 3) := by decide +kernel
theorem dX0_holdsForm_8 : decode cX0_holdsForm 8 = .ok (.iload_n 1, 1) := by decide +kernel
theorem dX0_holdsForm_9 : decode cX0_holdsForm 9 = .ok (.aload_n 0, 1) := by decide +kernel
theorem dX0_holdsForm_10 : decode cX0_holdsForm 10 = .ok (.arraylength, 1) := by decide +kernel
theorem dX0_holdsForm_11 : decode cX0_holdsForm 11 = .ok (.iconst 5, 1) := by decide +kernel
theorem dX0_holdsForm_12 : decode cX0_holdsForm 12 = .ok (.isub, 1) := by decide +kernel
theorem dX0_holdsForm_13 : decode cX0_holdsForm 13 = .ok (.if_icmp .gt 7, 3) := by decide +kernel
theorem dX0_holdsForm_16 : decode cX0_holdsForm 16 = .ok (.iconst 1, 1) := by decide +kernel
theorem dX0_holdsForm_17 : decode cX0_holdsForm 17 = .ok (.goto 4, 3) := by decide +kernel
theorem dX0_holdsForm_20 : decode cX0_holdsForm 20 = .ok (.iconst 0, 1) := by decide +kernel
theorem dX0_holdsForm_21 : decode cX0_holdsForm 21 = .ok (.ireturn, 1) := by decide +kernel
theorem dX1_init_0 : decode cX1_init 0 = .ok (.aload_n 0, 1) := by decide +kernel
theorem dX1_init_1 : decode cX1_init 1 = .ok (.invokespecial 3, 3) := by decide +kernel
theorem dX1_init_4 : decode cX1_init 4 = .ok (.aload_n 0, 1) := by decide +kernel
theorem dX1_init_5 : decode cX1_init 5 = .ok (.sipush 150, 3) := by decide +kernel
theorem dX1_init_8 : decode cX1_init 8 = .ok (.newarray .int, 2) := by decide +kernel
theorem dX1_init_10 : decode cX1_init 10 = .ok (.putfield 11, 3) := by decide +kernel
theorem dX1_init_13 : decode cX1_init 13 = .ok (.aload_n 0, 1) := by decide +kernel
theorem dX1_init_14 : decode cX1_init 14 = .ok (.sipush 150, 3) := by decide +kernel
theorem dX1_init_17 : decode cX1_init 17 = .ok (.newarray .int, 2) := by decide +kernel
theorem dX1_init_19 : decode cX1_init 19 = .ok (.putfield 15, 3) := by decide +kernel
theorem dX1_init_22 : decode cX1_init 22 = .ok (.aload_n 0, 1) := by decide +kernel
theorem dX1_init_23 : decode cX1_init 23 = .ok (.iconst 0, 1) := by decide +kernel
theorem dX1_init_24 : decode cX1_init 24 = .ok (.putfield 18, 3) := by decide +kernel
theorem dX1_init_27 : decode cX1_init 27 = .ok (.aload_n 0, 1) := by decide +kernel
theorem dX1_init_28 : decode cX1_init 28 = .ok (.iconst 0, 1) := by decide +kernel
theorem dX1_init_29 : decode cX1_init 29 = .ok (.putfield 22, 3) := by decide +kernel
theorem dX1_init_32 : decode cX1_init 32 = .ok (.aload_n 0, 1) := by decide +kernel
theorem dX1_init_33 : decode cX1_init 33 = .ok (.getfield 15, 3) := by decide +kernel
theorem dX1_init_36 : decode cX1_init 36 = .ok (.iconst (-1), 1) := by decide +kernel
theorem dX1_init_37 : decode cX1_init 37 = .ok (.invokestatic 25, 3) := by decide +kernel
theorem dX1_init_40 : decode cX1_init 40 = .ok (.return_, 1) := by decide +kernel
theorem dX1_size_0 : decode cX1_size 0 = .ok (.aload_n 0, 1) := by decide +kernel
theorem dX1_size_1 : decode cX1_size 1 = .ok (.getfield 22, 3) := by decide +kernel
theorem dX1_size_4 : decode cX1_size 4 = .ok (.ireturn, 1) := by decide +kernel
theorem dX1_clear_0 : decode cX1_clear 0 = .ok (.aload_n 0, 1) := by decide +kernel
theorem dX1_clear_1 : decode cX1_clear 1 = .ok (.iconst 0, 1) := by decide +kernel
theorem dX1_clear_2 : decode cX1_clear 2 = .ok (.putfield 22, 3) := by decide +kernel
theorem dX1_clear_5 : decode cX1_clear 5 = .ok (.return_, 1) := by decide +kernel
theorem dX1_keep_0 : decode cX1_keep 0 = .ok (.iconst 0, 1) := by decide +kernel
theorem dX1_keep_1 : decode cX1_keep 1 = .ok (.istore_n 2, 1) := by decide +kernel
theorem dX1_keep_2 : decode cX1_keep 2 = .ok (.iload_n 2, 1) := by decide +kernel
theorem dX1_keep_3 : decode cX1_keep 3 = .ok (.aload_n 1, 1) := by decide +kernel
theorem dX1_keep_4 : decode cX1_keep 4 = .ok (.arraylength, 1) := by decide +kernel
theorem dX1_keep_5 : decode cX1_keep 5 = .ok (.if_icmp .ge 45, 3) := by decide +kernel
theorem dX1_keep_8 : decode cX1_keep 8 = .ok (.iload_n 2, 1) := by decide +kernel
theorem dX1_keep_9 : decode cX1_keep 9 = .ok (.iconst 3, 1) := by decide +kernel
theorem dX1_keep_10 : decode cX1_keep 10 = .ok (.if_icmp .ge 40, 3) := by decide +kernel
theorem dX1_keep_13 : decode cX1_keep 13 = .ok (.aload_n 1, 1) := by decide +kernel
theorem dX1_keep_14 : decode cX1_keep 14 = .ok (.iload_n 2, 1) := by decide +kernel
theorem dX1_keep_15 : decode cX1_keep 15 = .ok (.aaload, 1) := by decide +kernel
theorem dX1_keep_16 : decode cX1_keep 16 = .ok (.ifnull 28, 3) := by decide +kernel
theorem dX1_keep_19 : decode cX1_keep 19 = .ok (.aload_n 1, 1) := by decide +kernel
theorem dX1_keep_20 : decode cX1_keep 20 = .ok (.iload_n 2, 1) := by decide +kernel
theorem dX1_keep_21 : decode cX1_keep 21 = .ok (.aaload, 1) := by decide +kernel
theorem dX1_keep_22 : decode cX1_keep 22 = .ok (.aload_n 0, 1) := by decide +kernel
theorem dX1_keep_23 : decode cX1_keep 23 = .ok (.getfield 11, 3) := by decide +kernel
theorem dX1_keep_26 : decode cX1_keep 26 = .ok (.aload_n 0, 1) := by decide +kernel
theorem dX1_keep_27 : decode cX1_keep 27 = .ok (.getfield 15, 3) := by decide +kernel
theorem dX1_keep_30 : decode cX1_keep 30 = .ok (.aload_n 0, 1) := by decide +kernel
theorem dX1_keep_31 : decode cX1_keep 31 = .ok (.getfield 18, 3) := by decide +kernel
theorem dX1_keep_34 : decode cX1_keep 34 = .ok (.bipush 15, 2) := by decide +kernel
theorem dX1_keep_36 : decode cX1_keep 36 = .ok (.imul, 1) := by decide +kernel
theorem dX1_keep_37 : decode cX1_keep 37 = .ok (.iload_n 2, 1) := by decide +kernel
theorem dX1_keep_38 : decode cX1_keep 38 = .ok (.iconst 5, 1) := by decide +kernel
theorem dX1_keep_39 : decode cX1_keep 39 = .ok (.imul, 1) := by decide +kernel
theorem dX1_keep_40 : decode cX1_keep 40 = .ok (.iadd, 1) := by decide +kernel
theorem dX1_keep_41 : decode cX1_keep 41 = .ok (.invokevirtual 31, 3) := by decide +kernel
theorem dX1_keep_44 : decode cX1_keep 44 = .ok (.iinc 2 1, 3) := by decide +kernel
theorem dX1_keep_47 : decode cX1_keep 47 = .ok (.goto (-45), 3) := by decide +kernel
theorem dX1_keep_50 : decode cX1_keep 50 = .ok (.aload_n 0, 1) := by decide +kernel
theorem dX1_keep_51 : decode cX1_keep 51 = .ok (.aload_n 0, 1) := by decide +kernel
theorem dX1_keep_52 : decode cX1_keep 52 = .ok (.getfield 18, 3) := by decide +kernel
theorem dX1_keep_55 : decode cX1_keep 55 = .ok (.iconst 1, 1) := by decide +kernel
theorem dX1_keep_56 : decode cX1_keep 56 = .ok (.iadd, 1) := by decide +kernel
theorem dX1_keep_57 : decode cX1_keep 57 = .ok (.bipush 10, 2) := by decide +kernel
theorem dX1_keep_59 : decode cX1_keep 59 = .ok (.irem, 1) := by decide +kernel
theorem dX1_keep_60 : decode cX1_keep 60 = .ok (.putfield 18, 3) := by decide +kernel
theorem dX1_keep_63 : decode cX1_keep 63 = .ok (.aload_n 0, 1) := by decide +kernel
theorem dX1_keep_64 : decode cX1_keep 64 = .ok (.bipush 10, 2) := by decide +kernel
theorem dX1_keep_66 : decode cX1_keep 66 = .ok (.aload_n 0, 1) := by decide +kernel
theorem dX1_keep_67 : decode cX1_keep 67 = .ok (.getfield 22, 3) := by decide +kernel
theorem dX1_keep_70 : decode cX1_keep 70 = .ok (.iconst 1, 1) := by decide +kernel
theorem dX1_keep_71 : decode cX1_keep 71 = .ok (.iadd, 1) := by decide +kernel
theorem dX1_keep_72 : decode cX1_keep 72 = .ok (.invokestatic 37, 3) := by decide +kernel
theorem dX1_keep_75 : decode cX1_keep 75 = .ok (.putfield 22, 3) := by decide +kernel
theorem dX1_keep_78 : decode cX1_keep 78 = .ok (.return_, 1) := by decide +kernel
theorem dX1_restore_0 : decode cX1_restore 0 = .ok (.aload_n 0, 1) := by decide +kernel
theorem dX1_restore_1 : decode cX1_restore 1 = .ok (.aload_n 0, 1) := by decide +kernel
theorem dX1_restore_2 : decode cX1_restore 2 = .ok (.getfield 18, 3) := by decide +kernel
theorem dX1_restore_5 : decode cX1_restore 5 = .ok (.bipush 10, 2) := by decide +kernel
theorem dX1_restore_7 : decode cX1_restore 7 = .ok (.iadd, 1) := by decide +kernel
theorem dX1_restore_8 : decode cX1_restore 8 = .ok (.iconst 1, 1) := by decide +kernel
theorem dX1_restore_9 : decode cX1_restore 9 = .ok (.isub, 1) := by decide +kernel
theorem dX1_restore_10 : decode cX1_restore 10 = .ok (.bipush 10, 2) := by decide +kernel
theorem dX1_restore_12 : decode cX1_restore 12 = .ok (.irem, 1) := by decide +kernel
theorem dX1_restore_13 : decode cX1_restore 13 = .ok (.putfield 18, 3) := by decide +kernel
theorem dX1_restore_16 : decode cX1_restore 16 = .ok (.aload_n 0, 1) := by decide +kernel
theorem dX1_restore_17 : decode cX1_restore 17 = .ok (.iconst 0, 1) := by decide +kernel
theorem dX1_restore_18 : decode cX1_restore 18 = .ok (.aload_n 0, 1) := by decide +kernel
theorem dX1_restore_19 : decode cX1_restore 19 = .ok (.getfield 22, 3) := by decide +kernel
theorem dX1_restore_22 : decode cX1_restore 22 = .ok (.iconst 1, 1) := by decide +kernel
theorem dX1_restore_23 : decode cX1_restore 23 = .ok (.isub, 1) := by decide +kernel
theorem dX1_restore_24 : decode cX1_restore 24 = .ok (.invokestatic 43, 3) := by decide +kernel
theorem dX1_restore_27 : decode cX1_restore 27 = .ok (.putfield 22, 3) := by decide +kernel
theorem dX1_restore_30 : decode cX1_restore 30 = .ok (.iconst 0, 1) := by decide +kernel
theorem dX1_restore_31 : decode cX1_restore 31 = .ok (.istore_n 2, 1) := by decide +kernel
theorem dX1_restore_32 : decode cX1_restore 32 = .ok (.iload_n 2, 1) := by decide +kernel
theorem dX1_restore_33 : decode cX1_restore 33 = .ok (.aload_n 1, 1) := by decide +kernel
theorem dX1_restore_34 : decode cX1_restore 34 = .ok (.arraylength, 1) := by decide +kernel
theorem dX1_restore_35 : decode cX1_restore 35 = .ok (.if_icmp .ge 45, 3) := by decide +kernel
theorem dX1_restore_38 : decode cX1_restore 38 = .ok (.iload_n 2, 1) := by decide +kernel
theorem dX1_restore_39 : decode cX1_restore 39 = .ok (.iconst 3, 1) := by decide +kernel
theorem dX1_restore_40 : decode cX1_restore 40 = .ok (.if_icmp .ge 40, 3) := by decide +kernel
theorem dX1_restore_43 : decode cX1_restore 43 = .ok (.aload_n 1, 1) := by decide +kernel
theorem dX1_restore_44 : decode cX1_restore 44 = .ok (.iload_n 2, 1) := by decide +kernel
theorem dX1_restore_45 : decode cX1_restore 45 = .ok (.aaload, 1) := by decide +kernel
theorem dX1_restore_46 : decode cX1_restore 46 = .ok (.ifnull 28, 3) := by decide +kernel
theorem dX1_restore_49 : decode cX1_restore 49 = .ok (.aload_n 1, 1) := by decide +kernel
theorem dX1_restore_50 : decode cX1_restore 50 = .ok (.iload_n 2, 1) := by decide +kernel
theorem dX1_restore_51 : decode cX1_restore 51 = .ok (.aaload, 1) := by decide +kernel
theorem dX1_restore_52 : decode cX1_restore 52 = .ok (.aload_n 0, 1) := by decide +kernel
theorem dX1_restore_53 : decode cX1_restore 53 = .ok (.getfield 11, 3) := by decide +kernel
theorem dX1_restore_56 : decode cX1_restore 56 = .ok (.aload_n 0, 1) := by decide +kernel
theorem dX1_restore_57 : decode cX1_restore 57 = .ok (.getfield 15, 3) := by decide +kernel
theorem dX1_restore_60 : decode cX1_restore 60 = .ok (.aload_n 0, 1) := by decide +kernel
theorem dX1_restore_61 : decode cX1_restore 61 = .ok (.getfield 18, 3) := by decide +kernel
theorem dX1_restore_64 : decode cX1_restore 64 = .ok (.bipush 15, 2) := by decide +kernel
theorem dX1_restore_66 : decode cX1_restore 66 = .ok (.imul, 1) := by decide +kernel
theorem dX1_restore_67 : decode cX1_restore 67 = .ok (.iload_n 2, 1) := by decide +kernel
theorem dX1_restore_68 : decode cX1_restore 68 = .ok (.iconst 5, 1) := by decide +kernel
theorem dX1_restore_69 : decode cX1_restore 69 = .ok (.imul, 1) := by decide +kernel
theorem dX1_restore_70 : decode cX1_restore 70 = .ok (.iadd, 1) := by decide +kernel
theorem dX1_restore_71 : decode cX1_restore 71 = .ok (.invokevirtual 46, 3) := by decide +kernel
theorem dX1_restore_74 : decode cX1_restore 74 = .ok (.iinc 2 1, 3) := by decide +kernel
theorem dX1_restore_77 : decode cX1_restore 77 = .ok (.goto (-45), 3) := by decide +kernel
theorem dX1_restore_80 : decode cX1_restore 80 = .ok (.return_, 1) := by decide +kernel
theorem dX2_init_0 : decode cX2_init 0 = .ok (.aload_n 0, 1) := by decide +kernel
theorem dX2_init_1 : decode cX2_init 1 = .ok (.invokespecial 3, 3) := by decide +kernel
theorem dX2_init_4 : decode cX2_init 4 = .ok (.aload_n 0, 1) := by decide +kernel
theorem dX2_init_5 : decode cX2_init 5 = .ok (.sipush 3125, 3) := by decide +kernel
theorem dX2_init_8 : decode cX2_init 8 = .ok (.newarray .int, 2) := by decide +kernel
theorem dX2_init_10 : decode cX2_init 10 = .ok (.putfield 11, 3) := by decide +kernel
theorem dX2_init_13 : decode cX2_init 13 = .ok (.aload_n 0, 1) := by decide +kernel
theorem dX2_init_14 : decode cX2_init 14 = .ok (.iconst 5, 1) := by decide +kernel
theorem dX2_init_15 : decode cX2_init 15 = .ok (.newarray .int, 2) := by decide +kernel
theorem dX2_init_17 : decode cX2_init 17 = .ok (.putfield 15, 3) := by decide +kernel
theorem dX2_init_20 : decode cX2_init 20 = .ok (.return_, 1) := by decide +kernel
theorem dX2_fewestQuestions_0 : decode cX2_fewestQuestions 0 = .ok (.aload_n 0, 1) := by decide +kernel
theorem dX2_fewestQuestions_1 : decode cX2_fewestQuestions 1 = .ok (.aload_n 1, 1) := by decide +kernel
theorem dX2_fewestQuestions_2 : decode cX2_fewestQuestions 2 = .ok (.invokevirtual 18, 3) := by decide +kernel
theorem dX2_fewestQuestions_5 : decode cX2_fewestQuestions 5 = .ok (.aload_n 0, 1) := by decide +kernel
theorem dX2_fewestQuestions_6 : decode cX2_fewestQuestions 6 = .ok (.aload_n 1, 1) := by decide +kernel
theorem dX2_fewestQuestions_7 : decode cX2_fewestQuestions 7 = .ok (.iconst 0, 1) := by decide +kernel
theorem dX2_fewestQuestions_8 : decode cX2_fewestQuestions 8 = .ok (.iconst 0, 1) := by decide +kernel
theorem dX2_fewestQuestions_9 : decode cX2_fewestQuestions 9 = .ok (.invokevirtual 22, 3) := by decide +kernel
theorem dX2_fewestQuestions_12 : decode cX2_fewestQuestions 12 = .ok (.ireturn, 1) := by decide +kernel
theorem dX2_placeToAsk_0 : decode cX2_placeToAsk 0 = .ok (.aload_n 0, 1) := by decide +kernel
theorem dX2_placeToAsk_1 : decode cX2_placeToAsk 1 = .ok (.aload_n 1, 1) := by decide +kernel
theorem dX2_placeToAsk_2 : decode cX2_placeToAsk 2 = .ok (.invokevirtual 18, 3) := by decide +kernel
theorem dX2_placeToAsk_5 : decode cX2_placeToAsk 5 = .ok (.aload_n 1, 1) := by decide +kernel
theorem dX2_placeToAsk_6 : decode cX2_placeToAsk 6 = .ok (.invokevirtual 26, 3) := by decide +kernel
theorem dX2_placeToAsk_9 : decode cX2_placeToAsk 9 = .ok (.istore_n 2, 1) := by decide +kernel
theorem dX2_placeToAsk_10 : decode cX2_placeToAsk 10 = .ok (.iconst (-1), 1) := by decide +kernel
theorem dX2_placeToAsk_11 : decode cX2_placeToAsk 11 = .ok (.istore_n 3, 1) := by decide +kernel
theorem dX2_placeToAsk_12 : decode cX2_placeToAsk 12 = .ok (.iconst 0, 1) := by decide +kernel
theorem dX2_placeToAsk_13 : decode cX2_placeToAsk 13 = .ok (.istore 4, 2) := by decide +kernel
theorem dX2_placeToAsk_15 : decode cX2_placeToAsk 15 = .ok (.iconst 0, 1) := by decide +kernel
theorem dX2_placeToAsk_16 : decode cX2_placeToAsk 16 = .ok (.istore 5, 2) := by decide +kernel
theorem dX2_placeToAsk_18 : decode cX2_placeToAsk 18 = .ok (.iload 5, 2) := by decide +kernel
theorem dX2_placeToAsk_20 : decode cX2_placeToAsk 20 = .ok (.iconst 5, 1) := by decide +kernel
theorem dX2_placeToAsk_21 : decode cX2_placeToAsk 21 = .ok (.if_icmp .ge 48, 3) := by decide +kernel
theorem dX2_placeToAsk_24 : decode cX2_placeToAsk 24 = .ok (.iload_n 2, 1) := by decide +kernel
theorem dX2_placeToAsk_25 : decode cX2_placeToAsk 25 = .ok (.iload 5, 2) := by decide +kernel
theorem dX2_placeToAsk_27 : decode cX2_placeToAsk 27 = .ok (.ishr, 1) := by decide +kernel
theorem dX2_placeToAsk_28 : decode cX2_placeToAsk 28 = .ok (.iconst 1, 1) := by decide +kernel
theorem dX2_placeToAsk_29 : decode cX2_placeToAsk 29 = .ok (.iand, 1) := by decide +kernel
theorem dX2_placeToAsk_30 : decode cX2_placeToAsk 30 = .ok (.ifCond .eq 33, 3) := by decide +kernel
theorem dX2_placeToAsk_33 : decode cX2_placeToAsk 33 = .ok (.aload_n 0, 1) := by decide +kernel
theorem dX2_placeToAsk_34 : decode cX2_placeToAsk 34 = .ok (.aload_n 1, 1) := by decide +kernel
theorem dX2_placeToAsk_35 : decode cX2_placeToAsk 35 = .ok (.iload 5, 2) := by decide +kernel
theorem dX2_placeToAsk_37 : decode cX2_placeToAsk 37 = .ok (.iconst 0, 1) := by decide +kernel
theorem dX2_placeToAsk_38 : decode cX2_placeToAsk 38 = .ok (.iconst 0, 1) := by decide +kernel
theorem dX2_placeToAsk_39 : decode cX2_placeToAsk 39 = .ok (.invokevirtual 32, 3) := by decide +kernel
theorem dX2_placeToAsk_42 : decode cX2_placeToAsk 42 = .ok (.istore 6, 2) := by decide +kernel
theorem dX2_placeToAsk_44 : decode cX2_placeToAsk 44 = .ok (.iload_n 3, 1) := by decide +kernel
theorem dX2_placeToAsk_45 : decode cX2_placeToAsk 45 = .ok (.iconst (-1), 1) := by decide +kernel
theorem dX2_placeToAsk_46 : decode cX2_placeToAsk 46 = .ok (.if_icmp .eq 10, 3) := by decide +kernel
theorem dX2_placeToAsk_49 : decode cX2_placeToAsk 49 = .ok (.iload 6, 2) := by decide +kernel
theorem dX2_placeToAsk_51 : decode cX2_placeToAsk 51 = .ok (.iload 4, 2) := by decide +kernel
theorem dX2_placeToAsk_53 : decode cX2_placeToAsk 53 = .ok (.if_icmp .ge 10, 3) := by decide +kernel
theorem dX2_placeToAsk_56 : decode cX2_placeToAsk 56 = .ok (.iload 5, 2) := by decide +kernel
theorem dX2_placeToAsk_58 : decode cX2_placeToAsk 58 = .ok (.istore_n 3, 1) := by decide +kernel
theorem dX2_placeToAsk_59 : decode cX2_placeToAsk 59 = .ok (.iload 6, 2) := by decide +kernel
theorem dX2_placeToAsk_61 : decode cX2_placeToAsk 61 = .ok (.istore 4, 2) := by decide +kernel
theorem dX2_placeToAsk_63 : decode cX2_placeToAsk 63 = .ok (.iinc 5 1, 3) := by decide +kernel
theorem dX2_placeToAsk_66 : decode cX2_placeToAsk 66 = .ok (.goto (-48), 3) := by decide +kernel
theorem dX2_placeToAsk_69 : decode cX2_placeToAsk 69 = .ok (.iload_n 3, 1) := by decide +kernel
theorem dX2_placeToAsk_70 : decode cX2_placeToAsk 70 = .ok (.ireturn, 1) := by decide +kernel
theorem dX2_startFrom_0 : decode cX2_startFrom 0 = .ok (.iconst 1, 1) := by decide +kernel
theorem dX2_startFrom_1 : decode cX2_startFrom 1 = .ok (.istore_n 2, 1) := by decide +kernel
theorem dX2_startFrom_2 : decode cX2_startFrom 2 = .ok (.iconst 0, 1) := by decide +kernel
theorem dX2_startFrom_3 : decode cX2_startFrom 3 = .ok (.istore_n 3, 1) := by decide +kernel
theorem dX2_startFrom_4 : decode cX2_startFrom 4 = .ok (.iload_n 3, 1) := by decide +kernel
theorem dX2_startFrom_5 : decode cX2_startFrom 5 = .ok (.iconst 5, 1) := by decide +kernel
theorem dX2_startFrom_6 : decode cX2_startFrom 6 = .ok (.if_icmp .ge 51, 3) := by decide +kernel
theorem dX2_startFrom_9 : decode cX2_startFrom 9 = .ok (.aload_n 0, 1) := by decide +kernel
theorem dX2_startFrom_10 : decode cX2_startFrom 10 = .ok (.getfield 15, 3) := by decide +kernel
theorem dX2_startFrom_13 : decode cX2_startFrom 13 = .ok (.iload_n 3, 1) := by decide +kernel
theorem dX2_startFrom_14 : decode cX2_startFrom 14 = .ok (.iload_n 2, 1) := by decide +kernel
theorem dX2_startFrom_15 : decode cX2_startFrom 15 = .ok (.iastore, 1) := by decide +kernel
theorem dX2_startFrom_16 : decode cX2_startFrom 16 = .ok (.aload_n 1, 1) := by decide +kernel
theorem dX2_startFrom_17 : decode cX2_startFrom 17 = .ok (.iload_n 3, 1) := by decide +kernel
theorem dX2_startFrom_18 : decode cX2_startFrom 18 = .ok (.invokevirtual 36, 3) := by decide +kernel
theorem dX2_startFrom_21 : decode cX2_startFrom 21 = .ok (.ifCond .eq 30, 3) := by decide +kernel
theorem dX2_startFrom_24 : decode cX2_startFrom 24 = .ok (.aload_n 1, 1) := by decide +kernel
theorem dX2_startFrom_25 : decode cX2_startFrom 25 = .ok (.iload_n 3, 1) := by decide +kernel
theorem dX2_startFrom_26 : decode cX2_startFrom 26 = .ok (.invokevirtual 40, 3) := by decide +kernel
theorem dX2_startFrom_29 : decode cX2_startFrom 29 = .ok (.ifCond .ne 22, 3) := by decide +kernel
theorem dX2_startFrom_32 : decode cX2_startFrom 32 = .ok (.aload_n 1, 1) := by decide +kernel
theorem dX2_startFrom_33 : decode cX2_startFrom 33 = .ok (.iload_n 3, 1) := by decide +kernel
theorem dX2_startFrom_34 : decode cX2_startFrom 34 = .ok (.invokevirtual 43, 3) := by decide +kernel
theorem dX2_startFrom_37 : decode cX2_startFrom 37 = .ok (.iconst (-1), 1) := by decide +kernel
theorem dX2_startFrom_38 : decode cX2_startFrom 38 = .ok (.if_icmp .ne 13, 3) := by decide +kernel
theorem dX2_startFrom_41 : decode cX2_startFrom 41 = .ok (.iload_n 2, 1) := by decide +kernel
theorem dX2_startFrom_42 : decode cX2_startFrom 42 = .ok (.aload_n 1, 1) := by decide +kernel
theorem dX2_startFrom_43 : decode cX2_startFrom 43 = .ok (.iload_n 3, 1) := by decide +kernel
theorem dX2_startFrom_44 : decode cX2_startFrom 44 = .ok (.invokevirtual 47, 3) := by decide +kernel
theorem dX2_startFrom_47 : decode cX2_startFrom 47 = .ok (.iconst 1, 1) := by decide +kernel
theorem dX2_startFrom_48 : decode cX2_startFrom 48 = .ok (.iadd, 1) := by decide +kernel
theorem dX2_startFrom_49 : decode cX2_startFrom 49 = .ok (.imul, 1) := by decide +kernel
theorem dX2_startFrom_50 : decode cX2_startFrom 50 = .ok (.istore_n 2, 1) := by decide +kernel
theorem dX2_startFrom_51 : decode cX2_startFrom 51 = .ok (.iinc 3 1, 3) := by decide +kernel
theorem dX2_startFrom_54 : decode cX2_startFrom 54 = .ok (.goto (-50), 3) := by decide +kernel
theorem dX2_startFrom_57 : decode cX2_startFrom 57 = .ok (.iconst 0, 1) := by decide +kernel
theorem dX2_startFrom_58 : decode cX2_startFrom 58 = .ok (.istore_n 3, 1) := by decide +kernel
theorem dX2_startFrom_59 : decode cX2_startFrom 59 = .ok (.iload_n 3, 1) := by decide +kernel
theorem dX2_startFrom_60 : decode cX2_startFrom 60 = .ok (.iload_n 2, 1) := by decide +kernel
theorem dX2_startFrom_61 : decode cX2_startFrom 61 = .ok (.if_icmp .ge 23, 3) := by decide +kernel
theorem dX2_startFrom_64 : decode cX2_startFrom 64 = .ok (.iload_n 3, 1) := by decide +kernel
theorem dX2_startFrom_65 : decode cX2_startFrom 65 = .ok (.sipush 3125, 3) := by decide +kernel
theorem dX2_startFrom_68 : decode cX2_startFrom 68 = .ok (.if_icmp .ge 16, 3) := by decide +kernel
theorem dX2_startFrom_71 : decode cX2_startFrom 71 = .ok (.aload_n 0, 1) := by decide +kernel
theorem dX2_startFrom_72 : decode cX2_startFrom 72 = .ok (.getfield 11, 3) := by decide +kernel
theorem dX2_startFrom_75 : decode cX2_startFrom 75 = .ok (.iload_n 3, 1) := by decide +kernel
theorem dX2_startFrom_76 : decode cX2_startFrom 76 = .ok (.iconst (-1), 1) := by decide +kernel
theorem dX2_startFrom_77 : decode cX2_startFrom 77 = .ok (.iastore, 1) := by decide +kernel
theorem dX2_startFrom_78 : decode cX2_startFrom 78 = .ok (.iinc 3 1, 3) := by decide +kernel
theorem dX2_startFrom_81 : decode cX2_startFrom 81 = .ok (.goto (-22), 3) := by decide +kernel
theorem dX2_startFrom_84 : decode cX2_startFrom 84 = .ok (.return_, 1) := by decide +kernel
theorem dX2_fewest_0 : decode cX2_fewest 0 = .ok (.iload_n 2, 1) := by decide +kernel
theorem dX2_fewest_1 : decode cX2_fewest 1 = .ok (.ifCond .lt 10, 3) := by decide +kernel
theorem dX2_fewest_4 : decode cX2_fewest 4 = .ok (.iload_n 2, 1) := by decide +kernel
theorem dX2_fewest_5 : decode cX2_fewest 5 = .ok (.sipush 3125, 3) := by decide +kernel
theorem dX2_fewest_8 : decode cX2_fewest 8 = .ok (.if_icmp .lt 6, 3) := by decide +kernel
theorem dX2_fewest_11 : decode cX2_fewest 11 = .ok (.bipush 100, 2) := by decide +kernel
theorem dX2_fewest_13 : decode cX2_fewest 13 = .ok (.ireturn, 1) := by decide +kernel
theorem dX2_fewest_14 : decode cX2_fewest 14 = .ok (.aload_n 0, 1) := by decide +kernel
theorem dX2_fewest_15 : decode cX2_fewest 15 = .ok (.getfield 11, 3) := by decide +kernel
theorem dX2_fewest_18 : decode cX2_fewest 18 = .ok (.iload_n 2, 1) := by decide +kernel
theorem dX2_fewest_19 : decode cX2_fewest 19 = .ok (.iaload, 1) := by decide +kernel
theorem dX2_fewest_20 : decode cX2_fewest 20 = .ok (.iconst (-1), 1) := by decide +kernel
theorem dX2_fewest_21 : decode cX2_fewest 21 = .ok (.if_icmp .eq 10, 3) := by decide +kernel
theorem dX2_fewest_24 : decode cX2_fewest 24 = .ok (.aload_n 0, 1) := by decide +kernel
theorem dX2_fewest_25 : decode cX2_fewest 25 = .ok (.getfield 11, 3) := by decide +kernel
theorem dX2_fewest_28 : decode cX2_fewest 28 = .ok (.iload_n 2, 1) := by decide +kernel
theorem dX2_fewest_29 : decode cX2_fewest 29 = .ok (.iaload, 1) := by decide +kernel
theorem dX2_fewest_30 : decode cX2_fewest 30 = .ok (.ireturn, 1) := by decide +kernel
theorem dX2_fewest_31 : decode cX2_fewest 31 = .ok (.aload_n 1, 1) := by decide +kernel
theorem dX2_fewest_32 : decode cX2_fewest 32 = .ok (.invokevirtual 26, 3) := by decide +kernel
theorem dX2_fewest_35 : decode cX2_fewest 35 = .ok (.istore 4, 2) := by decide +kernel
theorem dX2_fewest_37 : decode cX2_fewest 37 = .ok (.iload 4, 2) := by decide +kernel
theorem dX2_fewest_39 : decode cX2_fewest 39 = .ok (.invokestatic 50, 3) := by decide +kernel
theorem dX2_fewest_42 : decode cX2_fewest 42 = .ok (.istore 5, 2) := by decide +kernel
theorem dX2_fewest_44 : decode cX2_fewest 44 = .ok (.iload 5, 2) := by decide +kernel
theorem dX2_fewest_46 : decode cX2_fewest 46 = .ok (.ifCond .ne 7, 3) := by decide +kernel
theorem dX2_fewest_49 : decode cX2_fewest 49 = .ok (.iconst 0, 1) := by decide +kernel
theorem dX2_fewest_50 : decode cX2_fewest 50 = .ok (.goto 5, 3) := by decide +kernel
theorem dX2_fewest_53 : decode cX2_fewest 53 = .ok (.bipush 100, 2) := by decide +kernel
theorem dX2_fewest_55 : decode cX2_fewest 55 = .ok (.istore 6, 2) := by decide +kernel
theorem dX2_fewest_57 : decode cX2_fewest 57 = .ok (.iconst 0, 1) := by decide +kernel
theorem dX2_fewest_58 : decode cX2_fewest 58 = .ok (.istore 7, 2) := by decide +kernel
theorem dX2_fewest_60 : decode cX2_fewest 60 = .ok (.iload 7, 2) := by decide +kernel
theorem dX2_fewest_62 : decode cX2_fewest 62 = .ok (.iconst 5, 1) := by decide +kernel
theorem dX2_fewest_63 : decode cX2_fewest 63 = .ok (.if_icmp .ge 42, 3) := by decide +kernel
theorem dX2_fewest_66 : decode cX2_fewest 66 = .ok (.iload 6, 2) := by decide +kernel
theorem dX2_fewest_68 : decode cX2_fewest 68 = .ok (.iload 5, 2) := by decide +kernel
theorem dX2_fewest_70 : decode cX2_fewest 70 = .ok (.if_icmp .le 35, 3) := by decide +kernel
theorem dX2_fewest_73 : decode cX2_fewest 73 = .ok (.iload 4, 2) := by decide +kernel
theorem dX2_fewest_75 : decode cX2_fewest 75 = .ok (.iload 7, 2) := by decide +kernel
theorem dX2_fewest_77 : decode cX2_fewest 77 = .ok (.ishr, 1) := by decide +kernel
theorem dX2_fewest_78 : decode cX2_fewest 78 = .ok (.iconst 1, 1) := by decide +kernel
theorem dX2_fewest_79 : decode cX2_fewest 79 = .ok (.iand, 1) := by decide +kernel
theorem dX2_fewest_80 : decode cX2_fewest 80 = .ok (.ifCond .eq 19, 3) := by decide +kernel
theorem dX2_fewest_83 : decode cX2_fewest 83 = .ok (.iload 6, 2) := by decide +kernel
theorem dX2_fewest_85 : decode cX2_fewest 85 = .ok (.aload_n 0, 1) := by decide +kernel
theorem dX2_fewest_86 : decode cX2_fewest 86 = .ok (.aload_n 1, 1) := by decide +kernel
theorem dX2_fewest_87 : decode cX2_fewest 87 = .ok (.iload 7, 2) := by decide +kernel
theorem dX2_fewest_89 : decode cX2_fewest 89 = .ok (.iload_n 2, 1) := by decide +kernel
theorem dX2_fewest_90 : decode cX2_fewest 90 = .ok (.iload_n 3, 1) := by decide +kernel
theorem dX2_fewest_91 : decode cX2_fewest 91 = .ok (.invokevirtual 32, 3) := by decide +kernel
theorem dX2_fewest_94 : decode cX2_fewest 94 = .ok (.invokestatic 55, 3) := by decide +kernel
theorem dX2_fewest_97 : decode cX2_fewest 97 = .ok (.istore 6, 2) := by decide +kernel
theorem dX2_fewest_99 : decode cX2_fewest 99 = .ok (.iinc 7 1, 3) := by decide +kernel
theorem dX2_fewest_102 : decode cX2_fewest 102 = .ok (.goto (-42), 3) := by decide +kernel
theorem dX2_fewest_105 : decode cX2_fewest 105 = .ok (.aload_n 0, 1) := by decide +kernel
theorem dX2_fewest_106 : decode cX2_fewest 106 = .ok (.getfield 11, 3) := by decide +kernel
theorem dX2_fewest_109 : decode cX2_fewest 109 = .ok (.iload_n 2, 1) := by decide +kernel
theorem dX2_fewest_110 : decode cX2_fewest 110 = .ok (.iload 6, 2) := by decide +kernel
theorem dX2_fewest_112 : decode cX2_fewest 112 = .ok (.iastore, 1) := by decide +kernel
theorem dX2_fewest_113 : decode cX2_fewest 113 = .ok (.iload 6, 2) := by decide +kernel
theorem dX2_fewest_115 : decode cX2_fewest 115 = .ok (.ireturn, 1) := by decide +kernel
theorem dX2_fewestBy_0 : decode cX2_fewestBy 0 = .ok (.iload 4, 2) := by decide +kernel
theorem dX2_fewestBy_2 : decode cX2_fewestBy 2 = .ok (.iconst 5, 1) := by decide +kernel
theorem dX2_fewestBy_3 : decode cX2_fewestBy 3 = .ok (.if_icmp .ge 12, 3) := by decide +kernel
theorem dX2_fewestBy_6 : decode cX2_fewestBy 6 = .ok (.iload_n 2, 1) := by decide +kernel
theorem dX2_fewestBy_7 : decode cX2_fewestBy 7 = .ok (.ifCond .lt 8, 3) := by decide +kernel
theorem dX2_fewestBy_10 : decode cX2_fewestBy 10 = .ok (.iload_n 2, 1) := by decide +kernel
theorem dX2_fewestBy_11 : decode cX2_fewestBy 11 = .ok (.iconst 5, 1) := by decide +kernel
theorem dX2_fewestBy_12 : decode cX2_fewestBy 12 = .ok (.if_icmp .lt 6, 3) := by decide +kernel
theorem dX2_fewestBy_15 : decode cX2_fewestBy 15 = .ok (.bipush 100, 2) := by decide +kernel
theorem dX2_fewestBy_17 : decode cX2_fewestBy 17 = .ok (.ireturn, 1) := by decide +kernel
theorem dX2_fewestBy_18 : decode cX2_fewestBy 18 = .ok (.aload_n 1, 1) := by decide +kernel
theorem dX2_fewestBy_19 : decode cX2_fewestBy 19 = .ok (.iload_n 2, 1) := by decide +kernel
theorem dX2_fewestBy_20 : decode cX2_fewestBy 20 = .ok (.invokevirtual 61, 3) := by decide +kernel
theorem dX2_fewestBy_23 : decode cX2_fewestBy 23 = .ok (.istore 5, 2) := by decide +kernel
theorem dX2_fewestBy_25 : decode cX2_fewestBy 25 = .ok (.iconst (-1), 1) := by decide +kernel
theorem dX2_fewestBy_26 : decode cX2_fewestBy 26 = .ok (.istore 6, 2) := by decide +kernel
theorem dX2_fewestBy_28 : decode cX2_fewestBy 28 = .ok (.iconst 0, 1) := by decide +kernel
theorem dX2_fewestBy_29 : decode cX2_fewestBy 29 = .ok (.istore 7, 2) := by decide +kernel
theorem dX2_fewestBy_31 : decode cX2_fewestBy 31 = .ok (.iload 7, 2) := by decide +kernel
theorem dX2_fewestBy_33 : decode cX2_fewestBy 33 = .ok (.aload_n 1, 1) := by decide +kernel
theorem dX2_fewestBy_34 : decode cX2_fewestBy 34 = .ok (.iload_n 2, 1) := by decide +kernel
theorem dX2_fewestBy_35 : decode cX2_fewestBy 35 = .ok (.invokevirtual 47, 3) := by decide +kernel
theorem dX2_fewestBy_38 : decode cX2_fewestBy 38 = .ok (.if_icmp .ge 68, 3) := by decide +kernel
theorem dX2_fewestBy_41 : decode cX2_fewestBy 41 = .ok (.iload 6, 2) := by decide +kernel
theorem dX2_fewestBy_43 : decode cX2_fewestBy 43 = .ok (.bipush 100, 2) := by decide +kernel
theorem dX2_fewestBy_45 : decode cX2_fewestBy 45 = .ok (.if_icmp .ge 61, 3) := by decide +kernel
theorem dX2_fewestBy_48 : decode cX2_fewestBy 48 = .ok (.aload_n 1, 1) := by decide +kernel
theorem dX2_fewestBy_49 : decode cX2_fewestBy 49 = .ok (.iload_n 2, 1) := by decide +kernel
theorem dX2_fewestBy_50 : decode cX2_fewestBy 50 = .ok (.iconst 1, 1) := by decide +kernel
theorem dX2_fewestBy_51 : decode cX2_fewestBy 51 = .ok (.iload 7, 2) := by decide +kernel
theorem dX2_fewestBy_53 : decode cX2_fewestBy 53 = .ok (.ishl, 1) := by decide +kernel
theorem dX2_fewestBy_54 : decode cX2_fewestBy 54 = .ok (.iload 7, 2) := by decide +kernel
theorem dX2_fewestBy_56 : decode cX2_fewestBy 56 = .ok (.invokevirtual 64, 3) := by decide +kernel
theorem dX2_fewestBy_59 : decode cX2_fewestBy 59 = .ok (.aload_n 1, 1) := by decide +kernel
theorem dX2_fewestBy_60 : decode cX2_fewestBy 60 = .ok (.invokevirtual 68, 3) := by decide +kernel
theorem dX2_fewestBy_63 : decode cX2_fewestBy 63 = .ok (.iconst (-1), 1) := by decide +kernel
theorem dX2_fewestBy_64 : decode cX2_fewestBy 64 = .ok (.if_icmp .ne 36, 3) := by decide +kernel
theorem dX2_fewestBy_67 : decode cX2_fewestBy 67 = .ok (.aload_n 0, 1) := by decide +kernel
theorem dX2_fewestBy_68 : decode cX2_fewestBy 68 = .ok (.aload_n 1, 1) := by decide +kernel
theorem dX2_fewestBy_69 : decode cX2_fewestBy 69 = .ok (.iload_n 3, 1) := by decide +kernel
theorem dX2_fewestBy_70 : decode cX2_fewestBy 70 = .ok (.aload_n 0, 1) := by decide +kernel
theorem dX2_fewestBy_71 : decode cX2_fewestBy 71 = .ok (.getfield 15, 3) := by decide +kernel
theorem dX2_fewestBy_74 : decode cX2_fewestBy 74 = .ok (.iload_n 2, 1) := by decide +kernel
theorem dX2_fewestBy_75 : decode cX2_fewestBy 75 = .ok (.iaload, 1) := by decide +kernel
theorem dX2_fewestBy_76 : decode cX2_fewestBy 76 = .ok (.iload 7, 2) := by decide +kernel
theorem dX2_fewestBy_78 : decode cX2_fewestBy 78 = .ok (.iconst 1, 1) := by decide +kernel
theorem dX2_fewestBy_79 : decode cX2_fewestBy 79 = .ok (.iadd, 1) := by decide +kernel
theorem dX2_fewestBy_80 : decode cX2_fewestBy 80 = .ok (.imul, 1) := by decide +kernel
theorem dX2_fewestBy_81 : decode cX2_fewestBy 81 = .ok (.iadd, 1) := by decide +kernel
theorem dX2_fewestBy_82 : decode cX2_fewestBy 82 = .ok (.iload 4, 2) := by decide +kernel
theorem dX2_fewestBy_84 : decode cX2_fewestBy 84 = .ok (.iconst 1, 1) := by decide +kernel
theorem dX2_fewestBy_85 : decode cX2_fewestBy 85 = .ok (.iadd, 1) := by decide +kernel
theorem dX2_fewestBy_86 : decode cX2_fewestBy 86 = .ok (.invokevirtual 22, 3) := by decide +kernel
theorem dX2_fewestBy_89 : decode cX2_fewestBy 89 = .ok (.istore 8, 2) := by decide +kernel
theorem dX2_fewestBy_91 : decode cX2_fewestBy 91 = .ok (.iload 6, 2) := by decide +kernel
theorem dX2_fewestBy_93 : decode cX2_fewestBy 93 = .ok (.iload 8, 2) := by decide +kernel
theorem dX2_fewestBy_95 : decode cX2_fewestBy 95 = .ok (.invokestatic 71, 3) := by decide +kernel
theorem dX2_fewestBy_98 : decode cX2_fewestBy 98 = .ok (.istore 6, 2) := by decide +kernel
theorem dX2_fewestBy_100 : decode cX2_fewestBy 100 = .ok (.iinc 7 1, 3) := by decide +kernel
theorem dX2_fewestBy_103 : decode cX2_fewestBy 103 = .ok (.goto (-72), 3) := by decide +kernel
theorem dX2_fewestBy_106 : decode cX2_fewestBy 106 = .ok (.aload_n 1, 1) := by decide +kernel
theorem dX2_fewestBy_107 : decode cX2_fewestBy 107 = .ok (.iload_n 2, 1) := by decide +kernel
theorem dX2_fewestBy_108 : decode cX2_fewestBy 108 = .ok (.iload 5, 2) := by decide +kernel
theorem dX2_fewestBy_110 : decode cX2_fewestBy 110 = .ok (.iconst (-1), 1) := by decide +kernel
theorem dX2_fewestBy_111 : decode cX2_fewestBy 111 = .ok (.invokevirtual 64, 3) := by decide +kernel
theorem dX2_fewestBy_114 : decode cX2_fewestBy 114 = .ok (.iload 6, 2) := by decide +kernel
theorem dX2_fewestBy_116 : decode cX2_fewestBy 116 = .ok (.iconst (-1), 1) := by decide +kernel
theorem dX2_fewestBy_117 : decode cX2_fewestBy 117 = .ok (.if_icmp .ne 8, 3) := by decide +kernel
theorem dX2_fewestBy_120 : decode cX2_fewestBy 120 = .ok (.bipush 100, 2) := by decide +kernel
theorem dX2_fewestBy_122 : decode cX2_fewestBy 122 = .ok (.goto 12, 3) := by decide +kernel
theorem dX2_fewestBy_125 : decode cX2_fewestBy 125 = .ok (.bipush 100, 2) := by decide +kernel
theorem dX2_fewestBy_127 : decode cX2_fewestBy 127 = .ok (.iload 6, 2) := by decide +kernel
theorem dX2_fewestBy_129 : decode cX2_fewestBy 129 = .ok (.iconst 1, 1) := by decide +kernel
theorem dX2_fewestBy_130 : decode cX2_fewestBy 130 = .ok (.iadd, 1) := by decide +kernel
theorem dX2_fewestBy_131 : decode cX2_fewestBy 131 = .ok (.invokestatic 55, 3) := by decide +kernel
theorem dX2_fewestBy_134 : decode cX2_fewestBy 134 = .ok (.ireturn, 1) := by decide +kernel
theorem dJ6_bitCount_0f7a4_0 : decode cJ6_bitCount_0f7a4 0 = .ok (.iload_n 0, 1) := by decide +kernel
theorem dJ6_bitCount_0f7a4_1 : decode cJ6_bitCount_0f7a4 1 = .ok (.iload_n 0, 1) := by decide +kernel
theorem dJ6_bitCount_0f7a4_2 : decode cJ6_bitCount_0f7a4 2 = .ok (.iconst 1, 1) := by decide +kernel
theorem dJ6_bitCount_0f7a4_3 : decode cJ6_bitCount_0f7a4 3 = .ok (.iushr, 1) := by decide +kernel
theorem dJ6_bitCount_0f7a4_4 : decode cJ6_bitCount_0f7a4 4 = .ok (.ldc_w 265, 3) := by decide +kernel
theorem dJ6_bitCount_0f7a4_7 : decode cJ6_bitCount_0f7a4 7 = .ok (.iand, 1) := by decide +kernel
theorem dJ6_bitCount_0f7a4_8 : decode cJ6_bitCount_0f7a4 8 = .ok (.isub, 1) := by decide +kernel
theorem dJ6_bitCount_0f7a4_9 : decode cJ6_bitCount_0f7a4 9 = .ok (.istore_n 0, 1) := by decide +kernel
theorem dJ6_bitCount_0f7a4_10 : decode cJ6_bitCount_0f7a4 10 = .ok (.iload_n 0, 1) := by decide +kernel
theorem dJ6_bitCount_0f7a4_11 : decode cJ6_bitCount_0f7a4 11 = .ok (.ldc_w 266, 3) := by decide +kernel
theorem dJ6_bitCount_0f7a4_14 : decode cJ6_bitCount_0f7a4 14 = .ok (.iand, 1) := by decide +kernel
theorem dJ6_bitCount_0f7a4_15 : decode cJ6_bitCount_0f7a4 15 = .ok (.iload_n 0, 1) := by decide +kernel
theorem dJ6_bitCount_0f7a4_16 : decode cJ6_bitCount_0f7a4 16 = .ok (.iconst 2, 1) := by decide +kernel
theorem dJ6_bitCount_0f7a4_17 : decode cJ6_bitCount_0f7a4 17 = .ok (.iushr, 1) := by decide +kernel
theorem dJ6_bitCount_0f7a4_18 : decode cJ6_bitCount_0f7a4 18 = .ok (.ldc_w 266, 3) := by decide +kernel
theorem dJ6_bitCount_0f7a4_21 : decode cJ6_bitCount_0f7a4 21 = .ok (.iand, 1) := by decide +kernel
theorem dJ6_bitCount_0f7a4_22 : decode cJ6_bitCount_0f7a4 22 = .ok (.iadd, 1) := by decide +kernel
theorem dJ6_bitCount_0f7a4_23 : decode cJ6_bitCount_0f7a4 23 = .ok (.istore_n 0, 1) := by decide +kernel
theorem dJ6_bitCount_0f7a4_24 : decode cJ6_bitCount_0f7a4 24 = .ok (.iload_n 0, 1) := by decide +kernel
theorem dJ6_bitCount_0f7a4_25 : decode cJ6_bitCount_0f7a4 25 = .ok (.iload_n 0, 1) := by decide +kernel
theorem dJ6_bitCount_0f7a4_26 : decode cJ6_bitCount_0f7a4 26 = .ok (.iconst 4, 1) := by decide +kernel
theorem dJ6_bitCount_0f7a4_27 : decode cJ6_bitCount_0f7a4 27 = .ok (.iushr, 1) := by decide +kernel
theorem dJ6_bitCount_0f7a4_28 : decode cJ6_bitCount_0f7a4 28 = .ok (.iadd, 1) := by decide +kernel
theorem dJ6_bitCount_0f7a4_29 : decode cJ6_bitCount_0f7a4 29 = .ok (.ldc_w 267, 3) := by decide +kernel
theorem dJ6_bitCount_0f7a4_32 : decode cJ6_bitCount_0f7a4 32 = .ok (.iand, 1) := by decide +kernel
theorem dJ6_bitCount_0f7a4_33 : decode cJ6_bitCount_0f7a4 33 = .ok (.istore_n 0, 1) := by decide +kernel
theorem dJ6_bitCount_0f7a4_34 : decode cJ6_bitCount_0f7a4 34 = .ok (.iload_n 0, 1) := by decide +kernel
theorem dJ6_bitCount_0f7a4_35 : decode cJ6_bitCount_0f7a4 35 = .ok (.iload_n 0, 1) := by decide +kernel
theorem dJ6_bitCount_0f7a4_36 : decode cJ6_bitCount_0f7a4 36 = .ok (.bipush 8, 2) := by decide +kernel
theorem dJ6_bitCount_0f7a4_38 : decode cJ6_bitCount_0f7a4 38 = .ok (.iushr, 1) := by decide +kernel
theorem dJ6_bitCount_0f7a4_39 : decode cJ6_bitCount_0f7a4 39 = .ok (.iadd, 1) := by decide +kernel
theorem dJ6_bitCount_0f7a4_40 : decode cJ6_bitCount_0f7a4 40 = .ok (.istore_n 0, 1) := by decide +kernel
theorem dJ6_bitCount_0f7a4_41 : decode cJ6_bitCount_0f7a4 41 = .ok (.iload_n 0, 1) := by decide +kernel
theorem dJ6_bitCount_0f7a4_42 : decode cJ6_bitCount_0f7a4 42 = .ok (.iload_n 0, 1) := by decide +kernel
theorem dJ6_bitCount_0f7a4_43 : decode cJ6_bitCount_0f7a4 43 = .ok (.bipush 16, 2) := by decide +kernel
theorem dJ6_bitCount_0f7a4_45 : decode cJ6_bitCount_0f7a4 45 = .ok (.iushr, 1) := by decide +kernel
theorem dJ6_bitCount_0f7a4_46 : decode cJ6_bitCount_0f7a4 46 = .ok (.iadd, 1) := by decide +kernel
theorem dJ6_bitCount_0f7a4_47 : decode cJ6_bitCount_0f7a4 47 = .ok (.istore_n 0, 1) := by decide +kernel
theorem dJ6_bitCount_0f7a4_48 : decode cJ6_bitCount_0f7a4 48 = .ok (.iload_n 0, 1) := by decide +kernel
theorem dJ6_bitCount_0f7a4_49 : decode cJ6_bitCount_0f7a4 49 = .ok (.bipush 63, 2) := by decide +kernel
theorem dJ6_bitCount_0f7a4_51 : decode cJ6_bitCount_0f7a4 51 = .ok (.iand, 1) := by decide +kernel
theorem dJ6_bitCount_0f7a4_52 : decode cJ6_bitCount_0f7a4 52 = .ok (.ireturn, 1) := by decide +kernel
theorem dJ9_max_7cf53_0 : decode cJ9_max_7cf53 0 = .ok (.iload_n 0, 1) := by decide +kernel
theorem dJ9_max_7cf53_1 : decode cJ9_max_7cf53 1 = .ok (.iload_n 1, 1) := by decide +kernel
theorem dJ9_max_7cf53_2 : decode cJ9_max_7cf53 2 = .ok (.if_icmp .lt 7, 3) := by decide +kernel
theorem dJ9_max_7cf53_5 : decode cJ9_max_7cf53 5 = .ok (.iload_n 0, 1) := by decide +kernel
theorem dJ9_max_7cf53_6 : decode cJ9_max_7cf53 6 = .ok (.goto 4, 3) := by decide +kernel
theorem dJ9_max_7cf53_9 : decode cJ9_max_7cf53 9 = .ok (.iload_n 1, 1) := by decide +kernel
theorem dJ9_max_7cf53_10 : decode cJ9_max_7cf53 10 = .ok (.ireturn, 1) := by decide +kernel
theorem dJ9_min_7cf53_0 : decode cJ9_min_7cf53 0 = .ok (.iload_n 0, 1) := by decide +kernel
theorem dJ9_min_7cf53_1 : decode cJ9_min_7cf53 1 = .ok (.iload_n 1, 1) := by decide +kernel
theorem dJ9_min_7cf53_2 : decode cJ9_min_7cf53 2 = .ok (.if_icmp .gt 7, 3) := by decide +kernel
theorem dJ9_min_7cf53_5 : decode cJ9_min_7cf53 5 = .ok (.iload_n 0, 1) := by decide +kernel
theorem dJ9_min_7cf53_6 : decode cJ9_min_7cf53 6 = .ok (.goto 4, 3) := by decide +kernel
theorem dJ9_min_7cf53_9 : decode cJ9_min_7cf53 9 = .ok (.iload_n 1, 1) := by decide +kernel
theorem dJ9_min_7cf53_10 : decode cJ9_min_7cf53 10 = .ok (.ireturn, 1) := by decide +kernel
theorem dJ7_fill_53178_0 : decode cJ7_fill_53178 0 = .ok (.iconst 0, 1) := by decide +kernel
theorem dJ7_fill_53178_1 : decode cJ7_fill_53178 1 = .ok (.istore_n 2, 1) := by decide +kernel
theorem dJ7_fill_53178_2 : decode cJ7_fill_53178 2 = .ok (.aload_n 0, 1) := by decide +kernel
theorem dJ7_fill_53178_3 : decode cJ7_fill_53178 3 = .ok (.arraylength, 1) := by decide +kernel
theorem dJ7_fill_53178_4 : decode cJ7_fill_53178 4 = .ok (.istore_n 3, 1) := by decide +kernel
theorem dJ7_fill_53178_5 : decode cJ7_fill_53178 5 = .ok (.iload_n 2, 1) := by decide +kernel
theorem dJ7_fill_53178_6 : decode cJ7_fill_53178 6 = .ok (.iload_n 3, 1) := by decide +kernel
theorem dJ7_fill_53178_7 : decode cJ7_fill_53178 7 = .ok (.if_icmp .ge 13, 3) := by decide +kernel
theorem dJ7_fill_53178_10 : decode cJ7_fill_53178 10 = .ok (.aload_n 0, 1) := by decide +kernel
theorem dJ7_fill_53178_11 : decode cJ7_fill_53178 11 = .ok (.iload_n 2, 1) := by decide +kernel
theorem dJ7_fill_53178_12 : decode cJ7_fill_53178 12 = .ok (.iload_n 1, 1) := by decide +kernel
theorem dJ7_fill_53178_13 : decode cJ7_fill_53178 13 = .ok (.iastore, 1) := by decide +kernel
theorem dJ7_fill_53178_14 : decode cJ7_fill_53178 14 = .ok (.iinc 2 1, 3) := by decide +kernel
theorem dJ7_fill_53178_17 : decode cJ7_fill_53178 17 = .ok (.goto (-12), 3) := by decide +kernel
theorem dJ7_fill_53178_20 : decode cJ7_fill_53178 20 = .ok (.return_, 1) := by decide +kernel
end
section
theorem dX3_init_0 : decode cX3_init 0 = .ok (.aload_n 0, 1) := by decide +kernel
theorem dX3_init_1 : decode cX3_init 1 = .ok (.invokespecial 5, 3) := by decide +kernel
theorem dX3_init_4 : decode cX3_init 4 = .ok (.aload_n 0, 1) := by decide +kernel
theorem dX3_init_5 : decode cX3_init 5 = .ok (.bipush 8, 2) := by decide +kernel
theorem dX3_init_7 : decode cX3_init 7 = .ok (.newarray .int, 2) := by decide +kernel
theorem dX3_init_9 : decode cX3_init 9 = .ok (.putfield 11, 3) := by decide +kernel
theorem dX3_init_12 : decode cX3_init 12 = .ok (.aload_n 0, 1) := by decide +kernel
theorem dX3_init_13 : decode cX3_init 13 = .ok (.iconst 0, 1) := by decide +kernel
theorem dX3_init_14 : decode cX3_init 14 = .ok (.putfield 15, 3) := by decide +kernel
theorem dX3_init_17 : decode cX3_init 17 = .ok (.aload_n 0, 1) := by decide +kernel
theorem dX3_init_18 : decode cX3_init 18 = .ok (.bipush 9, 2) := by decide +kernel
theorem dX3_init_20 : decode cX3_init 20 = .ok (.newarray .int, 2) := by decide +kernel
theorem dX3_init_22 : decode cX3_init 22 = .ok (.putfield 19, 3) := by decide +kernel
theorem dX3_init_25 : decode cX3_init 25 = .ok (.aload_n 0, 1) := by decide +kernel
theorem dX3_init_26 : decode cX3_init 26 = .ok (.bipush 9, 2) := by decide +kernel
theorem dX3_init_28 : decode cX3_init 28 = .ok (.newarray .int, 2) := by decide +kernel
theorem dX3_init_30 : decode cX3_init 30 = .ok (.putfield 22, 3) := by decide +kernel
theorem dX3_init_33 : decode cX3_init 33 = .ok (.aload_n 0, 1) := by decide +kernel
theorem dX3_init_34 : decode cX3_init 34 = .ok (.bipush 9, 2) := by decide +kernel
theorem dX3_init_36 : decode cX3_init 36 = .ok (.newarray .int, 2) := by decide +kernel
theorem dX3_init_38 : decode cX3_init 38 = .ok (.putfield 25, 3) := by decide +kernel
theorem dX3_init_41 : decode cX3_init 41 = .ok (.aload_n 0, 1) := by decide +kernel
theorem dX3_init_42 : decode cX3_init 42 = .ok (.bipush 9, 2) := by decide +kernel
theorem dX3_init_44 : decode cX3_init 44 = .ok (.newarray .boolean, 2) := by decide +kernel
theorem dX3_init_46 : decode cX3_init 46 = .ok (.putfield 28, 3) := by decide +kernel
theorem dX3_init_49 : decode cX3_init 49 = .ok (.aload_n 0, 1) := by decide +kernel
theorem dX3_init_50 : decode cX3_init 50 = .ok (.bipush 45, 2) := by decide +kernel
theorem dX3_init_52 : decode cX3_init 52 = .ok (.newarray .int, 2) := by decide +kernel
theorem dX3_init_54 : decode cX3_init 54 = .ok (.putfield 32, 3) := by decide +kernel
theorem dX3_init_57 : decode cX3_init 57 = .ok (.aload_n 0, 1) := by decide +kernel
theorem dX3_init_58 : decode cX3_init 58 = .ok (.iconst (-1), 1) := by decide +kernel
theorem dX3_init_59 : decode cX3_init 59 = .ok (.putfield 35, 3) := by decide +kernel
theorem dX3_init_62 : decode cX3_init 62 = .ok (.return_, 1) := by decide +kernel
theorem dX3_leastCost_0 : decode cX3_leastCost 0 = .ok (.aload_n 0, 1) := by decide +kernel
theorem dX3_leastCost_1 : decode cX3_leastCost 1 = .ok (.getfield 19, 3) := by decide +kernel
theorem dX3_leastCost_4 : decode cX3_leastCost 4 = .ok (.iconst 0, 1) := by decide +kernel
theorem dX3_leastCost_5 : decode cX3_leastCost 5 = .ok (.iaload, 1) := by decide +kernel
theorem dX3_leastCost_6 : decode cX3_leastCost 6 = .ok (.ireturn, 1) := by decide +kernel
theorem dX3_isHeard_0 : decode cX3_isHeard 0 = .ok (.aload_n 0, 1) := by decide +kernel
theorem dX3_isHeard_1 : decode cX3_isHeard 1 = .ok (.getfield 28, 3) := by decide +kernel
theorem dX3_isHeard_4 : decode cX3_isHeard 4 = .ok (.iconst 0, 1) := by decide +kernel
theorem dX3_isHeard_5 : decode cX3_isHeard 5 = .ok (.baload, 1) := by decide +kernel
theorem dX3_isHeard_6 : decode cX3_isHeard 6 = .ok (.ireturn, 1) := by decide +kernel
theorem dX3_mostPassed_0 : decode cX3_mostPassed 0 = .ok (.aload_n 0, 1) := by decide +kernel
theorem dX3_mostPassed_1 : decode cX3_mostPassed 1 = .ok (.getfield 25, 3) := by decide +kernel
theorem dX3_mostPassed_4 : decode cX3_mostPassed 4 = .ok (.iconst 0, 1) := by decide +kernel
theorem dX3_mostPassed_5 : decode cX3_mostPassed 5 = .ok (.iaload, 1) := by decide +kernel
theorem dX3_mostPassed_6 : decode cX3_mostPassed 6 = .ok (.ireturn, 1) := by decide +kernel
theorem dX3_leastReadings_0 : decode cX3_leastReadings 0 = .ok (.aload_n 0, 1) := by decide +kernel
theorem dX3_leastReadings_1 : decode cX3_leastReadings 1 = .ok (.getfield 22, 3) := by decide +kernel
theorem dX3_leastReadings_4 : decode cX3_leastReadings 4 = .ok (.iconst 0, 1) := by decide +kernel
theorem dX3_leastReadings_5 : decode cX3_leastReadings 5 = .ok (.iaload, 1) := by decide +kernel
theorem dX3_leastReadings_6 : decode cX3_leastReadings 6 = .ok (.ireturn, 1) := by decide +kernel
theorem dX3_answer_0 : decode cX3_answer 0 = .ok (.aload_n 0, 1) := by decide +kernel
theorem dX3_answer_1 : decode cX3_answer 1 = .ok (.getfield 35, 3) := by decide +kernel
theorem dX3_answer_4 : decode cX3_answer 4 = .ok (.ireturn, 1) := by decide +kernel
theorem dX3_valuesFor_0 : decode cX3_valuesFor 0 = .ok (.iload_n 1, 1) := by decide +kernel
theorem dX3_valuesFor_1 : decode cX3_valuesFor 1 = .ok (.ifCond .lt 20, 3) := by decide +kernel
theorem dX3_valuesFor_4 : decode cX3_valuesFor 4 = .ok (.iload_n 1, 1) := by decide +kernel
theorem dX3_valuesFor_5 : decode cX3_valuesFor 5 = .ok (.iconst 5, 1) := by decide +kernel
theorem dX3_valuesFor_6 : decode cX3_valuesFor 6 = .ok (.if_icmp .ge 15, 3) := by decide +kernel
theorem dX3_valuesFor_9 : decode cX3_valuesFor 9 = .ok (.aload_n 0, 1) := by decide +kernel
theorem dX3_valuesFor_10 : decode cX3_valuesFor 10 = .ok (.getfield 32, 3) := by decide +kernel
theorem dX3_valuesFor_13 : decode cX3_valuesFor 13 = .ok (.iload_n 1, 1) := by decide +kernel
theorem dX3_valuesFor_14 : decode cX3_valuesFor 14 = .ok (.iaload, 1) := by decide +kernel
theorem dX3_valuesFor_15 : decode cX3_valuesFor 15 = .ok (.bipush 15, 2) := by decide +kernel
theorem dX3_valuesFor_17 : decode cX3_valuesFor 17 = .ok (.iand, 1) := by decide +kernel
theorem dX3_valuesFor_18 : decode cX3_valuesFor 18 = .ok (.goto 4, 3) := by decide +kernel
theorem dX3_valuesFor_21 : decode cX3_valuesFor 21 = .ok (.iconst 0, 1) := by decide +kernel
theorem dX3_valuesFor_22 : decode cX3_valuesFor 22 = .ok (.ireturn, 1) := by decide +kernel
theorem dX3_mayLeave_0 : decode cX3_mayLeave 0 = .ok (.iload_n 1, 1) := by decide +kernel
theorem dX3_mayLeave_1 : decode cX3_mayLeave 1 = .ok (.ifCond .lt 24, 3) := by decide +kernel
theorem dX3_mayLeave_4 : decode cX3_mayLeave 4 = .ok (.iload_n 1, 1) := by decide +kernel
theorem dX3_mayLeave_5 : decode cX3_mayLeave 5 = .ok (.iconst 5, 1) := by decide +kernel
theorem dX3_mayLeave_6 : decode cX3_mayLeave 6 = .ok (.if_icmp .ge 19, 3) := by decide +kernel
theorem dX3_mayLeave_9 : decode cX3_mayLeave 9 = .ok (.aload_n 0, 1) := by decide +kernel
theorem dX3_mayLeave_10 : decode cX3_mayLeave 10 = .ok (.getfield 32, 3) := by decide +kernel
theorem dX3_mayLeave_13 : decode cX3_mayLeave 13 = .ok (.iload_n 1, 1) := by decide +kernel
theorem dX3_mayLeave_14 : decode cX3_mayLeave 14 = .ok (.iaload, 1) := by decide +kernel
theorem dX3_mayLeave_15 : decode cX3_mayLeave 15 = .ok (.bipush 16, 2) := by decide +kernel
theorem dX3_mayLeave_17 : decode cX3_mayLeave 17 = .ok (.iand, 1) := by decide +kernel
theorem dX3_mayLeave_18 : decode cX3_mayLeave 18 = .ok (.ifCond .eq 7, 3) := by decide +kernel
theorem dX3_mayLeave_21 : decode cX3_mayLeave 21 = .ok (.iconst 1, 1) := by decide +kernel
theorem dX3_mayLeave_22 : decode cX3_mayLeave 22 = .ok (.goto 4, 3) := by decide +kernel
theorem dX3_mayLeave_25 : decode cX3_mayLeave 25 = .ok (.iconst 0, 1) := by decide +kernel
theorem dX3_mayLeave_26 : decode cX3_mayLeave 26 = .ok (.ireturn, 1) := by decide +kernel
theorem dX3_read_0 : decode cX3_read 0 = .ok (.aload_n 0, 1) := by decide +kernel
theorem dX3_read_1 : decode cX3_read 1 = .ok (.iload 5, 2) := by decide +kernel
theorem dX3_read_3 : decode cX3_read 3 = .ok (.aload 4, 2) := by decide +kernel
theorem dX3_read_5 : decode cX3_read 5 = .ok (.arraylength, 1) := by decide +kernel
theorem dX3_read_6 : decode cX3_read 6 = .ok (.bipush 8, 2) := by decide +kernel
theorem dX3_read_8 : decode cX3_read 8 = .ok (.invokestatic 38, 3) := by decide +kernel
theorem dX3_read_11 : decode cX3_read 11 = .ok (.invokestatic 38, 3) := by decide +kernel
theorem dX3_read_14 : decode cX3_read 14 = .ok (.putfield 15, 3) := by decide +kernel
theorem dX3_read_17 : decode cX3_read 17 = .ok (.iconst 0, 1) := by decide +kernel
theorem dX3_read_18 : decode cX3_read 18 = .ok (.istore 6, 2) := by decide +kernel
theorem dX3_read_20 : decode cX3_read 20 = .ok (.iload 6, 2) := by decide +kernel
theorem dX3_read_22 : decode cX3_read 22 = .ok (.aload_n 0, 1) := by decide +kernel
theorem dX3_read_23 : decode cX3_read 23 = .ok (.getfield 15, 3) := by decide +kernel
theorem dX3_read_26 : decode cX3_read 26 = .ok (.if_icmp .ge 21, 3) := by decide +kernel
theorem dX3_read_29 : decode cX3_read 29 = .ok (.aload_n 0, 1) := by decide +kernel
theorem dX3_read_30 : decode cX3_read 30 = .ok (.getfield 11, 3) := by decide +kernel
theorem dX3_read_33 : decode cX3_read 33 = .ok (.iload 6, 2) := by decide +kernel
theorem dX3_read_35 : decode cX3_read 35 = .ok (.aload 4, 2) := by decide +kernel
theorem dX3_read_37 : decode cX3_read 37 = .ok (.iload 6, 2) := by decide +kernel
theorem dX3_read_39 : decode cX3_read 39 = .ok (.iaload, 1) := by decide +kernel
theorem dX3_read_40 : decode cX3_read 40 = .ok (.iastore, 1) := by decide +kernel
theorem dX3_read_41 : decode cX3_read 41 = .ok (.iinc 6 1, 3) := by decide +kernel
theorem dX3_read_44 : decode cX3_read 44 = .ok (.goto (-24), 3) := by decide +kernel
theorem dX3_read_47 : decode cX3_read 47 = .ok (.aload_n 0, 1) := by decide +kernel
theorem dX3_read_48 : decode cX3_read 48 = .ok (.invokevirtual 44, 3) := by decide +kernel
theorem dX3_read_51 : decode cX3_read 51 = .ok (.aload_n 0, 1) := by decide +kernel
theorem dX3_read_52 : decode cX3_read 52 = .ok (.getfield 15, 3) := by decide +kernel
theorem dX3_read_55 : decode cX3_read 55 = .ok (.iconst 1, 1) := by decide +kernel
theorem dX3_read_56 : decode cX3_read 56 = .ok (.isub, 1) := by decide +kernel
theorem dX3_read_57 : decode cX3_read 57 = .ok (.istore 6, 2) := by decide +kernel
theorem dX3_read_59 : decode cX3_read 59 = .ok (.iload 6, 2) := by decide +kernel
theorem dX3_read_61 : decode cX3_read 61 = .ok (.ifCond .lt 66, 3) := by decide +kernel
theorem dX3_read_64 : decode cX3_read 64 = .ok (.aload_n 0, 1) := by decide +kernel
theorem dX3_read_65 : decode cX3_read 65 = .ok (.iload 6, 2) := by decide +kernel
theorem dX3_read_67 : decode cX3_read 67 = .ok (.invokevirtual 47, 3) := by decide +kernel
theorem dX3_read_70 : decode cX3_read 70 = .ok (.iconst 0, 1) := by decide +kernel
theorem dX3_read_71 : decode cX3_read 71 = .ok (.istore 7, 2) := by decide +kernel
theorem dX3_read_73 : decode cX3_read 73 = .ok (.iload 7, 2) := by decide +kernel
theorem dX3_read_75 : decode cX3_read 75 = .ok (.aload_n 3, 1) := by decide +kernel
theorem dX3_read_76 : decode cX3_read 76 = .ok (.invokevirtual 51, 3) := by decide +kernel
theorem dX3_read_79 : decode cX3_read 79 = .ok (.if_icmp .ge 42, 3) := by decide +kernel
theorem dX3_read_82 : decode cX3_read 82 = .ok (.aload_n 3, 1) := by decide +kernel
theorem dX3_read_83 : decode cX3_read 83 = .ok (.iload 7, 2) := by decide +kernel
theorem dX3_read_85 : decode cX3_read 85 = .ok (.iload_n 2, 1) := by decide +kernel
theorem dX3_read_86 : decode cX3_read 86 = .ok (.invokevirtual 57, 3) := by decide +kernel
theorem dX3_read_89 : decode cX3_read 89 = .ok (.ifCond .eq 26, 3) := by decide +kernel
theorem dX3_read_92 : decode cX3_read 92 = .ok (.aload_n 0, 1) := by decide +kernel
theorem dX3_read_93 : decode cX3_read 93 = .ok (.aload_n 1, 1) := by decide +kernel
theorem dX3_read_94 : decode cX3_read 94 = .ok (.aload_n 3, 1) := by decide +kernel
theorem dX3_read_95 : decode cX3_read 95 = .ok (.iload 7, 2) := by decide +kernel
theorem dX3_read_97 : decode cX3_read 97 = .ok (.iload 6, 2) := by decide +kernel
theorem dX3_read_99 : decode cX3_read 99 = .ok (.invokevirtual 61, 3) := by decide +kernel
theorem dX3_read_102 : decode cX3_read 102 = .ok (.ifCond .eq 13, 3) := by decide +kernel
theorem dX3_read_105 : decode cX3_read 105 = .ok (.aload_n 0, 1) := by decide +kernel
theorem dX3_read_106 : decode cX3_read 106 = .ok (.aload_n 1, 1) := by decide +kernel
theorem dX3_read_107 : decode cX3_read 107 = .ok (.aload_n 3, 1) := by decide +kernel
theorem dX3_read_108 : decode cX3_read 108 = .ok (.iload 7, 2) := by decide +kernel
theorem dX3_read_110 : decode cX3_read 110 = .ok (.iload 6, 2) := by decide +kernel
theorem dX3_read_112 : decode cX3_read 112 = .ok (.invokevirtual 65, 3) := by decide +kernel
theorem dX3_read_115 : decode cX3_read 115 = .ok (.iinc 7 1, 3) := by decide +kernel
theorem dX3_read_118 : decode cX3_read 118 = .ok (.goto (-45), 3) := by decide +kernel
theorem dX3_read_121 : decode cX3_read 121 = .ok (.iinc 6 (-1), 3) := by decide +kernel
theorem dX3_read_124 : decode cX3_read 124 = .ok (.goto (-65), 3) := by decide +kernel
theorem dX3_read_127 : decode cX3_read 127 = .ok (.aload_n 0, 1) := by decide +kernel
theorem dX3_read_128 : decode cX3_read 128 = .ok (.aload_n 0, 1) := by decide +kernel
theorem dX3_read_129 : decode cX3_read 129 = .ok (.aload_n 1, 1) := by decide +kernel
theorem dX3_read_130 : decode cX3_read 130 = .ok (.iload_n 2, 1) := by decide +kernel
theorem dX3_read_131 : decode cX3_read 131 = .ok (.aload_n 3, 1) := by decide +kernel
theorem dX3_read_132 : decode cX3_read 132 = .ok (.invokevirtual 69, 3) := by decide +kernel
theorem dX3_read_135 : decode cX3_read 135 = .ok (.putfield 35, 3) := by decide +kernel
theorem dX3_read_138 : decode cX3_read 138 = .ok (.return_, 1) := by decide +kernel
theorem dX3_startAtEnd_0 : decode cX3_startAtEnd 0 = .ok (.aload_n 0, 1) := by decide +kernel
theorem dX3_startAtEnd_1 : decode cX3_startAtEnd 1 = .ok (.getfield 19, 3) := by decide +kernel
theorem dX3_startAtEnd_4 : decode cX3_startAtEnd 4 = .ok (.aload_n 0, 1) := by decide +kernel
theorem dX3_startAtEnd_5 : decode cX3_startAtEnd 5 = .ok (.getfield 15, 3) := by decide +kernel
theorem dX3_startAtEnd_8 : decode cX3_startAtEnd 8 = .ok (.iconst 0, 1) := by decide +kernel
theorem dX3_startAtEnd_9 : decode cX3_startAtEnd 9 = .ok (.iastore, 1) := by decide +kernel
theorem dX3_startAtEnd_10 : decode cX3_startAtEnd 10 = .ok (.aload_n 0, 1) := by decide +kernel
theorem dX3_startAtEnd_11 : decode cX3_startAtEnd 11 = .ok (.getfield 22, 3) := by decide +kernel
theorem dX3_startAtEnd_14 : decode cX3_startAtEnd 14 = .ok (.aload_n 0, 1) := by decide +kernel
theorem dX3_startAtEnd_15 : decode cX3_startAtEnd 15 = .ok (.getfield 15, 3) := by decide +kernel
theorem dX3_startAtEnd_18 : decode cX3_startAtEnd 18 = .ok (.iconst 1, 1) := by decide +kernel
theorem dX3_startAtEnd_19 : decode cX3_startAtEnd 19 = .ok (.iastore, 1) := by decide +kernel
theorem dX3_startAtEnd_20 : decode cX3_startAtEnd 20 = .ok (.aload_n 0, 1) := by decide +kernel
theorem dX3_startAtEnd_21 : decode cX3_startAtEnd 21 = .ok (.getfield 25, 3) := by decide +kernel
theorem dX3_startAtEnd_24 : decode cX3_startAtEnd 24 = .ok (.aload_n 0, 1) := by decide +kernel
theorem dX3_startAtEnd_25 : decode cX3_startAtEnd 25 = .ok (.getfield 15, 3) := by decide +kernel
theorem dX3_startAtEnd_28 : decode cX3_startAtEnd 28 = .ok (.iconst 0, 1) := by decide +kernel
theorem dX3_startAtEnd_29 : decode cX3_startAtEnd 29 = .ok (.iastore, 1) := by decide +kernel
theorem dX3_startAtEnd_30 : decode cX3_startAtEnd 30 = .ok (.aload_n 0, 1) := by decide +kernel
theorem dX3_startAtEnd_31 : decode cX3_startAtEnd 31 = .ok (.getfield 28, 3) := by decide +kernel
theorem dX3_startAtEnd_34 : decode cX3_startAtEnd 34 = .ok (.aload_n 0, 1) := by decide +kernel
theorem dX3_startAtEnd_35 : decode cX3_startAtEnd 35 = .ok (.getfield 15, 3) := by decide +kernel
theorem dX3_startAtEnd_38 : decode cX3_startAtEnd 38 = .ok (.iconst 0, 1) := by decide +kernel
theorem dX3_startAtEnd_39 : decode cX3_startAtEnd 39 = .ok (.bastore, 1) := by decide +kernel
theorem dX3_startAtEnd_40 : decode cX3_startAtEnd 40 = .ok (.iconst 0, 1) := by decide +kernel
theorem dX3_startAtEnd_41 : decode cX3_startAtEnd 41 = .ok (.istore_n 1, 1) := by decide +kernel
theorem dX3_startAtEnd_42 : decode cX3_startAtEnd 42 = .ok (.iload_n 1, 1) := by decide +kernel
theorem dX3_startAtEnd_43 : decode cX3_startAtEnd 43 = .ok (.iconst 5, 1) := by decide +kernel
theorem dX3_startAtEnd_44 : decode cX3_startAtEnd 44 = .ok (.if_icmp .ge 24, 3) := by decide +kernel
theorem dX3_startAtEnd_47 : decode cX3_startAtEnd 47 = .ok (.aload_n 0, 1) := by decide +kernel
theorem dX3_startAtEnd_48 : decode cX3_startAtEnd 48 = .ok (.getfield 32, 3) := by decide +kernel
theorem dX3_startAtEnd_51 : decode cX3_startAtEnd 51 = .ok (.aload_n 0, 1) := by decide +kernel
theorem dX3_startAtEnd_52 : decode cX3_startAtEnd 52 = .ok (.getfield 15, 3) := by decide +kernel
theorem dX3_startAtEnd_55 : decode cX3_startAtEnd 55 = .ok (.iconst 5, 1) := by decide +kernel
theorem dX3_startAtEnd_56 : decode cX3_startAtEnd 56 = .ok (.imul, 1) := by decide +kernel
theorem dX3_startAtEnd_57 : decode cX3_startAtEnd 57 = .ok (.iload_n 1, 1) := by decide +kernel
theorem dX3_startAtEnd_58 : decode cX3_startAtEnd 58 = .ok (.iadd, 1) := by decide +kernel
theorem dX3_startAtEnd_59 : decode cX3_startAtEnd 59 = .ok (.bipush 16, 2) := by decide +kernel
theorem dX3_startAtEnd_61 : decode cX3_startAtEnd 61 = .ok (.iastore, 1) := by decide +kernel
theorem dX3_startAtEnd_62 : decode cX3_startAtEnd 62 = .ok (.iinc 1 1, 3) := by decide +kernel
theorem dX3_startAtEnd_65 : decode cX3_startAtEnd 65 = .ok (.goto (-23), 3) := by decide +kernel
theorem dX3_startAtEnd_68 : decode cX3_startAtEnd 68 = .ok (.return_, 1) := by decide +kernel
theorem dX3_passWord_0 : decode cX3_passWord 0 = .ok (.aload_n 0, 1) := by decide +kernel
theorem dX3_passWord_1 : decode cX3_passWord 1 = .ok (.getfield 19, 3) := by decide +kernel
theorem dX3_passWord_4 : decode cX3_passWord 4 = .ok (.iload_n 1, 1) := by decide +kernel
theorem dX3_passWord_5 : decode cX3_passWord 5 = .ok (.bipush 6, 2) := by decide +kernel
theorem dX3_passWord_7 : decode cX3_passWord 7 = .ok (.aload_n 0, 1) := by decide +kernel
theorem dX3_passWord_8 : decode cX3_passWord 8 = .ok (.getfield 19, 3) := by decide +kernel
theorem dX3_passWord_11 : decode cX3_passWord 11 = .ok (.iload_n 1, 1) := by decide +kernel
theorem dX3_passWord_12 : decode cX3_passWord 12 = .ok (.iconst 1, 1) := by decide +kernel
theorem dX3_passWord_13 : decode cX3_passWord 13 = .ok (.iadd, 1) := by decide +kernel
theorem dX3_passWord_14 : decode cX3_passWord 14 = .ok (.iaload, 1) := by decide +kernel
theorem dX3_passWord_15 : decode cX3_passWord 15 = .ok (.iadd, 1) := by decide +kernel
theorem dX3_passWord_16 : decode cX3_passWord 16 = .ok (.iastore, 1) := by decide +kernel
theorem dX3_passWord_17 : decode cX3_passWord 17 = .ok (.aload_n 0, 1) := by decide +kernel
theorem dX3_passWord_18 : decode cX3_passWord 18 = .ok (.getfield 22, 3) := by decide +kernel
theorem dX3_passWord_21 : decode cX3_passWord 21 = .ok (.iload_n 1, 1) := by decide +kernel
theorem dX3_passWord_22 : decode cX3_passWord 22 = .ok (.aload_n 0, 1) := by decide +kernel
theorem dX3_passWord_23 : decode cX3_passWord 23 = .ok (.getfield 22, 3) := by decide +kernel
theorem dX3_passWord_26 : decode cX3_passWord 26 = .ok (.iload_n 1, 1) := by decide +kernel
theorem dX3_passWord_27 : decode cX3_passWord 27 = .ok (.iconst 1, 1) := by decide +kernel
theorem dX3_passWord_28 : decode cX3_passWord 28 = .ok (.iadd, 1) := by decide +kernel
theorem dX3_passWord_29 : decode cX3_passWord 29 = .ok (.iaload, 1) := by decide +kernel
theorem dX3_passWord_30 : decode cX3_passWord 30 = .ok (.iastore, 1) := by decide +kernel
theorem dX3_passWord_31 : decode cX3_passWord 31 = .ok (.aload_n 0, 1) := by decide +kernel
theorem dX3_passWord_32 : decode cX3_passWord 32 = .ok (.getfield 25, 3) := by decide +kernel
theorem dX3_passWord_35 : decode cX3_passWord 35 = .ok (.iload_n 1, 1) := by decide +kernel
theorem dX3_passWord_36 : decode cX3_passWord 36 = .ok (.iconst 1, 1) := by decide +kernel
theorem dX3_passWord_37 : decode cX3_passWord 37 = .ok (.aload_n 0, 1) := by decide +kernel
theorem dX3_passWord_38 : decode cX3_passWord 38 = .ok (.getfield 25, 3) := by decide +kernel
theorem dX3_passWord_41 : decode cX3_passWord 41 = .ok (.iload_n 1, 1) := by decide +kernel
theorem dX3_passWord_42 : decode cX3_passWord 42 = .ok (.iconst 1, 1) := by decide +kernel
theorem dX3_passWord_43 : decode cX3_passWord 43 = .ok (.iadd, 1) := by decide +kernel
theorem dX3_passWord_44 : decode cX3_passWord 44 = .ok (.iaload, 1) := by decide +kernel
theorem dX3_passWord_45 : decode cX3_passWord 45 = .ok (.iadd, 1) := by decide +kernel
theorem dX3_passWord_46 : decode cX3_passWord 46 = .ok (.iastore, 1) := by decide +kernel
theorem dX3_passWord_47 : decode cX3_passWord 47 = .ok (.aload_n 0, 1) := by decide +kernel
theorem dX3_passWord_48 : decode cX3_passWord 48 = .ok (.getfield 28, 3) := by decide +kernel
theorem dX3_passWord_51 : decode cX3_passWord 51 = .ok (.iload_n 1, 1) := by decide +kernel
theorem dX3_passWord_52 : decode cX3_passWord 52 = .ok (.aload_n 0, 1) := by decide +kernel
theorem dX3_passWord_53 : decode cX3_passWord 53 = .ok (.getfield 28, 3) := by decide +kernel
theorem dX3_passWord_56 : decode cX3_passWord 56 = .ok (.iload_n 1, 1) := by decide +kernel
theorem dX3_passWord_57 : decode cX3_passWord 57 = .ok (.iconst 1, 1) := by decide +kernel
theorem dX3_passWord_58 : decode cX3_passWord 58 = .ok (.iadd, 1) := by decide +kernel
theorem dX3_passWord_59 : decode cX3_passWord 59 = .ok (.baload, 1) := by decide +kernel
theorem dX3_passWord_60 : decode cX3_passWord 60 = .ok (.bastore, 1) := by decide +kernel
theorem dX3_passWord_61 : decode cX3_passWord 61 = .ok (.iconst 0, 1) := by decide +kernel
theorem dX3_passWord_62 : decode cX3_passWord 62 = .ok (.istore_n 2, 1) := by decide +kernel
theorem dX3_passWord_63 : decode cX3_passWord 63 = .ok (.iload_n 2, 1) := by decide +kernel
theorem dX3_passWord_64 : decode cX3_passWord 64 = .ok (.iconst 5, 1) := by decide +kernel
theorem dX3_passWord_65 : decode cX3_passWord 65 = .ok (.if_icmp .ge 31, 3) := by decide +kernel
theorem dX3_passWord_68 : decode cX3_passWord 68 = .ok (.aload_n 0, 1) := by decide +kernel
theorem dX3_passWord_69 : decode cX3_passWord 69 = .ok (.getfield 32, 3) := by decide +kernel
theorem dX3_passWord_72 : decode cX3_passWord 72 = .ok (.iload_n 1, 1) := by decide +kernel
theorem dX3_passWord_73 : decode cX3_passWord 73 = .ok (.iconst 5, 1) := by decide +kernel
theorem dX3_passWord_74 : decode cX3_passWord 74 = .ok (.imul, 1) := by decide +kernel
theorem dX3_passWord_75 : decode cX3_passWord 75 = .ok (.iload_n 2, 1) := by decide +kernel
theorem dX3_passWord_76 : decode cX3_passWord 76 = .ok (.iadd, 1) := by decide +kernel
theorem dX3_passWord_77 : decode cX3_passWord 77 = .ok (.aload_n 0, 1) := by decide +kernel
theorem dX3_passWord_78 : decode cX3_passWord 78 = .ok (.getfield 32, 3) := by decide +kernel
theorem dX3_passWord_81 : decode cX3_passWord 81 = .ok (.iload_n 1, 1) := by decide +kernel
theorem dX3_passWord_82 : decode cX3_passWord 82 = .ok (.iconst 1, 1) := by decide +kernel
theorem dX3_passWord_83 : decode cX3_passWord 83 = .ok (.iadd, 1) := by decide +kernel
theorem dX3_passWord_84 : decode cX3_passWord 84 = .ok (.iconst 5, 1) := by decide +kernel
theorem dX3_passWord_85 : decode cX3_passWord 85 = .ok (.imul, 1) := by decide +kernel
theorem dX3_passWord_86 : decode cX3_passWord 86 = .ok (.iload_n 2, 1) := by decide +kernel
theorem dX3_passWord_87 : decode cX3_passWord 87 = .ok (.iadd, 1) := by decide +kernel
theorem dX3_passWord_88 : decode cX3_passWord 88 = .ok (.iaload, 1) := by decide +kernel
theorem dX3_passWord_89 : decode cX3_passWord 89 = .ok (.iastore, 1) := by decide +kernel
theorem dX3_passWord_90 : decode cX3_passWord 90 = .ok (.iinc 2 1, 3) := by decide +kernel
theorem dX3_passWord_93 : decode cX3_passWord 93 = .ok (.goto (-30), 3) := by decide +kernel
theorem dX3_passWord_96 : decode cX3_passWord 96 = .ok (.return_, 1) := by decide +kernel
theorem dX3_useRow_0 : decode cX3_useRow 0 = .ok (.iload 4, 2) := by decide +kernel
theorem dX3_useRow_2 : decode cX3_useRow 2 = .ok (.aload_n 2, 1) := by decide +kernel
theorem dX3_useRow_3 : decode cX3_useRow 3 = .ok (.iload_n 3, 1) := by decide +kernel
theorem dX3_useRow_4 : decode cX3_useRow 4 = .ok (.invokevirtual 73, 3) := by decide +kernel
theorem dX3_useRow_7 : decode cX3_useRow 7 = .ok (.iadd, 1) := by decide +kernel
theorem dX3_useRow_8 : decode cX3_useRow 8 = .ok (.istore 5, 2) := by decide +kernel
theorem dX3_useRow_10 : decode cX3_useRow 10 = .ok (.aload_n 2, 1) := by decide +kernel
theorem dX3_useRow_11 : decode cX3_useRow 11 = .ok (.iload_n 3, 1) := by decide +kernel
theorem dX3_useRow_12 : decode cX3_useRow 12 = .ok (.invokevirtual 77, 3) := by decide +kernel
theorem dX3_useRow_15 : decode cX3_useRow 15 = .ok (.aload_n 0, 1) := by decide +kernel
theorem dX3_useRow_16 : decode cX3_useRow 16 = .ok (.getfield 19, 3) := by decide +kernel
theorem dX3_useRow_19 : decode cX3_useRow 19 = .ok (.iload 5, 2) := by decide +kernel
theorem dX3_useRow_21 : decode cX3_useRow 21 = .ok (.iaload, 1) := by decide +kernel
theorem dX3_useRow_22 : decode cX3_useRow 22 = .ok (.iadd, 1) := by decide +kernel
theorem dX3_useRow_23 : decode cX3_useRow 23 = .ok (.istore 6, 2) := by decide +kernel
theorem dX3_useRow_25 : decode cX3_useRow 25 = .ok (.iload 6, 2) := by decide +kernel
theorem dX3_useRow_27 : decode cX3_useRow 27 = .ok (.aload_n 0, 1) := by decide +kernel
theorem dX3_useRow_28 : decode cX3_useRow 28 = .ok (.getfield 19, 3) := by decide +kernel
theorem dX3_useRow_31 : decode cX3_useRow 31 = .ok (.iload 4, 2) := by decide +kernel
theorem dX3_useRow_33 : decode cX3_useRow 33 = .ok (.iaload, 1) := by decide +kernel
theorem dX3_useRow_34 : decode cX3_useRow 34 = .ok (.if_icmp .le 4, 3) := by decide +kernel
theorem dX3_useRow_37 : decode cX3_useRow 37 = .ok (.return_, 1) := by decide +kernel
theorem dX3_useRow_38 : decode cX3_useRow 38 = .ok (.iload 6, 2) := by decide +kernel
theorem dX3_useRow_40 : decode cX3_useRow 40 = .ok (.aload_n 0, 1) := by decide +kernel
theorem dX3_useRow_41 : decode cX3_useRow 41 = .ok (.getfield 19, 3) := by decide +kernel
theorem dX3_useRow_44 : decode cX3_useRow 44 = .ok (.iload 4, 2) := by decide +kernel
theorem dX3_useRow_46 : decode cX3_useRow 46 = .ok (.iaload, 1) := by decide +kernel
theorem dX3_useRow_47 : decode cX3_useRow 47 = .ok (.if_icmp .ge 11, 3) := by decide +kernel
theorem dX3_useRow_50 : decode cX3_useRow 50 = .ok (.aload_n 0, 1) := by decide +kernel
theorem dX3_useRow_51 : decode cX3_useRow 51 = .ok (.iload 4, 2) := by decide +kernel
theorem dX3_useRow_53 : decode cX3_useRow 53 = .ok (.iload 6, 2) := by decide +kernel
theorem dX3_useRow_55 : decode cX3_useRow 55 = .ok (.invokevirtual 80, 3) := by decide +kernel
theorem dX3_useRow_58 : decode cX3_useRow 58 = .ok (.aload_n 0, 1) := by decide +kernel
theorem dX3_useRow_59 : decode cX3_useRow 59 = .ok (.getfield 22, 3) := by decide +kernel
theorem dX3_useRow_62 : decode cX3_useRow 62 = .ok (.iload 4, 2) := by decide +kernel
theorem dX3_useRow_64 : decode cX3_useRow 64 = .ok (.ldc 84, 2) := by decide +kernel
theorem dX3_useRow_66 : decode cX3_useRow 66 = .ok (.aload_n 0, 1) := by decide +kernel
theorem dX3_useRow_67 : decode cX3_useRow 67 = .ok (.getfield 22, 3) := by decide +kernel
theorem dX3_useRow_70 : decode cX3_useRow 70 = .ok (.iload 4, 2) := by decide +kernel
theorem dX3_useRow_72 : decode cX3_useRow 72 = .ok (.iaload, 1) := by decide +kernel
theorem dX3_useRow_73 : decode cX3_useRow 73 = .ok (.aload_n 0, 1) := by decide +kernel
theorem dX3_useRow_74 : decode cX3_useRow 74 = .ok (.getfield 22, 3) := by decide +kernel
theorem dX3_useRow_77 : decode cX3_useRow 77 = .ok (.iload 5, 2) := by decide +kernel
theorem dX3_useRow_79 : decode cX3_useRow 79 = .ok (.iaload, 1) := by decide +kernel
theorem dX3_useRow_80 : decode cX3_useRow 80 = .ok (.iadd, 1) := by decide +kernel
theorem dX3_useRow_81 : decode cX3_useRow 81 = .ok (.invokestatic 38, 3) := by decide +kernel
theorem dX3_useRow_84 : decode cX3_useRow 84 = .ok (.iastore, 1) := by decide +kernel
theorem dX3_useRow_85 : decode cX3_useRow 85 = .ok (.aload_n 0, 1) := by decide +kernel
theorem dX3_useRow_86 : decode cX3_useRow 86 = .ok (.getfield 25, 3) := by decide +kernel
theorem dX3_useRow_89 : decode cX3_useRow 89 = .ok (.iload 4, 2) := by decide +kernel
theorem dX3_useRow_91 : decode cX3_useRow 91 = .ok (.aload_n 0, 1) := by decide +kernel
theorem dX3_useRow_92 : decode cX3_useRow 92 = .ok (.getfield 25, 3) := by decide +kernel
theorem dX3_useRow_95 : decode cX3_useRow 95 = .ok (.iload 4, 2) := by decide +kernel
theorem dX3_useRow_97 : decode cX3_useRow 97 = .ok (.iaload, 1) := by decide +kernel
theorem dX3_useRow_98 : decode cX3_useRow 98 = .ok (.aload_n 0, 1) := by decide +kernel
theorem dX3_useRow_99 : decode cX3_useRow 99 = .ok (.getfield 25, 3) := by decide +kernel
theorem dX3_useRow_102 : decode cX3_useRow 102 = .ok (.iload 5, 2) := by decide +kernel
theorem dX3_useRow_104 : decode cX3_useRow 104 = .ok (.iaload, 1) := by decide +kernel
theorem dX3_useRow_105 : decode cX3_useRow 105 = .ok (.invokestatic 85, 3) := by decide +kernel
theorem dX3_useRow_108 : decode cX3_useRow 108 = .ok (.iastore, 1) := by decide +kernel
theorem dX3_useRow_109 : decode cX3_useRow 109 = .ok (.aload_n 0, 1) := by decide +kernel
theorem dX3_useRow_110 : decode cX3_useRow 110 = .ok (.getfield 28, 3) := by decide +kernel
theorem dX3_useRow_113 : decode cX3_useRow 113 = .ok (.iload 4, 2) := by decide +kernel
theorem dX3_useRow_115 : decode cX3_useRow 115 = .ok (.iconst 1, 1) := by decide +kernel
theorem dX3_useRow_116 : decode cX3_useRow 116 = .ok (.bastore, 1) := by decide +kernel
theorem dX3_useRow_117 : decode cX3_useRow 117 = .ok (.iconst 0, 1) := by decide +kernel
theorem dX3_useRow_118 : decode cX3_useRow 118 = .ok (.istore 7, 2) := by decide +kernel
theorem dX3_useRow_120 : decode cX3_useRow 120 = .ok (.iload 7, 2) := by decide +kernel
theorem dX3_useRow_122 : decode cX3_useRow 122 = .ok (.iconst 5, 1) := by decide +kernel
theorem dX3_useRow_123 : decode cX3_useRow 123 = .ok (.if_icmp .ge 71, 3) := by decide +kernel
theorem dX3_useRow_126 : decode cX3_useRow 126 = .ok (.aload_n 0, 1) := by decide +kernel
theorem dX3_useRow_127 : decode cX3_useRow 127 = .ok (.getfield 32, 3) := by decide +kernel
theorem dX3_useRow_130 : decode cX3_useRow 130 = .ok (.iload 5, 2) := by decide +kernel
theorem dX3_useRow_132 : decode cX3_useRow 132 = .ok (.iconst 5, 1) := by decide +kernel
theorem dX3_useRow_133 : decode cX3_useRow 133 = .ok (.imul, 1) := by decide +kernel
theorem dX3_useRow_134 : decode cX3_useRow 134 = .ok (.iload 7, 2) := by decide +kernel
theorem dX3_useRow_136 : decode cX3_useRow 136 = .ok (.iadd, 1) := by decide +kernel
theorem dX3_useRow_137 : decode cX3_useRow 137 = .ok (.iaload, 1) := by decide +kernel
theorem dX3_useRow_138 : decode cX3_useRow 138 = .ok (.istore 8, 2) := by decide +kernel
theorem dX3_useRow_140 : decode cX3_useRow 140 = .ok (.iload 8, 2) := by decide +kernel
theorem dX3_useRow_142 : decode cX3_useRow 142 = .ok (.bipush 15, 2) := by decide +kernel
theorem dX3_useRow_144 : decode cX3_useRow 144 = .ok (.iand, 1) := by decide +kernel
theorem dX3_useRow_145 : decode cX3_useRow 145 = .ok (.istore 9, 2) := by decide +kernel
theorem dX3_useRow_147 : decode cX3_useRow 147 = .ok (.iload 8, 2) := by decide +kernel
theorem dX3_useRow_149 : decode cX3_useRow 149 = .ok (.bipush 16, 2) := by decide +kernel
theorem dX3_useRow_151 : decode cX3_useRow 151 = .ok (.iand, 1) := by decide +kernel
theorem dX3_useRow_152 : decode cX3_useRow 152 = .ok (.ifCond .eq 19, 3) := by decide +kernel
theorem dX3_useRow_155 : decode cX3_useRow 155 = .ok (.iload 9, 2) := by decide +kernel
theorem dX3_useRow_157 : decode cX3_useRow 157 = .ok (.aload_n 0, 1) := by decide +kernel
theorem dX3_useRow_158 : decode cX3_useRow 158 = .ok (.aload_n 1, 1) := by decide +kernel
theorem dX3_useRow_159 : decode cX3_useRow 159 = .ok (.aload_n 2, 1) := by decide +kernel
theorem dX3_useRow_160 : decode cX3_useRow 160 = .ok (.iload_n 3, 1) := by decide +kernel
theorem dX3_useRow_161 : decode cX3_useRow 161 = .ok (.iload 4, 2) := by decide +kernel
theorem dX3_useRow_163 : decode cX3_useRow 163 = .ok (.iload 7, 2) := by decide +kernel
theorem dX3_useRow_165 : decode cX3_useRow 165 = .ok (.invokevirtual 88, 3) := by decide +kernel
theorem dX3_useRow_168 : decode cX3_useRow 168 = .ok (.ior, 1) := by decide +kernel
theorem dX3_useRow_169 : decode cX3_useRow 169 = .ok (.istore 9, 2) := by decide +kernel
theorem dX3_useRow_171 : decode cX3_useRow 171 = .ok (.aload_n 0, 1) := by decide +kernel
theorem dX3_useRow_172 : decode cX3_useRow 172 = .ok (.getfield 32, 3) := by decide +kernel
theorem dX3_useRow_175 : decode cX3_useRow 175 = .ok (.iload 4, 2) := by decide +kernel
theorem dX3_useRow_177 : decode cX3_useRow 177 = .ok (.iconst 5, 1) := by decide +kernel
theorem dX3_useRow_178 : decode cX3_useRow 178 = .ok (.imul, 1) := by decide +kernel
theorem dX3_useRow_179 : decode cX3_useRow 179 = .ok (.iload 7, 2) := by decide +kernel
theorem dX3_useRow_181 : decode cX3_useRow 181 = .ok (.iadd, 1) := by decide +kernel
theorem dX3_useRow_182 : decode cX3_useRow 182 = .ok (.dup2, 1) := by decide +kernel
theorem dX3_useRow_183 : decode cX3_useRow 183 = .ok (.iaload, 1) := by decide +kernel
theorem dX3_useRow_184 : decode cX3_useRow 184 = .ok (.iload 9, 2) := by decide +kernel
theorem dX3_useRow_186 : decode cX3_useRow 186 = .ok (.ior, 1) := by decide +kernel
theorem dX3_useRow_187 : decode cX3_useRow 187 = .ok (.iastore, 1) := by decide +kernel
theorem dX3_useRow_188 : decode cX3_useRow 188 = .ok (.iinc 7 1, 3) := by decide +kernel
theorem dX3_useRow_191 : decode cX3_useRow 191 = .ok (.goto (-71), 3) := by decide +kernel
theorem dX3_useRow_194 : decode cX3_useRow 194 = .ok (.return_, 1) := by decide +kernel
theorem dX3_clearAt_0 : decode cX3_clearAt 0 = .ok (.aload_n 0, 1) := by decide +kernel
theorem dX3_clearAt_1 : decode cX3_clearAt 1 = .ok (.getfield 19, 3) := by decide +kernel
theorem dX3_clearAt_4 : decode cX3_clearAt 4 = .ok (.iload_n 1, 1) := by decide +kernel
theorem dX3_clearAt_5 : decode cX3_clearAt 5 = .ok (.iload_n 2, 1) := by decide +kernel
theorem dX3_clearAt_6 : decode cX3_clearAt 6 = .ok (.iastore, 1) := by decide +kernel
theorem dX3_clearAt_7 : decode cX3_clearAt 7 = .ok (.aload_n 0, 1) := by decide +kernel
theorem dX3_clearAt_8 : decode cX3_clearAt 8 = .ok (.getfield 22, 3) := by decide +kernel
theorem dX3_clearAt_11 : decode cX3_clearAt 11 = .ok (.iload_n 1, 1) := by decide +kernel
theorem dX3_clearAt_12 : decode cX3_clearAt 12 = .ok (.iconst 0, 1) := by decide +kernel
theorem dX3_clearAt_13 : decode cX3_clearAt 13 = .ok (.iastore, 1) := by decide +kernel
theorem dX3_clearAt_14 : decode cX3_clearAt 14 = .ok (.aload_n 0, 1) := by decide +kernel
theorem dX3_clearAt_15 : decode cX3_clearAt 15 = .ok (.getfield 25, 3) := by decide +kernel
theorem dX3_clearAt_18 : decode cX3_clearAt 18 = .ok (.iload_n 1, 1) := by decide +kernel
theorem dX3_clearAt_19 : decode cX3_clearAt 19 = .ok (.iconst 0, 1) := by decide +kernel
theorem dX3_clearAt_20 : decode cX3_clearAt 20 = .ok (.iastore, 1) := by decide +kernel
theorem dX3_clearAt_21 : decode cX3_clearAt 21 = .ok (.iconst 0, 1) := by decide +kernel
theorem dX3_clearAt_22 : decode cX3_clearAt 22 = .ok (.istore_n 3, 1) := by decide +kernel
theorem dX3_clearAt_23 : decode cX3_clearAt 23 = .ok (.iload_n 3, 1) := by decide +kernel
theorem dX3_clearAt_24 : decode cX3_clearAt 24 = .ok (.iconst 5, 1) := by decide +kernel
theorem dX3_clearAt_25 : decode cX3_clearAt 25 = .ok (.if_icmp .ge 20, 3) := by decide +kernel
theorem dX3_clearAt_28 : decode cX3_clearAt 28 = .ok (.aload_n 0, 1) := by decide +kernel
theorem dX3_clearAt_29 : decode cX3_clearAt 29 = .ok (.getfield 32, 3) := by decide +kernel
theorem dX3_clearAt_32 : decode cX3_clearAt 32 = .ok (.iload_n 1, 1) := by decide +kernel
theorem dX3_clearAt_33 : decode cX3_clearAt 33 = .ok (.iconst 5, 1) := by decide +kernel
theorem dX3_clearAt_34 : decode cX3_clearAt 34 = .ok (.imul, 1) := by decide +kernel
theorem dX3_clearAt_35 : decode cX3_clearAt 35 = .ok (.iload_n 3, 1) := by decide +kernel
theorem dX3_clearAt_36 : decode cX3_clearAt 36 = .ok (.iadd, 1) := by decide +kernel
theorem dX3_clearAt_37 : decode cX3_clearAt 37 = .ok (.iconst 0, 1) := by decide +kernel
theorem dX3_clearAt_38 : decode cX3_clearAt 38 = .ok (.iastore, 1) := by decide +kernel
theorem dX3_clearAt_39 : decode cX3_clearAt 39 = .ok (.iinc 3 1, 3) := by decide +kernel
theorem dX3_clearAt_42 : decode cX3_clearAt 42 = .ok (.goto (-19), 3) := by decide +kernel
theorem dX3_clearAt_45 : decode cX3_clearAt 45 = .ok (.return_, 1) := by decide +kernel
theorem dX3_fillingByRow_0 : decode cX3_fillingByRow 0 = .ok (.aload_n 2, 1) := by decide +kernel
theorem dX3_fillingByRow_1 : decode cX3_fillingByRow 1 = .ok (.iload_n 3, 1) := by decide +kernel
theorem dX3_fillingByRow_2 : decode cX3_fillingByRow 2 = .ok (.invokevirtual 73, 3) := by decide +kernel
theorem dX3_fillingByRow_5 : decode cX3_fillingByRow 5 = .ok (.iconst 1, 1) := by decide +kernel
theorem dX3_fillingByRow_6 : decode cX3_fillingByRow 6 = .ok (.isub, 1) := by decide +kernel
theorem dX3_fillingByRow_7 : decode cX3_fillingByRow 7 = .ok (.istore 6, 2) := by decide +kernel
theorem dX3_fillingByRow_9 : decode cX3_fillingByRow 9 = .ok (.iload 6, 2) := by decide +kernel
theorem dX3_fillingByRow_11 : decode cX3_fillingByRow 11 = .ok (.ifCond .lt 49, 3) := by decide +kernel
theorem dX3_fillingByRow_14 : decode cX3_fillingByRow 14 = .ok (.aload_n 2, 1) := by decide +kernel
theorem dX3_fillingByRow_15 : decode cX3_fillingByRow 15 = .ok (.iload_n 3, 1) := by decide +kernel
theorem dX3_fillingByRow_16 : decode cX3_fillingByRow 16 = .ok (.iload 6, 2) := by decide +kernel
theorem dX3_fillingByRow_18 : decode cX3_fillingByRow 18 = .ok (.invokevirtual 92, 3) := by decide +kernel
theorem dX3_fillingByRow_21 : decode cX3_fillingByRow 21 = .ok (.iconst 1, 1) := by decide +kernel
theorem dX3_fillingByRow_22 : decode cX3_fillingByRow 22 = .ok (.if_icmp .ne 32, 3) := by decide +kernel
theorem dX3_fillingByRow_25 : decode cX3_fillingByRow 25 = .ok (.aload_n 2, 1) := by decide +kernel
theorem dX3_fillingByRow_26 : decode cX3_fillingByRow 26 = .ok (.iload_n 3, 1) := by decide +kernel
theorem dX3_fillingByRow_27 : decode cX3_fillingByRow 27 = .ok (.iload 6, 2) := by decide +kernel
theorem dX3_fillingByRow_29 : decode cX3_fillingByRow 29 = .ok (.invokevirtual 95, 3) := by decide +kernel
theorem dX3_fillingByRow_32 : decode cX3_fillingByRow 32 = .ok (.iload 5, 2) := by decide +kernel
theorem dX3_fillingByRow_34 : decode cX3_fillingByRow 34 = .ok (.if_icmp .ne 20, 3) := by decide +kernel
theorem dX3_fillingByRow_37 : decode cX3_fillingByRow 37 = .ok (.iconst 1, 1) := by decide +kernel
theorem dX3_fillingByRow_38 : decode cX3_fillingByRow 38 = .ok (.aload_n 1, 1) := by decide +kernel
theorem dX3_fillingByRow_39 : decode cX3_fillingByRow 39 = .ok (.aload_n 0, 1) := by decide +kernel
theorem dX3_fillingByRow_40 : decode cX3_fillingByRow 40 = .ok (.getfield 11, 3) := by decide +kernel
theorem dX3_fillingByRow_43 : decode cX3_fillingByRow 43 = .ok (.iload 4, 2) := by decide +kernel
theorem dX3_fillingByRow_45 : decode cX3_fillingByRow 45 = .ok (.iload 6, 2) := by decide +kernel
theorem dX3_fillingByRow_47 : decode cX3_fillingByRow 47 = .ok (.iadd, 1) := by decide +kernel
theorem dX3_fillingByRow_48 : decode cX3_fillingByRow 48 = .ok (.iaload, 1) := by decide +kernel
theorem dX3_fillingByRow_49 : decode cX3_fillingByRow 49 = .ok (.invokevirtual 98, 3) := by decide +kernel
theorem dX3_fillingByRow_52 : decode cX3_fillingByRow 52 = .ok (.ishl, 1) := by decide +kernel
theorem dX3_fillingByRow_53 : decode cX3_fillingByRow 53 = .ok (.ireturn, 1) := by decide +kernel
theorem dX3_fillingByRow_54 : decode cX3_fillingByRow 54 = .ok (.iinc 6 (-1), 3) := by decide +kernel
theorem dX3_fillingByRow_57 : decode cX3_fillingByRow 57 = .ok (.goto (-48), 3) := by decide +kernel
theorem dX3_fillingByRow_60 : decode cX3_fillingByRow 60 = .ok (.bipush 16, 2) := by decide +kernel
theorem dX3_fillingByRow_62 : decode cX3_fillingByRow 62 = .ok (.ireturn, 1) := by decide +kernel
theorem dX3_fits_0 : decode cX3_fits 0 = .ok (.aload_n 2, 1) := by decide +kernel
theorem dX3_fits_1 : decode cX3_fits 1 = .ok (.iload_n 3, 1) := by decide +kernel
theorem dX3_fits_2 : decode cX3_fits 2 = .ok (.invokevirtual 73, 3) := by decide +kernel
theorem dX3_fits_5 : decode cX3_fits 5 = .ok (.istore 5, 2) := by decide +kernel
theorem dX3_fits_7 : decode cX3_fits 7 = .ok (.iload 5, 2) := by decide +kernel
theorem dX3_fits_9 : decode cX3_fits 9 = .ok (.ifCond .le 15, 3) := by decide +kernel
theorem dX3_fits_12 : decode cX3_fits 12 = .ok (.iload 4, 2) := by decide +kernel
theorem dX3_fits_14 : decode cX3_fits 14 = .ok (.iload 5, 2) := by decide +kernel
theorem dX3_fits_16 : decode cX3_fits 16 = .ok (.iadd, 1) := by decide +kernel
theorem dX3_fits_17 : decode cX3_fits 17 = .ok (.aload_n 0, 1) := by decide +kernel
theorem dX3_fits_18 : decode cX3_fits 18 = .ok (.getfield 15, 3) := by decide +kernel
theorem dX3_fits_21 : decode cX3_fits 21 = .ok (.if_icmp .le 5, 3) := by decide +kernel
theorem dX3_fits_24 : decode cX3_fits 24 = .ok (.iconst 0, 1) := by decide +kernel
theorem dX3_fits_25 : decode cX3_fits 25 = .ok (.ireturn, 1) := by decide +kernel
theorem dX3_fits_26 : decode cX3_fits 26 = .ok (.iconst 0, 1) := by decide +kernel
theorem dX3_fits_27 : decode cX3_fits 27 = .ok (.istore 6, 2) := by decide +kernel
theorem dX3_fits_29 : decode cX3_fits 29 = .ok (.iload 6, 2) := by decide +kernel
theorem dX3_fits_31 : decode cX3_fits 31 = .ok (.iload 5, 2) := by decide +kernel
theorem dX3_fits_33 : decode cX3_fits 33 = .ok (.if_icmp .ge 42, 3) := by decide +kernel
theorem dX3_fits_36 : decode cX3_fits 36 = .ok (.aload_n 1, 1) := by decide +kernel
theorem dX3_fits_37 : decode cX3_fits 37 = .ok (.aload_n 2, 1) := by decide +kernel
theorem dX3_fits_38 : decode cX3_fits 38 = .ok (.iload_n 3, 1) := by decide +kernel
theorem dX3_fits_39 : decode cX3_fits 39 = .ok (.iload 6, 2) := by decide +kernel
theorem dX3_fits_41 : decode cX3_fits 41 = .ok (.invokevirtual 92, 3) := by decide +kernel
theorem dX3_fits_44 : decode cX3_fits 44 = .ok (.aload_n 2, 1) := by decide +kernel
theorem dX3_fits_45 : decode cX3_fits 45 = .ok (.iload_n 3, 1) := by decide +kernel
theorem dX3_fits_46 : decode cX3_fits 46 = .ok (.iload 6, 2) := by decide +kernel
theorem dX3_fits_48 : decode cX3_fits 48 = .ok (.invokevirtual 95, 3) := by decide +kernel
theorem dX3_fits_51 : decode cX3_fits 51 = .ok (.aload_n 0, 1) := by decide +kernel
theorem dX3_fits_52 : decode cX3_fits 52 = .ok (.getfield 11, 3) := by decide +kernel
theorem dX3_fits_55 : decode cX3_fits 55 = .ok (.iload 4, 2) := by decide +kernel
theorem dX3_fits_57 : decode cX3_fits 57 = .ok (.iload 6, 2) := by decide +kernel
theorem dX3_fits_59 : decode cX3_fits 59 = .ok (.iadd, 1) := by decide +kernel
theorem dX3_fits_60 : decode cX3_fits 60 = .ok (.iaload, 1) := by decide +kernel
theorem dX3_fits_61 : decode cX3_fits 61 = .ok (.invokestatic 103, 3) := by decide +kernel
theorem dX3_fits_64 : decode cX3_fits 64 = .ok (.ifCond .ne 5, 3) := by decide +kernel
theorem dX3_fits_67 : decode cX3_fits 67 = .ok (.iconst 0, 1) := by decide +kernel
theorem dX3_fits_68 : decode cX3_fits 68 = .ok (.ireturn, 1) := by decide +kernel
theorem dX3_fits_69 : decode cX3_fits 69 = .ok (.iinc 6 1, 3) := by decide +kernel
theorem dX3_fits_72 : decode cX3_fits 72 = .ok (.goto (-43), 3) := by decide +kernel
theorem dX3_fits_75 : decode cX3_fits 75 = .ok (.iconst 1, 1) := by decide +kernel
theorem dX3_fits_76 : decode cX3_fits 76 = .ok (.ireturn, 1) := by decide +kernel
theorem dX3_itemFits_0 : decode cX3_itemFits 0 = .ok (.iload_n 1, 1) := by decide +kernel
theorem dX3_itemFits_1 : decode cX3_itemFits 1 = .ok (.tableswitch 55 0 2 #[27, 38, 53], 27) := by decide +kernel
theorem dX3_itemFits_28 : decode cX3_itemFits 28 = .ok (.iload_n 3, 1) := by decide +kernel
theorem dX3_itemFits_29 : decode cX3_itemFits 29 = .ok (.iload_n 2, 1) := by decide +kernel
theorem dX3_itemFits_30 : decode cX3_itemFits 30 = .ok (.if_icmp .ne 7, 3) := by decide +kernel
theorem dX3_itemFits_33 : decode cX3_itemFits 33 = .ok (.iconst 1, 1) := by decide +kernel
theorem dX3_itemFits_34 : decode cX3_itemFits 34 = .ok (.goto 4, 3) := by decide +kernel
theorem dX3_itemFits_37 : decode cX3_itemFits 37 = .ok (.iconst 0, 1) := by decide +kernel
theorem dX3_itemFits_38 : decode cX3_itemFits 38 = .ok (.ireturn, 1) := by decide +kernel
theorem dX3_itemFits_39 : decode cX3_itemFits 39 = .ok (.aload_n 0, 1) := by decide +kernel
theorem dX3_itemFits_40 : decode cX3_itemFits 40 = .ok (.iload_n 3, 1) := by decide +kernel
theorem dX3_itemFits_41 : decode cX3_itemFits 41 = .ok (.invokevirtual 107, 3) := by decide +kernel
theorem dX3_itemFits_44 : decode cX3_itemFits 44 = .ok (.iload_n 2, 1) := by decide +kernel
theorem dX3_itemFits_45 : decode cX3_itemFits 45 = .ok (.if_icmp .ne 7, 3) := by decide +kernel
theorem dX3_itemFits_48 : decode cX3_itemFits 48 = .ok (.iconst 1, 1) := by decide +kernel
theorem dX3_itemFits_49 : decode cX3_itemFits 49 = .ok (.goto 4, 3) := by decide +kernel
theorem dX3_itemFits_52 : decode cX3_itemFits 52 = .ok (.iconst 0, 1) := by decide +kernel
theorem dX3_itemFits_53 : decode cX3_itemFits 53 = .ok (.ireturn, 1) := by decide +kernel
theorem dX3_itemFits_54 : decode cX3_itemFits 54 = .ok (.iconst 1, 1) := by decide +kernel
theorem dX3_itemFits_55 : decode cX3_itemFits 55 = .ok (.ireturn, 1) := by decide +kernel
theorem dX3_itemFits_56 : decode cX3_itemFits 56 = .ok (.iconst 0, 1) := by decide +kernel
theorem dX3_itemFits_57 : decode cX3_itemFits 57 = .ok (.ireturn, 1) := by decide +kernel
theorem dX3_commonAnswer_0 : decode cX3_commonAnswer 0 = .ok (.aload_n 0, 1) := by decide +kernel
theorem dX3_commonAnswer_1 : decode cX3_commonAnswer 1 = .ok (.getfield 15, 3) := by decide +kernel
theorem dX3_commonAnswer_4 : decode cX3_commonAnswer 4 = .ok (.ifCond .le 21, 3) := by decide +kernel
theorem dX3_commonAnswer_7 : decode cX3_commonAnswer 7 = .ok (.aload_n 0, 1) := by decide +kernel
theorem dX3_commonAnswer_8 : decode cX3_commonAnswer 8 = .ok (.getfield 19, 3) := by decide +kernel
theorem dX3_commonAnswer_11 : decode cX3_commonAnswer 11 = .ok (.iconst 0, 1) := by decide +kernel
theorem dX3_commonAnswer_12 : decode cX3_commonAnswer 12 = .ok (.iaload, 1) := by decide +kernel
theorem dX3_commonAnswer_13 : decode cX3_commonAnswer 13 = .ok (.bipush 6, 2) := by decide +kernel
theorem dX3_commonAnswer_15 : decode cX3_commonAnswer 15 = .ok (.aload_n 0, 1) := by decide +kernel
theorem dX3_commonAnswer_16 : decode cX3_commonAnswer 16 = .ok (.getfield 19, 3) := by decide +kernel
theorem dX3_commonAnswer_19 : decode cX3_commonAnswer 19 = .ok (.iconst 1, 1) := by decide +kernel
theorem dX3_commonAnswer_20 : decode cX3_commonAnswer 20 = .ok (.iaload, 1) := by decide +kernel
theorem dX3_commonAnswer_21 : decode cX3_commonAnswer 21 = .ok (.iadd, 1) := by decide +kernel
theorem dX3_commonAnswer_22 : decode cX3_commonAnswer 22 = .ok (.if_icmp .ne 5, 3) := by decide +kernel
theorem dX3_commonAnswer_25 : decode cX3_commonAnswer 25 = .ok (.iconst (-1), 1) := by decide +kernel
theorem dX3_commonAnswer_26 : decode cX3_commonAnswer 26 = .ok (.ireturn, 1) := by decide +kernel
theorem dX3_commonAnswer_27 : decode cX3_commonAnswer 27 = .ok (.iconst (-1), 1) := by decide +kernel
theorem dX3_commonAnswer_28 : decode cX3_commonAnswer 28 = .ok (.istore 4, 2) := by decide +kernel
theorem dX3_commonAnswer_30 : decode cX3_commonAnswer 30 = .ok (.iconst 0, 1) := by decide +kernel
theorem dX3_commonAnswer_31 : decode cX3_commonAnswer 31 = .ok (.istore 5, 2) := by decide +kernel
theorem dX3_commonAnswer_33 : decode cX3_commonAnswer 33 = .ok (.iload 5, 2) := by decide +kernel
theorem dX3_commonAnswer_35 : decode cX3_commonAnswer 35 = .ok (.aload_n 3, 1) := by decide +kernel
theorem dX3_commonAnswer_36 : decode cX3_commonAnswer 36 = .ok (.invokevirtual 51, 3) := by decide +kernel
theorem dX3_commonAnswer_39 : decode cX3_commonAnswer 39 = .ok (.if_icmp .ge 110, 3) := by decide +kernel
theorem dX3_commonAnswer_42 : decode cX3_commonAnswer 42 = .ok (.aload_n 3, 1) := by decide +kernel
theorem dX3_commonAnswer_43 : decode cX3_commonAnswer 43 = .ok (.iload 5, 2) := by decide +kernel
theorem dX3_commonAnswer_45 : decode cX3_commonAnswer 45 = .ok (.iload_n 2, 1) := by decide +kernel
theorem dX3_commonAnswer_46 : decode cX3_commonAnswer 46 = .ok (.invokevirtual 57, 3) := by decide +kernel
theorem dX3_commonAnswer_49 : decode cX3_commonAnswer 49 = .ok (.ifCond .eq 94, 3) := by decide +kernel
theorem dX3_commonAnswer_52 : decode cX3_commonAnswer 52 = .ok (.aload_n 0, 1) := by decide +kernel
theorem dX3_commonAnswer_53 : decode cX3_commonAnswer 53 = .ok (.aload_n 1, 1) := by decide +kernel
theorem dX3_commonAnswer_54 : decode cX3_commonAnswer 54 = .ok (.aload_n 3, 1) := by decide +kernel
theorem dX3_commonAnswer_55 : decode cX3_commonAnswer 55 = .ok (.iload 5, 2) := by decide +kernel
theorem dX3_commonAnswer_57 : decode cX3_commonAnswer 57 = .ok (.iconst 0, 1) := by decide +kernel
theorem dX3_commonAnswer_58 : decode cX3_commonAnswer 58 = .ok (.invokevirtual 61, 3) := by decide +kernel
theorem dX3_commonAnswer_61 : decode cX3_commonAnswer 61 = .ok (.ifCond .eq 82, 3) := by decide +kernel
theorem dX3_commonAnswer_64 : decode cX3_commonAnswer 64 = .ok (.aload_n 3, 1) := by decide +kernel
theorem dX3_commonAnswer_65 : decode cX3_commonAnswer 65 = .ok (.iload 5, 2) := by decide +kernel
theorem dX3_commonAnswer_67 : decode cX3_commonAnswer 67 = .ok (.invokevirtual 77, 3) := by decide +kernel
theorem dX3_commonAnswer_70 : decode cX3_commonAnswer 70 = .ok (.aload_n 0, 1) := by decide +kernel
theorem dX3_commonAnswer_71 : decode cX3_commonAnswer 71 = .ok (.getfield 19, 3) := by decide +kernel
theorem dX3_commonAnswer_74 : decode cX3_commonAnswer 74 = .ok (.aload_n 3, 1) := by decide +kernel
theorem dX3_commonAnswer_75 : decode cX3_commonAnswer 75 = .ok (.iload 5, 2) := by decide +kernel
theorem dX3_commonAnswer_77 : decode cX3_commonAnswer 77 = .ok (.invokevirtual 73, 3) := by decide +kernel
theorem dX3_commonAnswer_80 : decode cX3_commonAnswer 80 = .ok (.iaload, 1) := by decide +kernel
theorem dX3_commonAnswer_81 : decode cX3_commonAnswer 81 = .ok (.iadd, 1) := by decide +kernel
theorem dX3_commonAnswer_82 : decode cX3_commonAnswer 82 = .ok (.aload_n 0, 1) := by decide +kernel
theorem dX3_commonAnswer_83 : decode cX3_commonAnswer 83 = .ok (.getfield 19, 3) := by decide +kernel
theorem dX3_commonAnswer_86 : decode cX3_commonAnswer 86 = .ok (.iconst 0, 1) := by decide +kernel
theorem dX3_commonAnswer_87 : decode cX3_commonAnswer 87 = .ok (.iaload, 1) := by decide +kernel
theorem dX3_commonAnswer_88 : decode cX3_commonAnswer 88 = .ok (.if_icmp .ne 55, 3) := by decide +kernel
theorem dX3_commonAnswer_91 : decode cX3_commonAnswer 91 = .ok (.iload 4, 2) := by decide +kernel
theorem dX3_commonAnswer_93 : decode cX3_commonAnswer 93 = .ok (.iconst (-1), 1) := by decide +kernel
theorem dX3_commonAnswer_94 : decode cX3_commonAnswer 94 = .ok (.if_icmp .eq 18, 3) := by decide +kernel
theorem dX3_commonAnswer_97 : decode cX3_commonAnswer 97 = .ok (.iload 4, 2) := by decide +kernel
theorem dX3_commonAnswer_99 : decode cX3_commonAnswer 99 = .ok (.aload_n 3, 1) := by decide +kernel
theorem dX3_commonAnswer_100 : decode cX3_commonAnswer 100 = .ok (.iload 5, 2) := by decide +kernel
theorem dX3_commonAnswer_102 : decode cX3_commonAnswer 102 = .ok (.invokevirtual 110, 3) := by decide +kernel
theorem dX3_commonAnswer_105 : decode cX3_commonAnswer 105 = .ok (.if_icmp .eq 7, 3) := by decide +kernel
theorem dX3_commonAnswer_108 : decode cX3_commonAnswer 108 = .ok (.iconst 1, 1) := by decide +kernel
theorem dX3_commonAnswer_109 : decode cX3_commonAnswer 109 = .ok (.goto 4, 3) := by decide +kernel
theorem dX3_commonAnswer_112 : decode cX3_commonAnswer 112 = .ok (.iconst 0, 1) := by decide +kernel
theorem dX3_commonAnswer_113 : decode cX3_commonAnswer 113 = .ok (.istore 6, 2) := by decide +kernel
theorem dX3_commonAnswer_115 : decode cX3_commonAnswer 115 = .ok (.iload 6, 2) := by decide +kernel
theorem dX3_commonAnswer_117 : decode cX3_commonAnswer 117 = .ok (.ifCond .ne 16, 3) := by decide +kernel
theorem dX3_commonAnswer_120 : decode cX3_commonAnswer 120 = .ok (.aload_n 3, 1) := by decide +kernel
theorem dX3_commonAnswer_121 : decode cX3_commonAnswer 121 = .ok (.iload 5, 2) := by decide +kernel
theorem dX3_commonAnswer_123 : decode cX3_commonAnswer 123 = .ok (.invokevirtual 73, 3) := by decide +kernel
theorem dX3_commonAnswer_126 : decode cX3_commonAnswer 126 = .ok (.aload_n 0, 1) := by decide +kernel
theorem dX3_commonAnswer_127 : decode cX3_commonAnswer 127 = .ok (.getfield 15, 3) := by decide +kernel
theorem dX3_commonAnswer_130 : decode cX3_commonAnswer 130 = .ok (.if_icmp .eq 5, 3) := by decide +kernel
theorem dX3_commonAnswer_133 : decode cX3_commonAnswer 133 = .ok (.iconst (-1), 1) := by decide +kernel
theorem dX3_commonAnswer_134 : decode cX3_commonAnswer 134 = .ok (.ireturn, 1) := by decide +kernel
theorem dX3_commonAnswer_135 : decode cX3_commonAnswer 135 = .ok (.aload_n 3, 1) := by decide +kernel
theorem dX3_commonAnswer_136 : decode cX3_commonAnswer 136 = .ok (.iload 5, 2) := by decide +kernel
theorem dX3_commonAnswer_138 : decode cX3_commonAnswer 138 = .ok (.invokevirtual 110, 3) := by decide +kernel
theorem dX3_commonAnswer_141 : decode cX3_commonAnswer 141 = .ok (.istore 4, 2) := by decide +kernel
theorem dX3_commonAnswer_143 : decode cX3_commonAnswer 143 = .ok (.iinc 5 1, 3) := by decide +kernel
theorem dX3_commonAnswer_146 : decode cX3_commonAnswer 146 = .ok (.goto (-113), 3) := by decide +kernel
theorem dX3_commonAnswer_149 : decode cX3_commonAnswer 149 = .ok (.iload 4, 2) := by decide +kernel
theorem dX3_commonAnswer_151 : decode cX3_commonAnswer 151 = .ok (.ireturn, 1) := by decide +kernel
theorem dX4_init_0 : decode cX4_init 0 = .ok (.aload_n 0, 1) := by decide +kernel
theorem dX4_init_1 : decode cX4_init 1 = .ok (.invokespecial 3, 3) := by decide +kernel
theorem dX4_init_4 : decode cX4_init 4 = .ok (.aload_n 0, 1) := by decide +kernel
theorem dX4_init_5 : decode cX4_init 5 = .ok (.iconst 0, 1) := by decide +kernel
theorem dX4_init_6 : decode cX4_init 6 = .ok (.putfield 9, 3) := by decide +kernel
theorem dX4_init_9 : decode cX4_init 9 = .ok (.aload_n 0, 1) := by decide +kernel
theorem dX4_init_10 : decode cX4_init 10 = .ok (.iconst 0, 1) := by decide +kernel
theorem dX4_init_11 : decode cX4_init 11 = .ok (.putfield 15, 3) := by decide +kernel
theorem dX4_init_14 : decode cX4_init 14 = .ok (.aload_n 0, 1) := by decide +kernel
theorem dX4_init_15 : decode cX4_init 15 = .ok (.bipush 20, 2) := by decide +kernel
theorem dX4_init_17 : decode cX4_init 17 = .ok (.newarray .int, 2) := by decide +kernel
theorem dX4_init_19 : decode cX4_init 19 = .ok (.putfield 18, 3) := by decide +kernel
theorem dX4_init_22 : decode cX4_init 22 = .ok (.aload_n 0, 1) := by decide +kernel
theorem dX4_init_23 : decode cX4_init 23 = .ok (.bipush 20, 2) := by decide +kernel
theorem dX4_init_25 : decode cX4_init 25 = .ok (.newarray .int, 2) := by decide +kernel
theorem dX4_init_27 : decode cX4_init 27 = .ok (.putfield 22, 3) := by decide +kernel
theorem dX4_init_30 : decode cX4_init 30 = .ok (.aload_n 0, 1) := by decide +kernel
theorem dX4_init_31 : decode cX4_init 31 = .ok (.bipush 20, 2) := by decide +kernel
theorem dX4_init_33 : decode cX4_init 33 = .ok (.newarray .int, 2) := by decide +kernel
theorem dX4_init_35 : decode cX4_init 35 = .ok (.putfield 25, 3) := by decide +kernel
theorem dX4_init_38 : decode cX4_init 38 = .ok (.aload_n 0, 1) := by decide +kernel
theorem dX4_init_39 : decode cX4_init 39 = .ok (.bipush 20, 2) := by decide +kernel
theorem dX4_init_41 : decode cX4_init 41 = .ok (.newarray .int, 2) := by decide +kernel
theorem dX4_init_43 : decode cX4_init 43 = .ok (.putfield 28, 3) := by decide +kernel
theorem dX4_init_46 : decode cX4_init 46 = .ok (.aload_n 0, 1) := by decide +kernel
theorem dX4_init_47 : decode cX4_init 47 = .ok (.bipush 84, 2) := by decide +kernel
theorem dX4_init_49 : decode cX4_init 49 = .ok (.newarray .int, 2) := by decide +kernel
theorem dX4_init_51 : decode cX4_init 51 = .ok (.putfield 31, 3) := by decide +kernel
theorem dX4_init_54 : decode cX4_init 54 = .ok (.aload_n 0, 1) := by decide +kernel
theorem dX4_init_55 : decode cX4_init 55 = .ok (.bipush 84, 2) := by decide +kernel
theorem dX4_init_57 : decode cX4_init 57 = .ok (.newarray .int, 2) := by decide +kernel
theorem dX4_init_59 : decode cX4_init 59 = .ok (.putfield 34, 3) := by decide +kernel
theorem dX4_init_62 : decode cX4_init 62 = .ok (.return_, 1) := by decide +kernel
theorem dX4_rowCount_0 : decode cX4_rowCount 0 = .ok (.aload_n 0, 1) := by decide +kernel
theorem dX4_rowCount_1 : decode cX4_rowCount 1 = .ok (.getfield 9, 3) := by decide +kernel
theorem dX4_rowCount_4 : decode cX4_rowCount 4 = .ok (.ireturn, 1) := by decide +kernel
theorem dX4_itemCount_0 : decode cX4_itemCount 0 = .ok (.aload_n 0, 1) := by decide +kernel
theorem dX4_itemCount_1 : decode cX4_itemCount 1 = .ok (.getfield 15, 3) := by decide +kernel
theorem dX4_itemCount_4 : decode cX4_itemCount 4 = .ok (.ireturn, 1) := by decide +kernel
theorem dX4_addItem_0 : decode cX4_addItem 0 = .ok (.aload_n 0, 1) := by decide +kernel
theorem dX4_addItem_1 : decode cX4_addItem 1 = .ok (.getfield 15, 3) := by decide +kernel
theorem dX4_addItem_4 : decode cX4_addItem 4 = .ok (.iconst 4, 1) := by decide +kernel
theorem dX4_addItem_5 : decode cX4_addItem 5 = .ok (.if_icmp .lt 6, 3) := by decide +kernel
theorem dX4_addItem_8 : decode cX4_addItem 8 = .ok (.bipush (-4), 2) := by decide +kernel
theorem dX4_addItem_10 : decode cX4_addItem 10 = .ok (.ireturn, 1) := by decide +kernel
theorem dX4_addItem_11 : decode cX4_addItem 11 = .ok (.aload_n 0, 1) := by decide +kernel
theorem dX4_addItem_12 : decode cX4_addItem 12 = .ok (.getfield 31, 3) := by decide +kernel
theorem dX4_addItem_15 : decode cX4_addItem 15 = .ok (.aload_n 0, 1) := by decide +kernel
theorem dX4_addItem_16 : decode cX4_addItem 16 = .ok (.getfield 9, 3) := by decide +kernel
theorem dX4_addItem_19 : decode cX4_addItem 19 = .ok (.iconst 4, 1) := by decide +kernel
theorem dX4_addItem_20 : decode cX4_addItem 20 = .ok (.imul, 1) := by decide +kernel
theorem dX4_addItem_21 : decode cX4_addItem 21 = .ok (.aload_n 0, 1) := by decide +kernel
theorem dX4_addItem_22 : decode cX4_addItem 22 = .ok (.getfield 15, 3) := by decide +kernel
theorem dX4_addItem_25 : decode cX4_addItem 25 = .ok (.iadd, 1) := by decide +kernel
theorem dX4_addItem_26 : decode cX4_addItem 26 = .ok (.iload_n 1, 1) := by decide +kernel
theorem dX4_addItem_27 : decode cX4_addItem 27 = .ok (.iastore, 1) := by decide +kernel
theorem dX4_addItem_28 : decode cX4_addItem 28 = .ok (.aload_n 0, 1) := by decide +kernel
theorem dX4_addItem_29 : decode cX4_addItem 29 = .ok (.getfield 34, 3) := by decide +kernel
theorem dX4_addItem_32 : decode cX4_addItem 32 = .ok (.aload_n 0, 1) := by decide +kernel
theorem dX4_addItem_33 : decode cX4_addItem 33 = .ok (.getfield 9, 3) := by decide +kernel
theorem dX4_addItem_36 : decode cX4_addItem 36 = .ok (.iconst 4, 1) := by decide +kernel
theorem dX4_addItem_37 : decode cX4_addItem 37 = .ok (.imul, 1) := by decide +kernel
theorem dX4_addItem_38 : decode cX4_addItem 38 = .ok (.aload_n 0, 1) := by decide +kernel
theorem dX4_addItem_39 : decode cX4_addItem 39 = .ok (.getfield 15, 3) := by decide +kernel
theorem dX4_addItem_42 : decode cX4_addItem 42 = .ok (.iadd, 1) := by decide +kernel
theorem dX4_addItem_43 : decode cX4_addItem 43 = .ok (.iload_n 2, 1) := by decide +kernel
theorem dX4_addItem_44 : decode cX4_addItem 44 = .ok (.iastore, 1) := by decide +kernel
theorem dX4_addItem_45 : decode cX4_addItem 45 = .ok (.aload_n 0, 1) := by decide +kernel
theorem dX4_addItem_46 : decode cX4_addItem 46 = .ok (.dup, 1) := by decide +kernel
theorem dX4_addItem_47 : decode cX4_addItem 47 = .ok (.getfield 15, 3) := by decide +kernel
theorem dX4_addItem_50 : decode cX4_addItem 50 = .ok (.iconst 1, 1) := by decide +kernel
theorem dX4_addItem_51 : decode cX4_addItem 51 = .ok (.iadd, 1) := by decide +kernel
theorem dX4_addItem_52 : decode cX4_addItem 52 = .ok (.putfield 15, 3) := by decide +kernel
theorem dX4_addItem_55 : decode cX4_addItem 55 = .ok (.aload_n 0, 1) := by decide +kernel
theorem dX4_addItem_56 : decode cX4_addItem 56 = .ok (.getfield 15, 3) := by decide +kernel
theorem dX4_addItem_59 : decode cX4_addItem 59 = .ok (.ireturn, 1) := by decide +kernel
theorem dX4_itemsNamePlace_0 : decode cX4_itemsNamePlace 0 = .ok (.iconst 0, 1) := by decide +kernel
theorem dX4_itemsNamePlace_1 : decode cX4_itemsNamePlace 1 = .ok (.istore_n 1, 1) := by decide +kernel
theorem dX4_itemsNamePlace_2 : decode cX4_itemsNamePlace 2 = .ok (.iload_n 1, 1) := by decide +kernel
theorem dX4_itemsNamePlace_3 : decode cX4_itemsNamePlace 3 = .ok (.aload_n 0, 1) := by decide +kernel
theorem dX4_itemsNamePlace_4 : decode cX4_itemsNamePlace 4 = .ok (.getfield 15, 3) := by decide +kernel
theorem dX4_itemsNamePlace_7 : decode cX4_itemsNamePlace 7 = .ok (.if_icmp .ge 28, 3) := by decide +kernel
theorem dX4_itemsNamePlace_10 : decode cX4_itemsNamePlace 10 = .ok (.aload_n 0, 1) := by decide +kernel
theorem dX4_itemsNamePlace_11 : decode cX4_itemsNamePlace 11 = .ok (.getfield 31, 3) := by decide +kernel
theorem dX4_itemsNamePlace_14 : decode cX4_itemsNamePlace 14 = .ok (.aload_n 0, 1) := by decide +kernel
theorem dX4_itemsNamePlace_15 : decode cX4_itemsNamePlace 15 = .ok (.getfield 9, 3) := by decide +kernel
theorem dX4_itemsNamePlace_18 : decode cX4_itemsNamePlace 18 = .ok (.iconst 4, 1) := by decide +kernel
theorem dX4_itemsNamePlace_19 : decode cX4_itemsNamePlace 19 = .ok (.imul, 1) := by decide +kernel
theorem dX4_itemsNamePlace_20 : decode cX4_itemsNamePlace 20 = .ok (.iload_n 1, 1) := by decide +kernel
theorem dX4_itemsNamePlace_21 : decode cX4_itemsNamePlace 21 = .ok (.iadd, 1) := by decide +kernel
theorem dX4_itemsNamePlace_22 : decode cX4_itemsNamePlace 22 = .ok (.iaload, 1) := by decide +kernel
theorem dX4_itemsNamePlace_23 : decode cX4_itemsNamePlace 23 = .ok (.iconst 1, 1) := by decide +kernel
theorem dX4_itemsNamePlace_24 : decode cX4_itemsNamePlace 24 = .ok (.if_icmp .ne 5, 3) := by decide +kernel
theorem dX4_itemsNamePlace_27 : decode cX4_itemsNamePlace 27 = .ok (.iconst 1, 1) := by decide +kernel
theorem dX4_itemsNamePlace_28 : decode cX4_itemsNamePlace 28 = .ok (.ireturn, 1) := by decide +kernel
theorem dX4_itemsNamePlace_29 : decode cX4_itemsNamePlace 29 = .ok (.iinc 1 1, 3) := by decide +kernel
theorem dX4_itemsNamePlace_32 : decode cX4_itemsNamePlace 32 = .ok (.goto (-30), 3) := by decide +kernel
theorem dX4_itemsNamePlace_35 : decode cX4_itemsNamePlace 35 = .ok (.iconst 0, 1) := by decide +kernel
theorem dX4_itemsNamePlace_36 : decode cX4_itemsNamePlace 36 = .ok (.ireturn, 1) := by decide +kernel
theorem dX4_itemsLackPlace_0 : decode cX4_itemsLackPlace 0 = .ok (.iconst 0, 1) := by decide +kernel
theorem dX4_itemsLackPlace_1 : decode cX4_itemsLackPlace 1 = .ok (.istore_n 2, 1) := by decide +kernel
theorem dX4_itemsLackPlace_2 : decode cX4_itemsLackPlace 2 = .ok (.iload_n 2, 1) := by decide +kernel
theorem dX4_itemsLackPlace_3 : decode cX4_itemsLackPlace 3 = .ok (.aload_n 0, 1) := by decide +kernel
theorem dX4_itemsLackPlace_4 : decode cX4_itemsLackPlace 4 = .ok (.getfield 15, 3) := by decide +kernel
theorem dX4_itemsLackPlace_7 : decode cX4_itemsLackPlace 7 = .ok (.if_icmp .ge 43, 3) := by decide +kernel
theorem dX4_itemsLackPlace_10 : decode cX4_itemsLackPlace 10 = .ok (.aload_n 0, 1) := by decide +kernel
theorem dX4_itemsLackPlace_11 : decode cX4_itemsLackPlace 11 = .ok (.getfield 9, 3) := by decide +kernel
theorem dX4_itemsLackPlace_14 : decode cX4_itemsLackPlace 14 = .ok (.iconst 4, 1) := by decide +kernel
theorem dX4_itemsLackPlace_15 : decode cX4_itemsLackPlace 15 = .ok (.imul, 1) := by decide +kernel
theorem dX4_itemsLackPlace_16 : decode cX4_itemsLackPlace 16 = .ok (.iload_n 2, 1) := by decide +kernel
theorem dX4_itemsLackPlace_17 : decode cX4_itemsLackPlace 17 = .ok (.iadd, 1) := by decide +kernel
theorem dX4_itemsLackPlace_18 : decode cX4_itemsLackPlace 18 = .ok (.istore_n 3, 1) := by decide +kernel
theorem dX4_itemsLackPlace_19 : decode cX4_itemsLackPlace 19 = .ok (.aload_n 0, 1) := by decide +kernel
theorem dX4_itemsLackPlace_20 : decode cX4_itemsLackPlace 20 = .ok (.getfield 31, 3) := by decide +kernel
theorem dX4_itemsLackPlace_23 : decode cX4_itemsLackPlace 23 = .ok (.iload_n 3, 1) := by decide +kernel
theorem dX4_itemsLackPlace_24 : decode cX4_itemsLackPlace 24 = .ok (.iaload, 1) := by decide +kernel
theorem dX4_itemsLackPlace_25 : decode cX4_itemsLackPlace 25 = .ok (.iconst 1, 1) := by decide +kernel
theorem dX4_itemsLackPlace_26 : decode cX4_itemsLackPlace 26 = .ok (.if_icmp .ne 18, 3) := by decide +kernel
theorem dX4_itemsLackPlace_29 : decode cX4_itemsLackPlace 29 = .ok (.aload_n 1, 1) := by decide +kernel
theorem dX4_itemsLackPlace_30 : decode cX4_itemsLackPlace 30 = .ok (.aload_n 0, 1) := by decide +kernel
theorem dX4_itemsLackPlace_31 : decode cX4_itemsLackPlace 31 = .ok (.getfield 34, 3) := by decide +kernel
theorem dX4_itemsLackPlace_34 : decode cX4_itemsLackPlace 34 = .ok (.iload_n 3, 1) := by decide +kernel
theorem dX4_itemsLackPlace_35 : decode cX4_itemsLackPlace 35 = .ok (.iaload, 1) := by decide +kernel
theorem dX4_itemsLackPlace_36 : decode cX4_itemsLackPlace 36 = .ok (.invokevirtual 37, 3) := by decide +kernel
theorem dX4_itemsLackPlace_39 : decode cX4_itemsLackPlace 39 = .ok (.ifCond .ne 5, 3) := by decide +kernel
theorem dX4_itemsLackPlace_42 : decode cX4_itemsLackPlace 42 = .ok (.iconst 1, 1) := by decide +kernel
theorem dX4_itemsLackPlace_43 : decode cX4_itemsLackPlace 43 = .ok (.ireturn, 1) := by decide +kernel
theorem dX4_itemsLackPlace_44 : decode cX4_itemsLackPlace 44 = .ok (.iinc 2 1, 3) := by decide +kernel
theorem dX4_itemsLackPlace_47 : decode cX4_itemsLackPlace 47 = .ok (.goto (-45), 3) := by decide +kernel
theorem dX4_itemsLackPlace_50 : decode cX4_itemsLackPlace 50 = .ok (.iconst 0, 1) := by decide +kernel
theorem dX4_itemsLackPlace_51 : decode cX4_itemsLackPlace 51 = .ok (.ireturn, 1) := by decide +kernel
theorem dX4_itemsNameWorked_0 : decode cX4_itemsNameWorked 0 = .ok (.iconst 0, 1) := by decide +kernel
theorem dX4_itemsNameWorked_1 : decode cX4_itemsNameWorked 1 = .ok (.istore_n 2, 1) := by decide +kernel
theorem dX4_itemsNameWorked_2 : decode cX4_itemsNameWorked 2 = .ok (.iload_n 2, 1) := by decide +kernel
theorem dX4_itemsNameWorked_3 : decode cX4_itemsNameWorked 3 = .ok (.aload_n 0, 1) := by decide +kernel
theorem dX4_itemsNameWorked_4 : decode cX4_itemsNameWorked 4 = .ok (.getfield 15, 3) := by decide +kernel
theorem dX4_itemsNameWorked_7 : decode cX4_itemsNameWorked 7 = .ok (.if_icmp .ge 43, 3) := by decide +kernel
theorem dX4_itemsNameWorked_10 : decode cX4_itemsNameWorked 10 = .ok (.aload_n 0, 1) := by decide +kernel
theorem dX4_itemsNameWorked_11 : decode cX4_itemsNameWorked 11 = .ok (.getfield 9, 3) := by decide +kernel
theorem dX4_itemsNameWorked_14 : decode cX4_itemsNameWorked 14 = .ok (.iconst 4, 1) := by decide +kernel
theorem dX4_itemsNameWorked_15 : decode cX4_itemsNameWorked 15 = .ok (.imul, 1) := by decide +kernel
theorem dX4_itemsNameWorked_16 : decode cX4_itemsNameWorked 16 = .ok (.iload_n 2, 1) := by decide +kernel
theorem dX4_itemsNameWorked_17 : decode cX4_itemsNameWorked 17 = .ok (.iadd, 1) := by decide +kernel
theorem dX4_itemsNameWorked_18 : decode cX4_itemsNameWorked 18 = .ok (.istore_n 3, 1) := by decide +kernel
theorem dX4_itemsNameWorked_19 : decode cX4_itemsNameWorked 19 = .ok (.aload_n 0, 1) := by decide +kernel
theorem dX4_itemsNameWorked_20 : decode cX4_itemsNameWorked 20 = .ok (.getfield 31, 3) := by decide +kernel
theorem dX4_itemsNameWorked_23 : decode cX4_itemsNameWorked 23 = .ok (.iload_n 3, 1) := by decide +kernel
theorem dX4_itemsNameWorked_24 : decode cX4_itemsNameWorked 24 = .ok (.iaload, 1) := by decide +kernel
theorem dX4_itemsNameWorked_25 : decode cX4_itemsNameWorked 25 = .ok (.iconst 1, 1) := by decide +kernel
theorem dX4_itemsNameWorked_26 : decode cX4_itemsNameWorked 26 = .ok (.if_icmp .ne 18, 3) := by decide +kernel
theorem dX4_itemsNameWorked_29 : decode cX4_itemsNameWorked 29 = .ok (.aload_n 1, 1) := by decide +kernel
theorem dX4_itemsNameWorked_30 : decode cX4_itemsNameWorked 30 = .ok (.aload_n 0, 1) := by decide +kernel
theorem dX4_itemsNameWorked_31 : decode cX4_itemsNameWorked 31 = .ok (.getfield 34, 3) := by decide +kernel
theorem dX4_itemsNameWorked_34 : decode cX4_itemsNameWorked 34 = .ok (.iload_n 3, 1) := by decide +kernel
theorem dX4_itemsNameWorked_35 : decode cX4_itemsNameWorked 35 = .ok (.iaload, 1) := by decide +kernel
theorem dX4_itemsNameWorked_36 : decode cX4_itemsNameWorked 36 = .ok (.invokevirtual 43, 3) := by decide +kernel
theorem dX4_itemsNameWorked_39 : decode cX4_itemsNameWorked 39 = .ok (.ifCond .eq 5, 3) := by decide +kernel
theorem dX4_itemsNameWorked_42 : decode cX4_itemsNameWorked 42 = .ok (.iconst 1, 1) := by decide +kernel
theorem dX4_itemsNameWorked_43 : decode cX4_itemsNameWorked 43 = .ok (.ireturn, 1) := by decide +kernel
theorem dX4_itemsNameWorked_44 : decode cX4_itemsNameWorked 44 = .ok (.iinc 2 1, 3) := by decide +kernel
theorem dX4_itemsNameWorked_47 : decode cX4_itemsNameWorked 47 = .ok (.goto (-45), 3) := by decide +kernel
theorem dX4_itemsNameWorked_50 : decode cX4_itemsNameWorked 50 = .ok (.iconst 0, 1) := by decide +kernel
theorem dX4_itemsNameWorked_51 : decode cX4_itemsNameWorked 51 = .ok (.ireturn, 1) := by decide +kernel
theorem dX4_addRow_0 : decode cX4_addRow 0 = .ok (.aload_n 0, 1) := by decide +kernel
theorem dX4_addRow_1 : decode cX4_addRow 1 = .ok (.getfield 15, 3) := by decide +kernel
theorem dX4_addRow_4 : decode cX4_addRow 4 = .ok (.ifCond .gt 6, 3) := by decide +kernel
theorem dX4_addRow_7 : decode cX4_addRow 7 = .ok (.bipush (-3), 2) := by decide +kernel
theorem dX4_addRow_9 : decode cX4_addRow 9 = .ok (.ireturn, 1) := by decide +kernel
theorem dX4_addRow_10 : decode cX4_addRow 10 = .ok (.aload_n 0, 1) := by decide +kernel
theorem dX4_addRow_11 : decode cX4_addRow 11 = .ok (.getfield 9, 3) := by decide +kernel
theorem dX4_addRow_14 : decode cX4_addRow 14 = .ok (.bipush 20, 2) := by decide +kernel
theorem dX4_addRow_16 : decode cX4_addRow 16 = .ok (.if_icmp .lt 6, 3) := by decide +kernel
theorem dX4_addRow_19 : decode cX4_addRow 19 = .ok (.bipush (-4), 2) := by decide +kernel
theorem dX4_addRow_21 : decode cX4_addRow 21 = .ok (.ireturn, 1) := by decide +kernel
theorem dX4_addRow_22 : decode cX4_addRow 22 = .ok (.aload_n 0, 1) := by decide +kernel
theorem dX4_addRow_23 : decode cX4_addRow 23 = .ok (.getfield 18, 3) := by decide +kernel
theorem dX4_addRow_26 : decode cX4_addRow 26 = .ok (.aload_n 0, 1) := by decide +kernel
theorem dX4_addRow_27 : decode cX4_addRow 27 = .ok (.getfield 9, 3) := by decide +kernel
theorem dX4_addRow_30 : decode cX4_addRow 30 = .ok (.iload_n 1, 1) := by decide +kernel
theorem dX4_addRow_31 : decode cX4_addRow 31 = .ok (.iastore, 1) := by decide +kernel
theorem dX4_addRow_32 : decode cX4_addRow 32 = .ok (.aload_n 0, 1) := by decide +kernel
theorem dX4_addRow_33 : decode cX4_addRow 33 = .ok (.getfield 22, 3) := by decide +kernel
theorem dX4_addRow_36 : decode cX4_addRow 36 = .ok (.aload_n 0, 1) := by decide +kernel
theorem dX4_addRow_37 : decode cX4_addRow 37 = .ok (.getfield 9, 3) := by decide +kernel
theorem dX4_addRow_40 : decode cX4_addRow 40 = .ok (.iload_n 2, 1) := by decide +kernel
theorem dX4_addRow_41 : decode cX4_addRow 41 = .ok (.iastore, 1) := by decide +kernel
theorem dX4_addRow_42 : decode cX4_addRow 42 = .ok (.aload_n 0, 1) := by decide +kernel
theorem dX4_addRow_43 : decode cX4_addRow 43 = .ok (.getfield 25, 3) := by decide +kernel
theorem dX4_addRow_46 : decode cX4_addRow 46 = .ok (.aload_n 0, 1) := by decide +kernel
theorem dX4_addRow_47 : decode cX4_addRow 47 = .ok (.getfield 9, 3) := by decide +kernel
theorem dX4_addRow_50 : decode cX4_addRow 50 = .ok (.iload_n 3, 1) := by decide +kernel
theorem dX4_addRow_51 : decode cX4_addRow 51 = .ok (.iastore, 1) := by decide +kernel
theorem dX4_addRow_52 : decode cX4_addRow 52 = .ok (.aload_n 0, 1) := by decide +kernel
theorem dX4_addRow_53 : decode cX4_addRow 53 = .ok (.getfield 28, 3) := by decide +kernel
theorem dX4_addRow_56 : decode cX4_addRow 56 = .ok (.aload_n 0, 1) := by decide +kernel
theorem dX4_addRow_57 : decode cX4_addRow 57 = .ok (.getfield 9, 3) := by decide +kernel
theorem dX4_addRow_60 : decode cX4_addRow 60 = .ok (.aload_n 0, 1) := by decide +kernel
theorem dX4_addRow_61 : decode cX4_addRow 61 = .ok (.getfield 15, 3) := by decide +kernel
theorem dX4_addRow_64 : decode cX4_addRow 64 = .ok (.iastore, 1) := by decide +kernel
theorem dX4_addRow_65 : decode cX4_addRow 65 = .ok (.aload_n 0, 1) := by decide +kernel
theorem dX4_addRow_66 : decode cX4_addRow 66 = .ok (.iconst 0, 1) := by decide +kernel
theorem dX4_addRow_67 : decode cX4_addRow 67 = .ok (.putfield 15, 3) := by decide +kernel
theorem dX4_addRow_70 : decode cX4_addRow 70 = .ok (.aload_n 0, 1) := by decide +kernel
theorem dX4_addRow_71 : decode cX4_addRow 71 = .ok (.dup, 1) := by decide +kernel
theorem dX4_addRow_72 : decode cX4_addRow 72 = .ok (.getfield 9, 3) := by decide +kernel
theorem dX4_addRow_75 : decode cX4_addRow 75 = .ok (.iconst 1, 1) := by decide +kernel
theorem dX4_addRow_76 : decode cX4_addRow 76 = .ok (.iadd, 1) := by decide +kernel
theorem dX4_addRow_77 : decode cX4_addRow 77 = .ok (.putfield 9, 3) := by decide +kernel
theorem dX4_addRow_80 : decode cX4_addRow 80 = .ok (.aload_n 0, 1) := by decide +kernel
theorem dX4_addRow_81 : decode cX4_addRow 81 = .ok (.getfield 9, 3) := by decide +kernel
theorem dX4_addRow_84 : decode cX4_addRow 84 = .ok (.iconst 1, 1) := by decide +kernel
theorem dX4_addRow_85 : decode cX4_addRow 85 = .ok (.isub, 1) := by decide +kernel
theorem dX4_addRow_86 : decode cX4_addRow 86 = .ok (.ireturn, 1) := by decide +kernel
theorem dX4_isOfForm_0 : decode cX4_isOfForm 0 = .ok (.aload_n 0, 1) := by decide +kernel
theorem dX4_isOfForm_1 : decode cX4_isOfForm 1 = .ok (.iload_n 1, 1) := by decide +kernel
theorem dX4_isOfForm_2 : decode cX4_isOfForm 2 = .ok (.invokevirtual 46, 3) := by decide +kernel
theorem dX4_isOfForm_5 : decode cX4_isOfForm 5 = .ok (.ifCond .eq 17, 3) := by decide +kernel
theorem dX4_isOfForm_8 : decode cX4_isOfForm 8 = .ok (.aload_n 0, 1) := by decide +kernel
theorem dX4_isOfForm_9 : decode cX4_isOfForm 9 = .ok (.getfield 18, 3) := by decide +kernel
theorem dX4_isOfForm_12 : decode cX4_isOfForm 12 = .ok (.iload_n 1, 1) := by decide +kernel
theorem dX4_isOfForm_13 : decode cX4_isOfForm 13 = .ok (.iaload, 1) := by decide +kernel
theorem dX4_isOfForm_14 : decode cX4_isOfForm 14 = .ok (.iload_n 2, 1) := by decide +kernel
theorem dX4_isOfForm_15 : decode cX4_isOfForm 15 = .ok (.if_icmp .ne 7, 3) := by decide +kernel
theorem dX4_isOfForm_18 : decode cX4_isOfForm 18 = .ok (.iconst 1, 1) := by decide +kernel
theorem dX4_isOfForm_19 : decode cX4_isOfForm 19 = .ok (.goto 4, 3) := by decide +kernel
theorem dX4_isOfForm_22 : decode cX4_isOfForm 22 = .ok (.iconst 0, 1) := by decide +kernel
theorem dX4_isOfForm_23 : decode cX4_isOfForm 23 = .ok (.ireturn, 1) := by decide +kernel
theorem dX4_costOf_0 : decode cX4_costOf 0 = .ok (.aload_n 0, 1) := by decide +kernel
theorem dX4_costOf_1 : decode cX4_costOf 1 = .ok (.iload_n 1, 1) := by decide +kernel
theorem dX4_costOf_2 : decode cX4_costOf 2 = .ok (.invokevirtual 46, 3) := by decide +kernel
theorem dX4_costOf_5 : decode cX4_costOf 5 = .ok (.ifCond .eq 12, 3) := by decide +kernel
theorem dX4_costOf_8 : decode cX4_costOf 8 = .ok (.aload_n 0, 1) := by decide +kernel
theorem dX4_costOf_9 : decode cX4_costOf 9 = .ok (.getfield 22, 3) := by decide +kernel
theorem dX4_costOf_12 : decode cX4_costOf 12 = .ok (.iload_n 1, 1) := by decide +kernel
theorem dX4_costOf_13 : decode cX4_costOf 13 = .ok (.iaload, 1) := by decide +kernel
theorem dX4_costOf_14 : decode cX4_costOf 14 = .ok (.goto 4, 3) := by decide +kernel
theorem dX4_costOf_17 : decode cX4_costOf 17 = .ok (.iconst 0, 1) := by decide +kernel
theorem dX4_costOf_18 : decode cX4_costOf 18 = .ok (.ireturn, 1) := by decide +kernel
theorem dX4_actOf_0 : decode cX4_actOf 0 = .ok (.aload_n 0, 1) := by decide +kernel
theorem dX4_actOf_1 : decode cX4_actOf 1 = .ok (.iload_n 1, 1) := by decide +kernel
theorem dX4_actOf_2 : decode cX4_actOf 2 = .ok (.invokevirtual 46, 3) := by decide +kernel
theorem dX4_actOf_5 : decode cX4_actOf 5 = .ok (.ifCond .eq 12, 3) := by decide +kernel
theorem dX4_actOf_8 : decode cX4_actOf 8 = .ok (.aload_n 0, 1) := by decide +kernel
theorem dX4_actOf_9 : decode cX4_actOf 9 = .ok (.getfield 25, 3) := by decide +kernel
theorem dX4_actOf_12 : decode cX4_actOf 12 = .ok (.iload_n 1, 1) := by decide +kernel
theorem dX4_actOf_13 : decode cX4_actOf 13 = .ok (.iaload, 1) := by decide +kernel
theorem dX4_actOf_14 : decode cX4_actOf 14 = .ok (.goto 4, 3) := by decide +kernel
theorem dX4_actOf_17 : decode cX4_actOf 17 = .ok (.iconst (-1), 1) := by decide +kernel
theorem dX4_actOf_18 : decode cX4_actOf 18 = .ok (.ireturn, 1) := by decide +kernel
theorem dX4_lengthOf_0 : decode cX4_lengthOf 0 = .ok (.aload_n 0, 1) := by decide +kernel
theorem dX4_lengthOf_1 : decode cX4_lengthOf 1 = .ok (.iload_n 1, 1) := by decide +kernel
theorem dX4_lengthOf_2 : decode cX4_lengthOf 2 = .ok (.invokevirtual 46, 3) := by decide +kernel
theorem dX4_lengthOf_5 : decode cX4_lengthOf 5 = .ok (.ifCond .eq 12, 3) := by decide +kernel
theorem dX4_lengthOf_8 : decode cX4_lengthOf 8 = .ok (.aload_n 0, 1) := by decide +kernel
theorem dX4_lengthOf_9 : decode cX4_lengthOf 9 = .ok (.getfield 28, 3) := by decide +kernel
theorem dX4_lengthOf_12 : decode cX4_lengthOf 12 = .ok (.iload_n 1, 1) := by decide +kernel
theorem dX4_lengthOf_13 : decode cX4_lengthOf 13 = .ok (.iaload, 1) := by decide +kernel
theorem dX4_lengthOf_14 : decode cX4_lengthOf 14 = .ok (.goto 4, 3) := by decide +kernel
theorem dX4_lengthOf_17 : decode cX4_lengthOf 17 = .ok (.iconst 0, 1) := by decide +kernel
theorem dX4_lengthOf_18 : decode cX4_lengthOf 18 = .ok (.ireturn, 1) := by decide +kernel
theorem dX4_kindOfItem_0 : decode cX4_kindOfItem 0 = .ok (.aload_n 0, 1) := by decide +kernel
theorem dX4_kindOfItem_1 : decode cX4_kindOfItem 1 = .ok (.iload_n 1, 1) := by decide +kernel
theorem dX4_kindOfItem_2 : decode cX4_kindOfItem 2 = .ok (.iload_n 2, 1) := by decide +kernel
theorem dX4_kindOfItem_3 : decode cX4_kindOfItem 3 = .ok (.invokevirtual 49, 3) := by decide +kernel
theorem dX4_kindOfItem_6 : decode cX4_kindOfItem 6 = .ok (.ifCond .eq 16, 3) := by decide +kernel
theorem dX4_kindOfItem_9 : decode cX4_kindOfItem 9 = .ok (.aload_n 0, 1) := by decide +kernel
theorem dX4_kindOfItem_10 : decode cX4_kindOfItem 10 = .ok (.getfield 31, 3) := by decide +kernel
theorem dX4_kindOfItem_13 : decode cX4_kindOfItem 13 = .ok (.iload_n 1, 1) := by decide +kernel
theorem dX4_kindOfItem_14 : decode cX4_kindOfItem 14 = .ok (.iconst 4, 1) := by decide +kernel
theorem dX4_kindOfItem_15 : decode cX4_kindOfItem 15 = .ok (.imul, 1) := by decide +kernel
theorem dX4_kindOfItem_16 : decode cX4_kindOfItem 16 = .ok (.iload_n 2, 1) := by decide +kernel
theorem dX4_kindOfItem_17 : decode cX4_kindOfItem 17 = .ok (.iadd, 1) := by decide +kernel
theorem dX4_kindOfItem_18 : decode cX4_kindOfItem 18 = .ok (.iaload, 1) := by decide +kernel
theorem dX4_kindOfItem_19 : decode cX4_kindOfItem 19 = .ok (.goto 4, 3) := by decide +kernel
theorem dX4_kindOfItem_22 : decode cX4_kindOfItem 22 = .ok (.iconst (-1), 1) := by decide +kernel
theorem dX4_kindOfItem_23 : decode cX4_kindOfItem 23 = .ok (.ireturn, 1) := by decide +kernel
theorem dX4_keyOfItem_0 : decode cX4_keyOfItem 0 = .ok (.aload_n 0, 1) := by decide +kernel
theorem dX4_keyOfItem_1 : decode cX4_keyOfItem 1 = .ok (.iload_n 1, 1) := by decide +kernel
theorem dX4_keyOfItem_2 : decode cX4_keyOfItem 2 = .ok (.iload_n 2, 1) := by decide +kernel
theorem dX4_keyOfItem_3 : decode cX4_keyOfItem 3 = .ok (.invokevirtual 49, 3) := by decide +kernel
theorem dX4_keyOfItem_6 : decode cX4_keyOfItem 6 = .ok (.ifCond .eq 16, 3) := by decide +kernel
theorem dX4_keyOfItem_9 : decode cX4_keyOfItem 9 = .ok (.aload_n 0, 1) := by decide +kernel
theorem dX4_keyOfItem_10 : decode cX4_keyOfItem 10 = .ok (.getfield 34, 3) := by decide +kernel
theorem dX4_keyOfItem_13 : decode cX4_keyOfItem 13 = .ok (.iload_n 1, 1) := by decide +kernel
theorem dX4_keyOfItem_14 : decode cX4_keyOfItem 14 = .ok (.iconst 4, 1) := by decide +kernel
theorem dX4_keyOfItem_15 : decode cX4_keyOfItem 15 = .ok (.imul, 1) := by decide +kernel
theorem dX4_keyOfItem_16 : decode cX4_keyOfItem 16 = .ok (.iload_n 2, 1) := by decide +kernel
theorem dX4_keyOfItem_17 : decode cX4_keyOfItem 17 = .ok (.iadd, 1) := by decide +kernel
theorem dX4_keyOfItem_18 : decode cX4_keyOfItem 18 = .ok (.iaload, 1) := by decide +kernel
theorem dX4_keyOfItem_19 : decode cX4_keyOfItem 19 = .ok (.goto 4, 3) := by decide +kernel
theorem dX4_keyOfItem_22 : decode cX4_keyOfItem 22 = .ok (.iconst (-1), 1) := by decide +kernel
theorem dX4_keyOfItem_23 : decode cX4_keyOfItem 23 = .ok (.ireturn, 1) := by decide +kernel
theorem dX4_isRow_0 : decode cX4_isRow 0 = .ok (.iload_n 1, 1) := by decide +kernel
theorem dX4_isRow_1 : decode cX4_isRow 1 = .ok (.ifCond .lt 21, 3) := by decide +kernel
theorem dX4_isRow_4 : decode cX4_isRow 4 = .ok (.iload_n 1, 1) := by decide +kernel
theorem dX4_isRow_5 : decode cX4_isRow 5 = .ok (.aload_n 0, 1) := by decide +kernel
theorem dX4_isRow_6 : decode cX4_isRow 6 = .ok (.getfield 9, 3) := by decide +kernel
theorem dX4_isRow_9 : decode cX4_isRow 9 = .ok (.if_icmp .ge 13, 3) := by decide +kernel
theorem dX4_isRow_12 : decode cX4_isRow 12 = .ok (.iload_n 1, 1) := by decide +kernel
theorem dX4_isRow_13 : decode cX4_isRow 13 = .ok (.bipush 20, 2) := by decide +kernel
theorem dX4_isRow_15 : decode cX4_isRow 15 = .ok (.if_icmp .ge 7, 3) := by decide +kernel
theorem dX4_isRow_18 : decode cX4_isRow 18 = .ok (.iconst 1, 1) := by decide +kernel
theorem dX4_isRow_19 : decode cX4_isRow 19 = .ok (.goto 4, 3) := by decide +kernel
theorem dX4_isRow_22 : decode cX4_isRow 22 = .ok (.iconst 0, 1) := by decide +kernel
theorem dX4_isRow_23 : decode cX4_isRow 23 = .ok (.ireturn, 1) := by decide +kernel
theorem dX4_isItemOf_0 : decode cX4_isItemOf 0 = .ok (.aload_n 0, 1) := by decide +kernel
theorem dX4_isItemOf_1 : decode cX4_isItemOf 1 = .ok (.iload_n 1, 1) := by decide +kernel
theorem dX4_isItemOf_2 : decode cX4_isItemOf 2 = .ok (.invokevirtual 46, 3) := by decide +kernel
theorem dX4_isItemOf_5 : decode cX4_isItemOf 5 = .ok (.ifCond .eq 21, 3) := by decide +kernel
theorem dX4_isItemOf_8 : decode cX4_isItemOf 8 = .ok (.iload_n 2, 1) := by decide +kernel
theorem dX4_isItemOf_9 : decode cX4_isItemOf 9 = .ok (.ifCond .lt 17, 3) := by decide +kernel
theorem dX4_isItemOf_12 : decode cX4_isItemOf 12 = .ok (.iload_n 2, 1) := by decide +kernel
theorem dX4_isItemOf_13 : decode cX4_isItemOf 13 = .ok (.aload_n 0, 1) := by decide +kernel
theorem dX4_isItemOf_14 : decode cX4_isItemOf 14 = .ok (.getfield 28, 3) := by decide +kernel
theorem dX4_isItemOf_17 : decode cX4_isItemOf 17 = .ok (.iload_n 1, 1) := by decide +kernel
theorem dX4_isItemOf_18 : decode cX4_isItemOf 18 = .ok (.iaload, 1) := by decide +kernel
theorem dX4_isItemOf_19 : decode cX4_isItemOf 19 = .ok (.if_icmp .ge 7, 3) := by decide +kernel
theorem dX4_isItemOf_22 : decode cX4_isItemOf 22 = .ok (.iconst 1, 1) := by decide +kernel
theorem dX4_isItemOf_23 : decode cX4_isItemOf 23 = .ok (.goto 4, 3) := by decide +kernel
theorem dX4_isItemOf_26 : decode cX4_isItemOf 26 = .ok (.iconst 0, 1) := by decide +kernel
theorem dX4_isItemOf_27 : decode cX4_isItemOf 27 = .ok (.ireturn, 1) := by decide +kernel
end
section
theorem dX5_init_0 : decode cX5_init 0 = .ok (.aload_n 0, 1) := by decide +kernel
theorem dX5_init_1 : decode cX5_init 1 = .ok (.invokespecial 1, 3) := by decide +kernel
theorem dX5_init_4 : decode cX5_init 4 = .ok (.aload_n 0, 1) := by decide +kernel
theorem dX5_init_5 : decode cX5_init 5 = .ok (.iconst 3, 1) := by decide +kernel
theorem dX5_init_6 : decode cX5_init 6 = .ok (.anewarray 9, 3) := by decide +kernel
theorem dX5_init_9 : decode cX5_init 9 = .ok (.putfield 11, 3) := by decide +kernel
theorem dX5_init_12 : decode cX5_init 12 = .ok (.aload_n 0, 1) := by decide +kernel
theorem dX5_init_13 : decode cX5_init 13 = .ok (.iconst 0, 1) := by decide +kernel
theorem dX5_init_14 : decode cX5_init 14 = .ok (.putfield 15, 3) := by decide +kernel
theorem dX5_init_17 : decode cX5_init 17 = .ok (.aload_n 0, 1) := by decide +kernel
theorem dX5_init_18 : decode cX5_init 18 = .ok (.new 19, 3) := by decide +kernel
theorem dX5_init_21 : decode cX5_init 21 = .ok (.dup, 1) := by decide +kernel
theorem dX5_init_22 : decode cX5_init 22 = .ok (.invokespecial 21, 3) := by decide +kernel
theorem dX5_init_25 : decode cX5_init 25 = .ok (.putfield 22, 3) := by decide +kernel
theorem dX5_init_28 : decode cX5_init 28 = .ok (.aload_n 0, 1) := by decide +kernel
theorem dX5_init_29 : decode cX5_init 29 = .ok (.iconst 3, 1) := by decide +kernel
theorem dX5_init_30 : decode cX5_init 30 = .ok (.newarray .int, 2) := by decide +kernel
theorem dX5_init_32 : decode cX5_init 32 = .ok (.putfield 26, 3) := by decide +kernel
theorem dX5_init_35 : decode cX5_init 35 = .ok (.aload_n 0, 1) := by decide +kernel
theorem dX5_init_36 : decode cX5_init 36 = .ok (.iconst 0, 1) := by decide +kernel
theorem dX5_init_37 : decode cX5_init 37 = .ok (.putfield 30, 3) := by decide +kernel
theorem dX5_init_40 : decode cX5_init 40 = .ok (.aload_n 0, 1) := by decide +kernel
theorem dX5_init_41 : decode cX5_init 41 = .ok (.bipush 8, 2) := by decide +kernel
theorem dX5_init_43 : decode cX5_init 43 = .ok (.newarray .int, 2) := by decide +kernel
theorem dX5_init_45 : decode cX5_init 45 = .ok (.putfield 33, 3) := by decide +kernel
theorem dX5_init_48 : decode cX5_init 48 = .ok (.aload_n 0, 1) := by decide +kernel
theorem dX5_init_49 : decode cX5_init 49 = .ok (.iconst 0, 1) := by decide +kernel
theorem dX5_init_50 : decode cX5_init 50 = .ok (.putfield 36, 3) := by decide +kernel
theorem dX5_init_53 : decode cX5_init 53 = .ok (.aload_n 0, 1) := by decide +kernel
theorem dX5_init_54 : decode cX5_init 54 = .ok (.new 39, 3) := by decide +kernel
theorem dX5_init_57 : decode cX5_init 57 = .ok (.dup, 1) := by decide +kernel
theorem dX5_init_58 : decode cX5_init 58 = .ok (.invokespecial 41, 3) := by decide +kernel
theorem dX5_init_61 : decode cX5_init 61 = .ok (.putfield 42, 3) := by decide +kernel
theorem dX5_init_64 : decode cX5_init 64 = .ok (.aload_n 0, 1) := by decide +kernel
theorem dX5_init_65 : decode cX5_init 65 = .ok (.new 46, 3) := by decide +kernel
theorem dX5_init_68 : decode cX5_init 68 = .ok (.dup, 1) := by decide +kernel
theorem dX5_init_69 : decode cX5_init 69 = .ok (.invokespecial 48, 3) := by decide +kernel
theorem dX5_init_72 : decode cX5_init 72 = .ok (.putfield 49, 3) := by decide +kernel
theorem dX5_init_75 : decode cX5_init 75 = .ok (.aload_n 0, 1) := by decide +kernel
theorem dX5_init_76 : decode cX5_init 76 = .ok (.new 53, 3) := by decide +kernel
theorem dX5_init_79 : decode cX5_init 79 = .ok (.dup, 1) := by decide +kernel
theorem dX5_init_80 : decode cX5_init 80 = .ok (.invokespecial 55, 3) := by decide +kernel
theorem dX5_init_83 : decode cX5_init 83 = .ok (.putfield 56, 3) := by decide +kernel
theorem dX5_init_86 : decode cX5_init 86 = .ok (.aload_n 0, 1) := by decide +kernel
theorem dX5_init_87 : decode cX5_init 87 = .ok (.iconst 0, 1) := by decide +kernel
theorem dX5_init_88 : decode cX5_init 88 = .ok (.putfield 60, 3) := by decide +kernel
theorem dX5_init_91 : decode cX5_init 91 = .ok (.aload_n 0, 1) := by decide +kernel
theorem dX5_init_92 : decode cX5_init 92 = .ok (.iconst (-1), 1) := by decide +kernel
theorem dX5_init_93 : decode cX5_init 93 = .ok (.putfield 63, 3) := by decide +kernel
theorem dX5_init_96 : decode cX5_init 96 = .ok (.aload_n 0, 1) := by decide +kernel
theorem dX5_init_97 : decode cX5_init 97 = .ok (.iconst (-1), 1) := by decide +kernel
theorem dX5_init_98 : decode cX5_init 98 = .ok (.putfield 66, 3) := by decide +kernel
theorem dX5_init_101 : decode cX5_init 101 = .ok (.aload_n 0, 1) := by decide +kernel
theorem dX5_init_102 : decode cX5_init 102 = .ok (.iconst (-1), 1) := by decide +kernel
theorem dX5_init_103 : decode cX5_init 103 = .ok (.putfield 69, 3) := by decide +kernel
theorem dX5_init_106 : decode cX5_init 106 = .ok (.return_, 1) := by decide +kernel
theorem dX5_form_0 : decode cX5_form 0 = .ok (.aload_n 0, 1) := by decide +kernel
theorem dX5_form_1 : decode cX5_form 1 = .ok (.getfield 15, 3) := by decide +kernel
theorem dX5_form_4 : decode cX5_form 4 = .ok (.iconst 3, 1) := by decide +kernel
theorem dX5_form_5 : decode cX5_form 5 = .ok (.if_icmp .lt 6, 3) := by decide +kernel
theorem dX5_form_8 : decode cX5_form 8 = .ok (.bipush (-4), 2) := by decide +kernel
theorem dX5_form_10 : decode cX5_form 10 = .ok (.ireturn, 1) := by decide +kernel
theorem dX5_form_11 : decode cX5_form 11 = .ok (.aload_n 0, 1) := by decide +kernel
theorem dX5_form_12 : decode cX5_form 12 = .ok (.getfield 11, 3) := by decide +kernel
theorem dX5_form_15 : decode cX5_form 15 = .ok (.aload_n 0, 1) := by decide +kernel
theorem dX5_form_16 : decode cX5_form 16 = .ok (.getfield 15, 3) := by decide +kernel
theorem dX5_form_19 : decode cX5_form 19 = .ok (.new 9, 3) := by decide +kernel
theorem dX5_form_22 : decode cX5_form 22 = .ok (.dup, 1) := by decide +kernel
theorem dX5_form_23 : decode cX5_form 23 = .ok (.invokespecial 72, 3) := by decide +kernel
theorem dX5_form_26 : decode cX5_form 26 = .ok (.aastore, 1) := by decide +kernel
theorem dX5_form_27 : decode cX5_form 27 = .ok (.aload_n 0, 1) := by decide +kernel
theorem dX5_form_28 : decode cX5_form 28 = .ok (.dup, 1) := by decide +kernel
theorem dX5_form_29 : decode cX5_form 29 = .ok (.getfield 15, 3) := by decide +kernel
theorem dX5_form_32 : decode cX5_form 32 = .ok (.iconst 1, 1) := by decide +kernel
theorem dX5_form_33 : decode cX5_form 33 = .ok (.iadd, 1) := by decide +kernel
theorem dX5_form_34 : decode cX5_form 34 = .ok (.putfield 15, 3) := by decide +kernel
theorem dX5_form_37 : decode cX5_form 37 = .ok (.aload_n 0, 1) := by decide +kernel
theorem dX5_form_38 : decode cX5_form 38 = .ok (.getfield 15, 3) := by decide +kernel
theorem dX5_form_41 : decode cX5_form 41 = .ok (.iconst 1, 1) := by decide +kernel
theorem dX5_form_42 : decode cX5_form 42 = .ok (.isub, 1) := by decide +kernel
theorem dX5_form_43 : decode cX5_form 43 = .ok (.ireturn, 1) := by decide +kernel
theorem dX5_place_0 : decode cX5_place 0 = .ok (.aload_n 0, 1) := by decide +kernel
theorem dX5_place_1 : decode cX5_place 1 = .ok (.iload_n 1, 1) := by decide +kernel
theorem dX5_place_2 : decode cX5_place 2 = .ok (.invokevirtual 73, 3) := by decide +kernel
theorem dX5_place_5 : decode cX5_place 5 = .ok (.astore 4, 2) := by decide +kernel
theorem dX5_place_7 : decode cX5_place 7 = .ok (.aload 4, 2) := by decide +kernel
theorem dX5_place_9 : decode cX5_place 9 = .ok (.ifnonnull 5, 3) := by decide +kernel
theorem dX5_place_12 : decode cX5_place 12 = .ok (.iconst (-1), 1) := by decide +kernel
theorem dX5_place_13 : decode cX5_place 13 = .ok (.ireturn, 1) := by decide +kernel
theorem dX5_place_14 : decode cX5_place 14 = .ok (.iload_n 2, 1) := by decide +kernel
theorem dX5_place_15 : decode cX5_place 15 = .ok (.ifCond .eq 8, 3) := by decide +kernel
theorem dX5_place_18 : decode cX5_place 18 = .ok (.iload_n 2, 1) := by decide +kernel
theorem dX5_place_19 : decode cX5_place 19 = .ok (.iconst 2, 1) := by decide +kernel
theorem dX5_place_20 : decode cX5_place 20 = .ok (.if_icmp .ne 10, 3) := by decide +kernel
theorem dX5_place_23 : decode cX5_place 23 = .ok (.iload_n 3, 1) := by decide +kernel
theorem dX5_place_24 : decode cX5_place 24 = .ok (.invokestatic 77, 3) := by decide +kernel
theorem dX5_place_27 : decode cX5_place 27 = .ok (.ifCond .ne 6, 3) := by decide +kernel
theorem dX5_place_30 : decode cX5_place 30 = .ok (.bipush (-2), 2) := by decide +kernel
theorem dX5_place_32 : decode cX5_place 32 = .ok (.ireturn, 1) := by decide +kernel
theorem dX5_place_33 : decode cX5_place 33 = .ok (.aload_n 0, 1) := by decide +kernel
theorem dX5_place_34 : decode cX5_place 34 = .ok (.iload_n 1, 1) := by decide +kernel
theorem dX5_place_35 : decode cX5_place 35 = .ok (.invokevirtual 81, 3) := by decide +kernel
theorem dX5_place_38 : decode cX5_place 38 = .ok (.ifCond .eq 6, 3) := by decide +kernel
theorem dX5_place_41 : decode cX5_place 41 = .ok (.bipush (-3), 2) := by decide +kernel
theorem dX5_place_43 : decode cX5_place 43 = .ok (.ireturn, 1) := by decide +kernel
theorem dX5_place_44 : decode cX5_place 44 = .ok (.aload 4, 2) := by decide +kernel
theorem dX5_place_46 : decode cX5_place 46 = .ok (.iload_n 2, 1) := by decide +kernel
theorem dX5_place_47 : decode cX5_place 47 = .ok (.iload_n 3, 1) := by decide +kernel
theorem dX5_place_48 : decode cX5_place 48 = .ok (.iconst 0, 1) := by decide +kernel
theorem dX5_place_49 : decode cX5_place 49 = .ok (.iconst 0, 1) := by decide +kernel
theorem dX5_place_50 : decode cX5_place 50 = .ok (.invokevirtual 84, 3) := by decide +kernel
theorem dX5_place_53 : decode cX5_place 53 = .ok (.ireturn, 1) := by decide +kernel
theorem dX5_worked_0 : decode cX5_worked 0 = .ok (.aload_n 0, 1) := by decide +kernel
theorem dX5_worked_1 : decode cX5_worked 1 = .ok (.iload_n 1, 1) := by decide +kernel
theorem dX5_worked_2 : decode cX5_worked 2 = .ok (.invokevirtual 73, 3) := by decide +kernel
theorem dX5_worked_5 : decode cX5_worked 5 = .ok (.astore 5, 2) := by decide +kernel
theorem dX5_worked_7 : decode cX5_worked 7 = .ok (.aload 5, 2) := by decide +kernel
theorem dX5_worked_9 : decode cX5_worked 9 = .ok (.ifnull 22, 3) := by decide +kernel
theorem dX5_worked_12 : decode cX5_worked 12 = .ok (.aload 5, 2) := by decide +kernel
theorem dX5_worked_14 : decode cX5_worked 14 = .ok (.iload_n 3, 1) := by decide +kernel
theorem dX5_worked_15 : decode cX5_worked 15 = .ok (.invokevirtual 88, 3) := by decide +kernel
theorem dX5_worked_18 : decode cX5_worked 18 = .ok (.ifCond .eq 13, 3) := by decide +kernel
theorem dX5_worked_21 : decode cX5_worked 21 = .ok (.aload 5, 2) := by decide +kernel
theorem dX5_worked_23 : decode cX5_worked 23 = .ok (.iload 4, 2) := by decide +kernel
theorem dX5_worked_25 : decode cX5_worked 25 = .ok (.invokevirtual 88, 3) := by decide +kernel
theorem dX5_worked_28 : decode cX5_worked 28 = .ok (.ifCond .ne 5, 3) := by decide +kernel
theorem dX5_worked_31 : decode cX5_worked 31 = .ok (.iconst (-1), 1) := by decide +kernel
theorem dX5_worked_32 : decode cX5_worked 32 = .ok (.ireturn, 1) := by decide +kernel
theorem dX5_worked_33 : decode cX5_worked 33 = .ok (.iload_n 2, 1) := by decide +kernel
theorem dX5_worked_34 : decode cX5_worked 34 = .ok (.invokestatic 77, 3) := by decide +kernel
theorem dX5_worked_37 : decode cX5_worked 37 = .ok (.ifCond .eq 22, 3) := by decide +kernel
theorem dX5_worked_40 : decode cX5_worked 40 = .ok (.aload 5, 2) := by decide +kernel
theorem dX5_worked_42 : decode cX5_worked 42 = .ok (.iload_n 3, 1) := by decide +kernel
theorem dX5_worked_43 : decode cX5_worked 43 = .ok (.invokevirtual 91, 3) := by decide +kernel
theorem dX5_worked_46 : decode cX5_worked 46 = .ok (.ifCond .ne 13, 3) := by decide +kernel
theorem dX5_worked_49 : decode cX5_worked 49 = .ok (.aload 5, 2) := by decide +kernel
theorem dX5_worked_51 : decode cX5_worked 51 = .ok (.iload 4, 2) := by decide +kernel
theorem dX5_worked_53 : decode cX5_worked 53 = .ok (.invokevirtual 91, 3) := by decide +kernel
theorem dX5_worked_56 : decode cX5_worked 56 = .ok (.ifCond .eq 6, 3) := by decide +kernel
theorem dX5_worked_59 : decode cX5_worked 59 = .ok (.bipush (-2), 2) := by decide +kernel
theorem dX5_worked_61 : decode cX5_worked 61 = .ok (.ireturn, 1) := by decide +kernel
theorem dX5_worked_62 : decode cX5_worked 62 = .ok (.aload_n 0, 1) := by decide +kernel
theorem dX5_worked_63 : decode cX5_worked 63 = .ok (.iload_n 1, 1) := by decide +kernel
theorem dX5_worked_64 : decode cX5_worked 64 = .ok (.invokevirtual 81, 3) := by decide +kernel
theorem dX5_worked_67 : decode cX5_worked 67 = .ok (.ifCond .eq 6, 3) := by decide +kernel
theorem dX5_worked_70 : decode cX5_worked 70 = .ok (.bipush (-3), 2) := by decide +kernel
theorem dX5_worked_72 : decode cX5_worked 72 = .ok (.ireturn, 1) := by decide +kernel
theorem dX5_worked_73 : decode cX5_worked 73 = .ok (.aload 5, 2) := by decide +kernel
theorem dX5_worked_75 : decode cX5_worked 75 = .ok (.iconst 1, 1) := by decide +kernel
theorem dX5_worked_76 : decode cX5_worked 76 = .ok (.iload_n 2, 1) := by decide +kernel
theorem dX5_worked_77 : decode cX5_worked 77 = .ok (.iload_n 3, 1) := by decide +kernel
theorem dX5_worked_78 : decode cX5_worked 78 = .ok (.iload 4, 2) := by decide +kernel
theorem dX5_worked_80 : decode cX5_worked 80 = .ok (.invokevirtual 84, 3) := by decide +kernel
theorem dX5_worked_83 : decode cX5_worked 83 = .ok (.ireturn, 1) := by decide +kernel
theorem dX5_bar_0 : decode cX5_bar 0 = .ok (.aload_n 0, 1) := by decide +kernel
theorem dX5_bar_1 : decode cX5_bar 1 = .ok (.iload_n 1, 1) := by decide +kernel
theorem dX5_bar_2 : decode cX5_bar 2 = .ok (.invokevirtual 73, 3) := by decide +kernel
theorem dX5_bar_5 : decode cX5_bar 5 = .ok (.astore 6, 2) := by decide +kernel
theorem dX5_bar_7 : decode cX5_bar 7 = .ok (.aload 6, 2) := by decide +kernel
theorem dX5_bar_9 : decode cX5_bar 9 = .ok (.ifnull 25, 3) := by decide +kernel
theorem dX5_bar_12 : decode cX5_bar 12 = .ok (.aload 6, 2) := by decide +kernel
theorem dX5_bar_14 : decode cX5_bar 14 = .ok (.iload_n 2, 1) := by decide +kernel
theorem dX5_bar_15 : decode cX5_bar 15 = .ok (.iload_n 3, 1) := by decide +kernel
theorem dX5_bar_16 : decode cX5_bar 16 = .ok (.invokevirtual 94, 3) := by decide +kernel
theorem dX5_bar_19 : decode cX5_bar 19 = .ok (.ifCond .eq 15, 3) := by decide +kernel
theorem dX5_bar_22 : decode cX5_bar 22 = .ok (.aload 6, 2) := by decide +kernel
theorem dX5_bar_24 : decode cX5_bar 24 = .ok (.iload 4, 2) := by decide +kernel
theorem dX5_bar_26 : decode cX5_bar 26 = .ok (.iload 5, 2) := by decide +kernel
theorem dX5_bar_28 : decode cX5_bar 28 = .ok (.invokevirtual 94, 3) := by decide +kernel
theorem dX5_bar_31 : decode cX5_bar 31 = .ok (.ifCond .ne 5, 3) := by decide +kernel
theorem dX5_bar_34 : decode cX5_bar 34 = .ok (.iconst (-1), 1) := by decide +kernel
theorem dX5_bar_35 : decode cX5_bar 35 = .ok (.ireturn, 1) := by decide +kernel
theorem dX5_bar_36 : decode cX5_bar 36 = .ok (.iload_n 2, 1) := by decide +kernel
theorem dX5_bar_37 : decode cX5_bar 37 = .ok (.iload 4, 2) := by decide +kernel
theorem dX5_bar_39 : decode cX5_bar 39 = .ok (.if_icmp .ne 6, 3) := by decide +kernel
theorem dX5_bar_42 : decode cX5_bar 42 = .ok (.bipush (-2), 2) := by decide +kernel
theorem dX5_bar_44 : decode cX5_bar 44 = .ok (.ireturn, 1) := by decide +kernel
theorem dX5_bar_45 : decode cX5_bar 45 = .ok (.aload_n 0, 1) := by decide +kernel
theorem dX5_bar_46 : decode cX5_bar 46 = .ok (.iload_n 1, 1) := by decide +kernel
theorem dX5_bar_47 : decode cX5_bar 47 = .ok (.invokevirtual 81, 3) := by decide +kernel
theorem dX5_bar_50 : decode cX5_bar 50 = .ok (.ifCond .eq 6, 3) := by decide +kernel
theorem dX5_bar_53 : decode cX5_bar 53 = .ok (.bipush (-3), 2) := by decide +kernel
theorem dX5_bar_55 : decode cX5_bar 55 = .ok (.ireturn, 1) := by decide +kernel
theorem dX5_bar_56 : decode cX5_bar 56 = .ok (.aload 6, 2) := by decide +kernel
theorem dX5_bar_58 : decode cX5_bar 58 = .ok (.iconst 0, 1) := by decide +kernel
theorem dX5_bar_59 : decode cX5_bar 59 = .ok (.iload_n 2, 1) := by decide +kernel
theorem dX5_bar_60 : decode cX5_bar 60 = .ok (.iload_n 3, 1) := by decide +kernel
theorem dX5_bar_61 : decode cX5_bar 61 = .ok (.iload 4, 2) := by decide +kernel
theorem dX5_bar_63 : decode cX5_bar 63 = .ok (.iload 5, 2) := by decide +kernel
theorem dX5_bar_65 : decode cX5_bar 65 = .ok (.invokevirtual 98, 3) := by decide +kernel
theorem dX5_bar_68 : decode cX5_bar 68 = .ok (.ireturn, 1) := by decide +kernel
theorem dX5_need_0 : decode cX5_need 0 = .ok (.aload_n 0, 1) := by decide +kernel
theorem dX5_need_1 : decode cX5_need 1 = .ok (.iload_n 1, 1) := by decide +kernel
theorem dX5_need_2 : decode cX5_need 2 = .ok (.invokevirtual 73, 3) := by decide +kernel
theorem dX5_need_5 : decode cX5_need 5 = .ok (.astore 5, 2) := by decide +kernel
theorem dX5_need_7 : decode cX5_need 7 = .ok (.aload 5, 2) := by decide +kernel
theorem dX5_need_9 : decode cX5_need 9 = .ok (.ifnull 23, 3) := by decide +kernel
theorem dX5_need_12 : decode cX5_need 12 = .ok (.aload 5, 2) := by decide +kernel
theorem dX5_need_14 : decode cX5_need 14 = .ok (.iload_n 2, 1) := by decide +kernel
theorem dX5_need_15 : decode cX5_need 15 = .ok (.iload_n 3, 1) := by decide +kernel
theorem dX5_need_16 : decode cX5_need 16 = .ok (.invokevirtual 94, 3) := by decide +kernel
theorem dX5_need_19 : decode cX5_need 19 = .ok (.ifCond .eq 13, 3) := by decide +kernel
theorem dX5_need_22 : decode cX5_need 22 = .ok (.aload 5, 2) := by decide +kernel
theorem dX5_need_24 : decode cX5_need 24 = .ok (.iload 4, 2) := by decide +kernel
theorem dX5_need_26 : decode cX5_need 26 = .ok (.invokevirtual 88, 3) := by decide +kernel
theorem dX5_need_29 : decode cX5_need 29 = .ok (.ifCond .ne 5, 3) := by decide +kernel
theorem dX5_need_32 : decode cX5_need 32 = .ok (.iconst (-1), 1) := by decide +kernel
theorem dX5_need_33 : decode cX5_need 33 = .ok (.ireturn, 1) := by decide +kernel
theorem dX5_need_34 : decode cX5_need 34 = .ok (.iload_n 2, 1) := by decide +kernel
theorem dX5_need_35 : decode cX5_need 35 = .ok (.iload 4, 2) := by decide +kernel
theorem dX5_need_37 : decode cX5_need 37 = .ok (.if_icmp .eq 13, 3) := by decide +kernel
theorem dX5_need_40 : decode cX5_need 40 = .ok (.aload 5, 2) := by decide +kernel
theorem dX5_need_42 : decode cX5_need 42 = .ok (.iload 4, 2) := by decide +kernel
theorem dX5_need_44 : decode cX5_need 44 = .ok (.invokevirtual 91, 3) := by decide +kernel
theorem dX5_need_47 : decode cX5_need 47 = .ok (.ifCond .eq 6, 3) := by decide +kernel
theorem dX5_need_50 : decode cX5_need 50 = .ok (.bipush (-2), 2) := by decide +kernel
theorem dX5_need_52 : decode cX5_need 52 = .ok (.ireturn, 1) := by decide +kernel
theorem dX5_need_53 : decode cX5_need 53 = .ok (.aload_n 0, 1) := by decide +kernel
theorem dX5_need_54 : decode cX5_need 54 = .ok (.iload_n 1, 1) := by decide +kernel
theorem dX5_need_55 : decode cX5_need 55 = .ok (.invokevirtual 81, 3) := by decide +kernel
theorem dX5_need_58 : decode cX5_need 58 = .ok (.ifCond .eq 6, 3) := by decide +kernel
theorem dX5_need_61 : decode cX5_need 61 = .ok (.bipush (-3), 2) := by decide +kernel
theorem dX5_need_63 : decode cX5_need 63 = .ok (.ireturn, 1) := by decide +kernel
theorem dX5_need_64 : decode cX5_need 64 = .ok (.aload 5, 2) := by decide +kernel
theorem dX5_need_66 : decode cX5_need 66 = .ok (.iconst 1, 1) := by decide +kernel
theorem dX5_need_67 : decode cX5_need 67 = .ok (.iload_n 2, 1) := by decide +kernel
theorem dX5_need_68 : decode cX5_need 68 = .ok (.iload_n 3, 1) := by decide +kernel
theorem dX5_need_69 : decode cX5_need 69 = .ok (.iload 4, 2) := by decide +kernel
theorem dX5_need_71 : decode cX5_need 71 = .ok (.iconst 0, 1) := by decide +kernel
theorem dX5_need_72 : decode cX5_need 72 = .ok (.invokevirtual 98, 3) := by decide +kernel
theorem dX5_need_75 : decode cX5_need 75 = .ok (.ireturn, 1) := by decide +kernel
theorem dX5_word_0 : decode cX5_word 0 = .ok (.aload_n 0, 1) := by decide +kernel
theorem dX5_word_1 : decode cX5_word 1 = .ok (.iload_n 1, 1) := by decide +kernel
theorem dX5_word_2 : decode cX5_word 2 = .ok (.invokevirtual 73, 3) := by decide +kernel
theorem dX5_word_5 : decode cX5_word 5 = .ok (.astore 5, 2) := by decide +kernel
theorem dX5_word_7 : decode cX5_word 7 = .ok (.aload 5, 2) := by decide +kernel
theorem dX5_word_9 : decode cX5_word 9 = .ok (.ifnull 21, 3) := by decide +kernel
theorem dX5_word_12 : decode cX5_word 12 = .ok (.aload 5, 2) := by decide +kernel
theorem dX5_word_14 : decode cX5_word 14 = .ok (.iload_n 2, 1) := by decide +kernel
theorem dX5_word_15 : decode cX5_word 15 = .ok (.iload_n 3, 1) := by decide +kernel
theorem dX5_word_16 : decode cX5_word 16 = .ok (.invokevirtual 94, 3) := by decide +kernel
theorem dX5_word_19 : decode cX5_word 19 = .ok (.ifCond .eq 11, 3) := by decide +kernel
theorem dX5_word_22 : decode cX5_word 22 = .ok (.iload 4, 2) := by decide +kernel
theorem dX5_word_24 : decode cX5_word 24 = .ok (.invokestatic 102, 3) := by decide +kernel
theorem dX5_word_27 : decode cX5_word 27 = .ok (.ifCond .ne 5, 3) := by decide +kernel
theorem dX5_word_30 : decode cX5_word 30 = .ok (.iconst (-1), 1) := by decide +kernel
theorem dX5_word_31 : decode cX5_word 31 = .ok (.ireturn, 1) := by decide +kernel
theorem dX5_word_32 : decode cX5_word 32 = .ok (.aload 5, 2) := by decide +kernel
theorem dX5_word_34 : decode cX5_word 34 = .ok (.iload_n 2, 1) := by decide +kernel
theorem dX5_word_35 : decode cX5_word 35 = .ok (.invokevirtual 91, 3) := by decide +kernel
theorem dX5_word_38 : decode cX5_word 38 = .ok (.ifCond .eq 6, 3) := by decide +kernel
theorem dX5_word_41 : decode cX5_word 41 = .ok (.bipush (-2), 2) := by decide +kernel
theorem dX5_word_43 : decode cX5_word 43 = .ok (.ireturn, 1) := by decide +kernel
theorem dX5_word_44 : decode cX5_word 44 = .ok (.aload 5, 2) := by decide +kernel
theorem dX5_word_46 : decode cX5_word 46 = .ok (.iload 4, 2) := by decide +kernel
theorem dX5_word_48 : decode cX5_word 48 = .ok (.invokevirtual 105, 3) := by decide +kernel
theorem dX5_word_51 : decode cX5_word 51 = .ok (.iconst (-1), 1) := by decide +kernel
theorem dX5_word_52 : decode cX5_word 52 = .ok (.if_icmp .eq 6, 3) := by decide +kernel
theorem dX5_word_55 : decode cX5_word 55 = .ok (.bipush (-3), 2) := by decide +kernel
theorem dX5_word_57 : decode cX5_word 57 = .ok (.ireturn, 1) := by decide +kernel
theorem dX5_word_58 : decode cX5_word 58 = .ok (.aload 5, 2) := by decide +kernel
theorem dX5_word_60 : decode cX5_word 60 = .ok (.iload 4, 2) := by decide +kernel
theorem dX5_word_62 : decode cX5_word 62 = .ok (.iload_n 2, 1) := by decide +kernel
theorem dX5_word_63 : decode cX5_word 63 = .ok (.iload_n 3, 1) := by decide +kernel
theorem dX5_word_64 : decode cX5_word 64 = .ok (.invokevirtual 109, 3) := by decide +kernel
theorem dX5_word_67 : decode cX5_word 67 = .ok (.iconst 0, 1) := by decide +kernel
theorem dX5_word_68 : decode cX5_word 68 = .ok (.ireturn, 1) := by decide +kernel
theorem dX5_item_0 : decode cX5_item 0 = .ok (.iload_n 1, 1) := by decide +kernel
theorem dX5_item_1 : decode cX5_item 1 = .ok (.iload_n 2, 1) := by decide +kernel
theorem dX5_item_2 : decode cX5_item 2 = .ok (.invokestatic 113, 3) := by decide +kernel
theorem dX5_item_5 : decode cX5_item 5 = .ok (.ifCond .ne 6, 3) := by decide +kernel
theorem dX5_item_8 : decode cX5_item 8 = .ok (.bipush (-2), 2) := by decide +kernel
theorem dX5_item_10 : decode cX5_item 10 = .ok (.ireturn, 1) := by decide +kernel
theorem dX5_item_11 : decode cX5_item 11 = .ok (.aload_n 0, 1) := by decide +kernel
theorem dX5_item_12 : decode cX5_item 12 = .ok (.getfield 22, 3) := by decide +kernel
theorem dX5_item_15 : decode cX5_item 15 = .ok (.iload_n 1, 1) := by decide +kernel
theorem dX5_item_16 : decode cX5_item 16 = .ok (.iload_n 2, 1) := by decide +kernel
theorem dX5_item_17 : decode cX5_item 17 = .ok (.invokevirtual 116, 3) := by decide +kernel
theorem dX5_item_20 : decode cX5_item 20 = .ok (.ireturn, 1) := by decide +kernel
theorem dX5_row_0 : decode cX5_row 0 = .ok (.aload_n 0, 1) := by decide +kernel
theorem dX5_row_1 : decode cX5_row 1 = .ok (.iload_n 1, 1) := by decide +kernel
theorem dX5_row_2 : decode cX5_row 2 = .ok (.invokevirtual 73, 3) := by decide +kernel
theorem dX5_row_5 : decode cX5_row 5 = .ok (.astore 4, 2) := by decide +kernel
theorem dX5_row_7 : decode cX5_row 7 = .ok (.aload 4, 2) := by decide +kernel
theorem dX5_row_9 : decode cX5_row 9 = .ok (.ifnull 15, 3) := by decide +kernel
theorem dX5_row_12 : decode cX5_row 12 = .ok (.aload_n 0, 1) := by decide +kernel
theorem dX5_row_13 : decode cX5_row 13 = .ok (.getfield 22, 3) := by decide +kernel
theorem dX5_row_16 : decode cX5_row 16 = .ok (.aload 4, 2) := by decide +kernel
theorem dX5_row_18 : decode cX5_row 18 = .ok (.invokevirtual 120, 3) := by decide +kernel
theorem dX5_row_21 : decode cX5_row 21 = .ok (.ifCond .eq 5, 3) := by decide +kernel
theorem dX5_row_24 : decode cX5_row 24 = .ok (.iconst (-1), 1) := by decide +kernel
theorem dX5_row_25 : decode cX5_row 25 = .ok (.ireturn, 1) := by decide +kernel
theorem dX5_row_26 : decode cX5_row 26 = .ok (.iload_n 2, 1) := by decide +kernel
theorem dX5_row_27 : decode cX5_row 27 = .ok (.iconst 1, 1) := by decide +kernel
theorem dX5_row_28 : decode cX5_row 28 = .ok (.if_icmp .lt 18, 3) := by decide +kernel
theorem dX5_row_31 : decode cX5_row 31 = .ok (.iload_n 2, 1) := by decide +kernel
theorem dX5_row_32 : decode cX5_row 32 = .ok (.bipush 9, 2) := by decide +kernel
theorem dX5_row_34 : decode cX5_row 34 = .ok (.if_icmp .gt 12, 3) := by decide +kernel
theorem dX5_row_37 : decode cX5_row 37 = .ok (.iload_n 3, 1) := by decide +kernel
theorem dX5_row_38 : decode cX5_row 38 = .ok (.ifCond .lt 8, 3) := by decide +kernel
theorem dX5_row_41 : decode cX5_row 41 = .ok (.iload_n 3, 1) := by decide +kernel
theorem dX5_row_42 : decode cX5_row 42 = .ok (.iconst 2, 1) := by decide +kernel
theorem dX5_row_43 : decode cX5_row 43 = .ok (.if_icmp .le 6, 3) := by decide +kernel
theorem dX5_row_46 : decode cX5_row 46 = .ok (.bipush (-2), 2) := by decide +kernel
theorem dX5_row_48 : decode cX5_row 48 = .ok (.ireturn, 1) := by decide +kernel
theorem dX5_row_49 : decode cX5_row 49 = .ok (.aload_n 0, 1) := by decide +kernel
theorem dX5_row_50 : decode cX5_row 50 = .ok (.getfield 22, 3) := by decide +kernel
theorem dX5_row_53 : decode cX5_row 53 = .ok (.aload 4, 2) := by decide +kernel
theorem dX5_row_55 : decode cX5_row 55 = .ok (.invokevirtual 124, 3) := by decide +kernel
theorem dX5_row_58 : decode cX5_row 58 = .ok (.ifCond .ne 17, 3) := by decide +kernel
theorem dX5_row_61 : decode cX5_row 61 = .ok (.iload_n 3, 1) := by decide +kernel
theorem dX5_row_62 : decode cX5_row 62 = .ok (.ifCond .eq 16, 3) := by decide +kernel
theorem dX5_row_65 : decode cX5_row 65 = .ok (.aload_n 0, 1) := by decide +kernel
theorem dX5_row_66 : decode cX5_row 66 = .ok (.getfield 22, 3) := by decide +kernel
theorem dX5_row_69 : decode cX5_row 69 = .ok (.invokevirtual 127, 3) := by decide +kernel
theorem dX5_row_72 : decode cX5_row 72 = .ok (.ifCond .eq 6, 3) := by decide +kernel
theorem dX5_row_75 : decode cX5_row 75 = .ok (.bipush (-2), 2) := by decide +kernel
theorem dX5_row_77 : decode cX5_row 77 = .ok (.ireturn, 1) := by decide +kernel
theorem dX5_row_78 : decode cX5_row 78 = .ok (.aload_n 0, 1) := by decide +kernel
theorem dX5_row_79 : decode cX5_row 79 = .ok (.getfield 22, 3) := by decide +kernel
theorem dX5_row_82 : decode cX5_row 82 = .ok (.iload_n 1, 1) := by decide +kernel
theorem dX5_row_83 : decode cX5_row 83 = .ok (.iload_n 2, 1) := by decide +kernel
theorem dX5_row_84 : decode cX5_row 84 = .ok (.iload_n 3, 1) := by decide +kernel
theorem dX5_row_85 : decode cX5_row 85 = .ok (.invokevirtual 131, 3) := by decide +kernel
theorem dX5_row_88 : decode cX5_row 88 = .ok (.ireturn, 1) := by decide +kernel
theorem dX5_open_0 : decode cX5_open 0 = .ok (.aload_n 0, 1) := by decide +kernel
theorem dX5_open_1 : decode cX5_open 1 = .ok (.iload_n 1, 1) := by decide +kernel
theorem dX5_open_2 : decode cX5_open 2 = .ok (.invokevirtual 73, 3) := by decide +kernel
theorem dX5_open_5 : decode cX5_open 5 = .ok (.astore_n 2, 1) := by decide +kernel
theorem dX5_open_6 : decode cX5_open 6 = .ok (.aload_n 2, 1) := by decide +kernel
theorem dX5_open_7 : decode cX5_open 7 = .ok (.ifnonnull 5, 3) := by decide +kernel
theorem dX5_open_10 : decode cX5_open 10 = .ok (.iconst (-1), 1) := by decide +kernel
theorem dX5_open_11 : decode cX5_open 11 = .ok (.ireturn, 1) := by decide +kernel
theorem dX5_open_12 : decode cX5_open 12 = .ok (.aload_n 0, 1) := by decide +kernel
theorem dX5_open_13 : decode cX5_open 13 = .ok (.iload_n 1, 1) := by decide +kernel
theorem dX5_open_14 : decode cX5_open 14 = .ok (.invokevirtual 81, 3) := by decide +kernel
theorem dX5_open_17 : decode cX5_open 17 = .ok (.ifCond .ne 11, 3) := by decide +kernel
theorem dX5_open_20 : decode cX5_open 20 = .ok (.aload_n 0, 1) := by decide +kernel
theorem dX5_open_21 : decode cX5_open 21 = .ok (.getfield 30, 3) := by decide +kernel
theorem dX5_open_24 : decode cX5_open 24 = .ok (.iconst 3, 1) := by decide +kernel
theorem dX5_open_25 : decode cX5_open 25 = .ok (.if_icmp .lt 6, 3) := by decide +kernel
theorem dX5_open_28 : decode cX5_open 28 = .ok (.bipush (-3), 2) := by decide +kernel
theorem dX5_open_30 : decode cX5_open 30 = .ok (.ireturn, 1) := by decide +kernel
theorem dX5_open_31 : decode cX5_open 31 = .ok (.aload_n 2, 1) := by decide +kernel
theorem dX5_open_32 : decode cX5_open 32 = .ok (.invokevirtual 135, 3) := by decide +kernel
theorem dX5_open_35 : decode cX5_open 35 = .ok (.aload_n 0, 1) := by decide +kernel
theorem dX5_open_36 : decode cX5_open 36 = .ok (.getfield 26, 3) := by decide +kernel
theorem dX5_open_39 : decode cX5_open 39 = .ok (.aload_n 0, 1) := by decide +kernel
theorem dX5_open_40 : decode cX5_open 40 = .ok (.getfield 30, 3) := by decide +kernel
theorem dX5_open_43 : decode cX5_open 43 = .ok (.iload_n 1, 1) := by decide +kernel
theorem dX5_open_44 : decode cX5_open 44 = .ok (.iastore, 1) := by decide +kernel
theorem dX5_open_45 : decode cX5_open 45 = .ok (.aload_n 0, 1) := by decide +kernel
theorem dX5_open_46 : decode cX5_open 46 = .ok (.dup, 1) := by decide +kernel
theorem dX5_open_47 : decode cX5_open 47 = .ok (.getfield 30, 3) := by decide +kernel
theorem dX5_open_50 : decode cX5_open 50 = .ok (.iconst 1, 1) := by decide +kernel
theorem dX5_open_51 : decode cX5_open 51 = .ok (.iadd, 1) := by decide +kernel
theorem dX5_open_52 : decode cX5_open 52 = .ok (.putfield 30, 3) := by decide +kernel
theorem dX5_open_55 : decode cX5_open 55 = .ok (.aload_n 0, 1) := by decide +kernel
theorem dX5_open_56 : decode cX5_open 56 = .ok (.invokevirtual 138, 3) := by decide +kernel
theorem dX5_open_59 : decode cX5_open 59 = .ok (.aload_n 0, 1) := by decide +kernel
theorem dX5_open_60 : decode cX5_open 60 = .ok (.getfield 30, 3) := by decide +kernel
theorem dX5_open_63 : decode cX5_open 63 = .ok (.ireturn, 1) := by decide +kernel
theorem dX5_close_0 : decode cX5_close 0 = .ok (.aload_n 0, 1) := by decide +kernel
theorem dX5_close_1 : decode cX5_close 1 = .ok (.getfield 30, 3) := by decide +kernel
theorem dX5_close_4 : decode cX5_close 4 = .ok (.ifCond .gt 6, 3) := by decide +kernel
theorem dX5_close_7 : decode cX5_close 7 = .ok (.bipush (-3), 2) := by decide +kernel
theorem dX5_close_9 : decode cX5_close 9 = .ok (.ireturn, 1) := by decide +kernel
theorem dX5_close_10 : decode cX5_close 10 = .ok (.aload_n 0, 1) := by decide +kernel
theorem dX5_close_11 : decode cX5_close 11 = .ok (.dup, 1) := by decide +kernel
theorem dX5_close_12 : decode cX5_close 12 = .ok (.getfield 30, 3) := by decide +kernel
theorem dX5_close_15 : decode cX5_close 15 = .ok (.iconst 1, 1) := by decide +kernel
theorem dX5_close_16 : decode cX5_close 16 = .ok (.isub, 1) := by decide +kernel
theorem dX5_close_17 : decode cX5_close 17 = .ok (.putfield 30, 3) := by decide +kernel
theorem dX5_close_20 : decode cX5_close 20 = .ok (.aload_n 0, 1) := by decide +kernel
theorem dX5_close_21 : decode cX5_close 21 = .ok (.invokevirtual 138, 3) := by decide +kernel
theorem dX5_close_24 : decode cX5_close 24 = .ok (.aload_n 0, 1) := by decide +kernel
theorem dX5_close_25 : decode cX5_close 25 = .ok (.getfield 26, 3) := by decide +kernel
theorem dX5_close_28 : decode cX5_close 28 = .ok (.aload_n 0, 1) := by decide +kernel
theorem dX5_close_29 : decode cX5_close 29 = .ok (.getfield 30, 3) := by decide +kernel
theorem dX5_close_32 : decode cX5_close 32 = .ok (.iaload, 1) := by decide +kernel
theorem dX5_close_33 : decode cX5_close 33 = .ok (.ireturn, 1) := by decide +kernel
theorem dX5_say_0 : decode cX5_say 0 = .ok (.iload_n 1, 1) := by decide +kernel
theorem dX5_say_1 : decode cX5_say 1 = .ok (.invokestatic 102, 3) := by decide +kernel
theorem dX5_say_4 : decode cX5_say 4 = .ok (.ifCond .ne 5, 3) := by decide +kernel
theorem dX5_say_7 : decode cX5_say 7 = .ok (.iconst (-1), 1) := by decide +kernel
theorem dX5_say_8 : decode cX5_say 8 = .ok (.ireturn, 1) := by decide +kernel
theorem dX5_say_9 : decode cX5_say 9 = .ok (.aload_n 0, 1) := by decide +kernel
theorem dX5_say_10 : decode cX5_say 10 = .ok (.getfield 36, 3) := by decide +kernel
theorem dX5_say_13 : decode cX5_say 13 = .ok (.bipush 8, 2) := by decide +kernel
theorem dX5_say_15 : decode cX5_say 15 = .ok (.if_icmp .lt 6, 3) := by decide +kernel
theorem dX5_say_18 : decode cX5_say 18 = .ok (.bipush (-4), 2) := by decide +kernel
theorem dX5_say_20 : decode cX5_say 20 = .ok (.ireturn, 1) := by decide +kernel
theorem dX5_say_21 : decode cX5_say 21 = .ok (.aload_n 0, 1) := by decide +kernel
theorem dX5_say_22 : decode cX5_say 22 = .ok (.getfield 33, 3) := by decide +kernel
theorem dX5_say_25 : decode cX5_say 25 = .ok (.aload_n 0, 1) := by decide +kernel
theorem dX5_say_26 : decode cX5_say 26 = .ok (.getfield 36, 3) := by decide +kernel
theorem dX5_say_29 : decode cX5_say 29 = .ok (.iload_n 1, 1) := by decide +kernel
theorem dX5_say_30 : decode cX5_say 30 = .ok (.iastore, 1) := by decide +kernel
theorem dX5_say_31 : decode cX5_say 31 = .ok (.aload_n 0, 1) := by decide +kernel
theorem dX5_say_32 : decode cX5_say 32 = .ok (.dup, 1) := by decide +kernel
theorem dX5_say_33 : decode cX5_say 33 = .ok (.getfield 36, 3) := by decide +kernel
theorem dX5_say_36 : decode cX5_say 36 = .ok (.iconst 1, 1) := by decide +kernel
theorem dX5_say_37 : decode cX5_say 37 = .ok (.iadd, 1) := by decide +kernel
theorem dX5_say_38 : decode cX5_say 38 = .ok (.putfield 36, 3) := by decide +kernel
theorem dX5_say_41 : decode cX5_say 41 = .ok (.aload_n 0, 1) := by decide +kernel
theorem dX5_say_42 : decode cX5_say 42 = .ok (.getfield 36, 3) := by decide +kernel
theorem dX5_say_45 : decode cX5_say 45 = .ok (.ireturn, 1) := by decide +kernel
theorem dX5_hear_0 : decode cX5_hear 0 = .ok (.aload_n 0, 1) := by decide +kernel
theorem dX5_hear_1 : decode cX5_hear 1 = .ok (.aload_n 0, 1) := by decide +kernel
theorem dX5_hear_2 : decode cX5_hear 2 = .ok (.invokevirtual 141, 3) := by decide +kernel
theorem dX5_hear_5 : decode cX5_hear 5 = .ok (.invokevirtual 73, 3) := by decide +kernel
theorem dX5_hear_8 : decode cX5_hear 8 = .ok (.astore_n 1, 1) := by decide +kernel
theorem dX5_hear_9 : decode cX5_hear 9 = .ok (.aload_n 0, 1) := by decide +kernel
theorem dX5_hear_10 : decode cX5_hear 10 = .ok (.getfield 36, 3) := by decide +kernel
theorem dX5_hear_13 : decode cX5_hear 13 = .ok (.ifCond .le 7, 3) := by decide +kernel
theorem dX5_hear_16 : decode cX5_hear 16 = .ok (.aload_n 1, 1) := by decide +kernel
theorem dX5_hear_17 : decode cX5_hear 17 = .ok (.ifnonnull 6, 3) := by decide +kernel
theorem dX5_hear_20 : decode cX5_hear 20 = .ok (.bipush (-3), 2) := by decide +kernel
theorem dX5_hear_22 : decode cX5_hear 22 = .ok (.ireturn, 1) := by decide +kernel
theorem dX5_hear_23 : decode cX5_hear 23 = .ok (.aload_n 0, 1) := by decide +kernel
theorem dX5_hear_24 : decode cX5_hear 24 = .ok (.getfield 42, 3) := by decide +kernel
theorem dX5_hear_27 : decode cX5_hear 27 = .ok (.aload_n 1, 1) := by decide +kernel
theorem dX5_hear_28 : decode cX5_hear 28 = .ok (.aload_n 0, 1) := by decide +kernel
theorem dX5_hear_29 : decode cX5_hear 29 = .ok (.invokevirtual 141, 3) := by decide +kernel
theorem dX5_hear_32 : decode cX5_hear 32 = .ok (.aload_n 0, 1) := by decide +kernel
theorem dX5_hear_33 : decode cX5_hear 33 = .ok (.getfield 22, 3) := by decide +kernel
theorem dX5_hear_36 : decode cX5_hear 36 = .ok (.aload_n 0, 1) := by decide +kernel
theorem dX5_hear_37 : decode cX5_hear 37 = .ok (.getfield 33, 3) := by decide +kernel
theorem dX5_hear_40 : decode cX5_hear 40 = .ok (.aload_n 0, 1) := by decide +kernel
theorem dX5_hear_41 : decode cX5_hear 41 = .ok (.getfield 36, 3) := by decide +kernel
theorem dX5_hear_44 : decode cX5_hear 44 = .ok (.invokevirtual 145, 3) := by decide +kernel
theorem dX5_hear_47 : decode cX5_hear 47 = .ok (.aload_n 0, 1) := by decide +kernel
theorem dX5_hear_48 : decode cX5_hear 48 = .ok (.iconst 0, 1) := by decide +kernel
theorem dX5_hear_49 : decode cX5_hear 49 = .ok (.putfield 36, 3) := by decide +kernel
theorem dX5_hear_52 : decode cX5_hear 52 = .ok (.aload_n 0, 1) := by decide +kernel
theorem dX5_hear_53 : decode cX5_hear 53 = .ok (.iconst (-1), 1) := by decide +kernel
theorem dX5_hear_54 : decode cX5_hear 54 = .ok (.putfield 63, 3) := by decide +kernel
theorem dX5_hear_57 : decode cX5_hear 57 = .ok (.aload_n 0, 1) := by decide +kernel
theorem dX5_hear_58 : decode cX5_hear 58 = .ok (.getfield 42, 3) := by decide +kernel
theorem dX5_hear_61 : decode cX5_hear 61 = .ok (.invokevirtual 149, 3) := by decide +kernel
theorem dX5_hear_64 : decode cX5_hear 64 = .ok (.ifCond .ne 28, 3) := by decide +kernel
theorem dX5_hear_67 : decode cX5_hear 67 = .ok (.aload_n 0, 1) := by decide +kernel
theorem dX5_hear_68 : decode cX5_hear 68 = .ok (.iconst 3, 1) := by decide +kernel
theorem dX5_hear_69 : decode cX5_hear 69 = .ok (.aload_n 0, 1) := by decide +kernel
theorem dX5_hear_70 : decode cX5_hear 70 = .ok (.getfield 60, 3) := by decide +kernel
theorem dX5_hear_73 : decode cX5_hear 73 = .ok (.iconst 1, 1) := by decide +kernel
theorem dX5_hear_74 : decode cX5_hear 74 = .ok (.iadd, 1) := by decide +kernel
theorem dX5_hear_75 : decode cX5_hear 75 = .ok (.invokestatic 152, 3) := by decide +kernel
theorem dX5_hear_78 : decode cX5_hear 78 = .ok (.putfield 60, 3) := by decide +kernel
theorem dX5_hear_81 : decode cX5_hear 81 = .ok (.bipush 100, 2) := by decide +kernel
theorem dX5_hear_83 : decode cX5_hear 83 = .ok (.aload_n 0, 1) := by decide +kernel
theorem dX5_hear_84 : decode cX5_hear 84 = .ok (.getfield 42, 3) := by decide +kernel
theorem dX5_hear_87 : decode cX5_hear 87 = .ok (.invokevirtual 157, 3) := by decide +kernel
theorem dX5_hear_90 : decode cX5_hear 90 = .ok (.iadd, 1) := by decide +kernel
theorem dX5_hear_91 : decode cX5_hear 91 = .ok (.ireturn, 1) := by decide +kernel
theorem dX5_hear_92 : decode cX5_hear 92 = .ok (.aload_n 0, 1) := by decide +kernel
theorem dX5_hear_93 : decode cX5_hear 93 = .ok (.iconst 0, 1) := by decide +kernel
theorem dX5_hear_94 : decode cX5_hear 94 = .ok (.putfield 60, 3) := by decide +kernel
theorem dX5_hear_97 : decode cX5_hear 97 = .ok (.aload_n 0, 1) := by decide +kernel
theorem dX5_hear_98 : decode cX5_hear 98 = .ok (.getfield 56, 3) := by decide +kernel
theorem dX5_hear_101 : decode cX5_hear 101 = .ok (.aload_n 0, 1) := by decide +kernel
theorem dX5_hear_102 : decode cX5_hear 102 = .ok (.getfield 11, 3) := by decide +kernel
theorem dX5_hear_105 : decode cX5_hear 105 = .ok (.invokevirtual 160, 3) := by decide +kernel
theorem dX5_hear_108 : decode cX5_hear 108 = .ok (.aload_n 0, 1) := by decide +kernel
theorem dX5_hear_109 : decode cX5_hear 109 = .ok (.aload_n 0, 1) := by decide +kernel
theorem dX5_hear_110 : decode cX5_hear 110 = .ok (.aload_n 1, 1) := by decide +kernel
theorem dX5_hear_111 : decode cX5_hear 111 = .ok (.invokevirtual 164, 3) := by decide +kernel
theorem dX5_hear_114 : decode cX5_hear 114 = .ok (.putfield 63, 3) := by decide +kernel
theorem dX5_hear_117 : decode cX5_hear 117 = .ok (.aload_n 0, 1) := by decide +kernel
theorem dX5_hear_118 : decode cX5_hear 118 = .ok (.invokevirtual 168, 3) := by decide +kernel
theorem dX5_hear_121 : decode cX5_hear 121 = .ok (.aload_n 0, 1) := by decide +kernel
theorem dX5_hear_122 : decode cX5_hear 122 = .ok (.getfield 42, 3) := by decide +kernel
theorem dX5_hear_125 : decode cX5_hear 125 = .ok (.invokevirtual 157, 3) := by decide +kernel
theorem dX5_hear_128 : decode cX5_hear 128 = .ok (.ireturn, 1) := by decide +kernel
theorem dX5_back_0 : decode cX5_back 0 = .ok (.aload_n 0, 1) := by decide +kernel
theorem dX5_back_1 : decode cX5_back 1 = .ok (.getfield 56, 3) := by decide +kernel
theorem dX5_back_4 : decode cX5_back 4 = .ok (.invokevirtual 171, 3) := by decide +kernel
theorem dX5_back_7 : decode cX5_back 7 = .ok (.ifCond .gt 6, 3) := by decide +kernel
theorem dX5_back_10 : decode cX5_back 10 = .ok (.bipush (-3), 2) := by decide +kernel
theorem dX5_back_12 : decode cX5_back 12 = .ok (.ireturn, 1) := by decide +kernel
theorem dX5_back_13 : decode cX5_back 13 = .ok (.aload_n 0, 1) := by decide +kernel
theorem dX5_back_14 : decode cX5_back 14 = .ok (.getfield 56, 3) := by decide +kernel
theorem dX5_back_17 : decode cX5_back 17 = .ok (.aload_n 0, 1) := by decide +kernel
theorem dX5_back_18 : decode cX5_back 18 = .ok (.getfield 11, 3) := by decide +kernel
theorem dX5_back_21 : decode cX5_back 21 = .ok (.invokevirtual 174, 3) := by decide +kernel
theorem dX5_back_24 : decode cX5_back 24 = .ok (.aload_n 0, 1) := by decide +kernel
theorem dX5_back_25 : decode cX5_back 25 = .ok (.invokevirtual 168, 3) := by decide +kernel
theorem dX5_back_28 : decode cX5_back 28 = .ok (.aload_n 0, 1) := by decide +kernel
theorem dX5_back_29 : decode cX5_back 29 = .ok (.getfield 56, 3) := by decide +kernel
theorem dX5_back_32 : decode cX5_back 32 = .ok (.invokevirtual 171, 3) := by decide +kernel
theorem dX5_back_35 : decode cX5_back 35 = .ok (.ireturn, 1) := by decide +kernel
theorem dX5_act_0 : decode cX5_act 0 = .ok (.aload_n 0, 1) := by decide +kernel
theorem dX5_act_1 : decode cX5_act 1 = .ok (.aload_n 0, 1) := by decide +kernel
theorem dX5_act_2 : decode cX5_act 2 = .ok (.invokevirtual 141, 3) := by decide +kernel
theorem dX5_act_5 : decode cX5_act 5 = .ok (.invokevirtual 73, 3) := by decide +kernel
theorem dX5_act_8 : decode cX5_act 8 = .ok (.astore_n 1, 1) := by decide +kernel
theorem dX5_act_9 : decode cX5_act 9 = .ok (.aload_n 1, 1) := by decide +kernel
theorem dX5_act_10 : decode cX5_act 10 = .ok (.ifnonnull 6, 3) := by decide +kernel
theorem dX5_act_13 : decode cX5_act 13 = .ok (.bipush (-3), 2) := by decide +kernel
theorem dX5_act_15 : decode cX5_act 15 = .ok (.ireturn, 1) := by decide +kernel
theorem dX5_act_16 : decode cX5_act 16 = .ok (.aload_n 0, 1) := by decide +kernel
theorem dX5_act_17 : decode cX5_act 17 = .ok (.invokevirtual 168, 3) := by decide +kernel
theorem dX5_act_20 : decode cX5_act 20 = .ok (.aload_n 1, 1) := by decide +kernel
theorem dX5_act_21 : decode cX5_act 21 = .ok (.invokevirtual 177, 3) := by decide +kernel
theorem dX5_act_24 : decode cX5_act 24 = .ok (.ifCond .ne 5, 3) := by decide +kernel
theorem dX5_act_27 : decode cX5_act 27 = .ok (.iconst 0, 1) := by decide +kernel
theorem dX5_act_28 : decode cX5_act 28 = .ok (.ireturn, 1) := by decide +kernel
theorem dX5_act_29 : decode cX5_act 29 = .ok (.aload_n 1, 1) := by decide +kernel
theorem dX5_act_30 : decode cX5_act 30 = .ok (.invokevirtual 180, 3) := by decide +kernel
theorem dX5_act_33 : decode cX5_act 33 = .ok (.istore_n 2, 1) := by decide +kernel
theorem dX5_act_34 : decode cX5_act 34 = .ok (.iload_n 2, 1) := by decide +kernel
theorem dX5_act_35 : decode cX5_act 35 = .ok (.iconst (-1), 1) := by decide +kernel
theorem dX5_act_36 : decode cX5_act 36 = .ok (.if_icmp .eq 33, 3) := by decide +kernel
theorem dX5_act_39 : decode cX5_act 39 = .ok (.aload_n 0, 1) := by decide +kernel
theorem dX5_act_40 : decode cX5_act 40 = .ok (.iload_n 2, 1) := by decide +kernel
theorem dX5_act_41 : decode cX5_act 41 = .ok (.putfield 66, 3) := by decide +kernel
theorem dX5_act_44 : decode cX5_act 44 = .ok (.aload_n 0, 1) := by decide +kernel
theorem dX5_act_45 : decode cX5_act 45 = .ok (.aload_n 1, 1) := by decide +kernel
theorem dX5_act_46 : decode cX5_act 46 = .ok (.iload_n 2, 1) := by decide +kernel
theorem dX5_act_47 : decode cX5_act 47 = .ok (.invokevirtual 183, 3) := by decide +kernel
theorem dX5_act_50 : decode cX5_act 50 = .ok (.putfield 69, 3) := by decide +kernel
theorem dX5_act_53 : decode cX5_act 53 = .ok (.bipush 100, 2) := by decide +kernel
theorem dX5_act_55 : decode cX5_act 55 = .ok (.bipush 10, 2) := by decide +kernel
theorem dX5_act_57 : decode cX5_act 57 = .ok (.aload_n 0, 1) := by decide +kernel
theorem dX5_act_58 : decode cX5_act 58 = .ok (.getfield 66, 3) := by decide +kernel
theorem dX5_act_61 : decode cX5_act 61 = .ok (.imul, 1) := by decide +kernel
theorem dX5_act_62 : decode cX5_act 62 = .ok (.iadd, 1) := by decide +kernel
theorem dX5_act_63 : decode cX5_act 63 = .ok (.aload_n 0, 1) := by decide +kernel
theorem dX5_act_64 : decode cX5_act 64 = .ok (.getfield 69, 3) := by decide +kernel
theorem dX5_act_67 : decode cX5_act 67 = .ok (.iadd, 1) := by decide +kernel
theorem dX5_act_68 : decode cX5_act 68 = .ok (.ireturn, 1) := by decide +kernel
theorem dX5_act_69 : decode cX5_act 69 = .ok (.sipush 200, 3) := by decide +kernel
theorem dX5_act_72 : decode cX5_act 72 = .ok (.bipush 10, 2) := by decide +kernel
theorem dX5_act_74 : decode cX5_act 74 = .ok (.aload_n 0, 1) := by decide +kernel
theorem dX5_act_75 : decode cX5_act 75 = .ok (.getfield 49, 3) := by decide +kernel
theorem dX5_act_78 : decode cX5_act 78 = .ok (.aload_n 1, 1) := by decide +kernel
theorem dX5_act_79 : decode cX5_act 79 = .ok (.invokevirtual 186, 3) := by decide +kernel
theorem dX5_act_82 : decode cX5_act 82 = .ok (.imul, 1) := by decide +kernel
theorem dX5_act_83 : decode cX5_act 83 = .ok (.iadd, 1) := by decide +kernel
theorem dX5_act_84 : decode cX5_act 84 = .ok (.ireturn, 1) := by decide +kernel
theorem dX5_worst_0 : decode cX5_worst 0 = .ok (.aload_n 0, 1) := by decide +kernel
theorem dX5_worst_1 : decode cX5_worst 1 = .ok (.aload_n 0, 1) := by decide +kernel
theorem dX5_worst_2 : decode cX5_worst 2 = .ok (.invokevirtual 141, 3) := by decide +kernel
theorem dX5_worst_5 : decode cX5_worst 5 = .ok (.invokevirtual 73, 3) := by decide +kernel
theorem dX5_worst_8 : decode cX5_worst 8 = .ok (.astore_n 1, 1) := by decide +kernel
theorem dX5_worst_9 : decode cX5_worst 9 = .ok (.aload_n 1, 1) := by decide +kernel
theorem dX5_worst_10 : decode cX5_worst 10 = .ok (.ifnonnull 6, 3) := by decide +kernel
theorem dX5_worst_13 : decode cX5_worst 13 = .ok (.bipush (-3), 2) := by decide +kernel
theorem dX5_worst_15 : decode cX5_worst 15 = .ok (.ireturn, 1) := by decide +kernel
theorem dX5_worst_16 : decode cX5_worst 16 = .ok (.aload_n 0, 1) := by decide +kernel
theorem dX5_worst_17 : decode cX5_worst 17 = .ok (.getfield 49, 3) := by decide +kernel
theorem dX5_worst_20 : decode cX5_worst 20 = .ok (.aload_n 1, 1) := by decide +kernel
theorem dX5_worst_21 : decode cX5_worst 21 = .ok (.invokevirtual 189, 3) := by decide +kernel
theorem dX5_worst_24 : decode cX5_worst 24 = .ok (.ireturn, 1) := by decide +kernel
theorem dX5_about_0 : decode cX5_about 0 = .ok (.aload_n 0, 1) := by decide +kernel
theorem dX5_about_1 : decode cX5_about 1 = .ok (.iload_n 1, 1) := by decide +kernel
theorem dX5_about_2 : decode cX5_about 2 = .ok (.invokevirtual 73, 3) := by decide +kernel
theorem dX5_about_5 : decode cX5_about 5 = .ok (.astore 4, 2) := by decide +kernel
theorem dX5_about_7 : decode cX5_about 7 = .ok (.aload 4, 2) := by decide +kernel
theorem dX5_about_9 : decode cX5_about 9 = .ok (.ifnull 12, 3) := by decide +kernel
theorem dX5_about_12 : decode cX5_about 12 = .ok (.aload 4, 2) := by decide +kernel
theorem dX5_about_14 : decode cX5_about 14 = .ok (.iload_n 2, 1) := by decide +kernel
theorem dX5_about_15 : decode cX5_about 15 = .ok (.invokevirtual 88, 3) := by decide +kernel
theorem dX5_about_18 : decode cX5_about 18 = .ok (.ifCond .ne 5, 3) := by decide +kernel
theorem dX5_about_21 : decode cX5_about 21 = .ok (.iconst (-1), 1) := by decide +kernel
theorem dX5_about_22 : decode cX5_about 22 = .ok (.ireturn, 1) := by decide +kernel
theorem dX5_about_23 : decode cX5_about 23 = .ok (.iload_n 3, 1) := by decide +kernel
theorem dX5_about_24 : decode cX5_about 24 = .ok (.tableswitch 86 0 4 #[36, 43, 62, 72, 79], 36) := by decide +kernel
theorem dX5_about_60 : decode cX5_about 60 = .ok (.aload 4, 2) := by decide +kernel
theorem dX5_about_62 : decode cX5_about 62 = .ok (.iload_n 2, 1) := by decide +kernel
theorem dX5_about_63 : decode cX5_about 63 = .ok (.invokevirtual 192, 3) := by decide +kernel
theorem dX5_about_66 : decode cX5_about 66 = .ok (.ireturn, 1) := by decide +kernel
theorem dX5_about_67 : decode cX5_about 67 = .ok (.aload 4, 2) := by decide +kernel
theorem dX5_about_69 : decode cX5_about 69 = .ok (.iload_n 2, 1) := by decide +kernel
theorem dX5_about_70 : decode cX5_about 70 = .ok (.invokevirtual 195, 3) := by decide +kernel
theorem dX5_about_73 : decode cX5_about 73 = .ok (.iconst (-1), 1) := by decide +kernel
theorem dX5_about_74 : decode cX5_about 74 = .ok (.if_icmp .eq 7, 3) := by decide +kernel
theorem dX5_about_77 : decode cX5_about 77 = .ok (.iconst 1, 1) := by decide +kernel
theorem dX5_about_78 : decode cX5_about 78 = .ok (.goto 4, 3) := by decide +kernel
theorem dX5_about_81 : decode cX5_about 81 = .ok (.iconst 0, 1) := by decide +kernel
theorem dX5_about_82 : decode cX5_about 82 = .ok (.invokestatic 198, 3) := by decide +kernel
theorem dX5_about_85 : decode cX5_about 85 = .ok (.ireturn, 1) := by decide +kernel
theorem dX5_about_86 : decode cX5_about 86 = .ok (.aload 4, 2) := by decide +kernel
theorem dX5_about_88 : decode cX5_about 88 = .ok (.iload_n 2, 1) := by decide +kernel
theorem dX5_about_89 : decode cX5_about 89 = .ok (.invokevirtual 202, 3) := by decide +kernel
theorem dX5_about_92 : decode cX5_about 92 = .ok (.invokestatic 198, 3) := by decide +kernel
theorem dX5_about_95 : decode cX5_about 95 = .ok (.ireturn, 1) := by decide +kernel
theorem dX5_about_96 : decode cX5_about 96 = .ok (.aload 4, 2) := by decide +kernel
theorem dX5_about_98 : decode cX5_about 98 = .ok (.iload_n 2, 1) := by decide +kernel
theorem dX5_about_99 : decode cX5_about 99 = .ok (.invokevirtual 205, 3) := by decide +kernel
theorem dX5_about_102 : decode cX5_about 102 = .ok (.ireturn, 1) := by decide +kernel
theorem dX5_about_103 : decode cX5_about 103 = .ok (.aload 4, 2) := by decide +kernel
theorem dX5_about_105 : decode cX5_about 105 = .ok (.iload_n 2, 1) := by decide +kernel
theorem dX5_about_106 : decode cX5_about 106 = .ok (.invokevirtual 208, 3) := by decide +kernel
theorem dX5_about_109 : decode cX5_about 109 = .ok (.ireturn, 1) := by decide +kernel
theorem dX5_about_110 : decode cX5_about 110 = .ok (.iconst (-1), 1) := by decide +kernel
theorem dX5_about_111 : decode cX5_about 111 = .ok (.ireturn, 1) := by decide +kernel
theorem dX5_said_0 : decode cX5_said 0 = .ok (.aload_n 0, 1) := by decide +kernel
theorem dX5_said_1 : decode cX5_said 1 = .ok (.iload_n 1, 1) := by decide +kernel
theorem dX5_said_2 : decode cX5_said 2 = .ok (.invokevirtual 73, 3) := by decide +kernel
theorem dX5_said_5 : decode cX5_said 5 = .ok (.astore 4, 2) := by decide +kernel
theorem dX5_said_7 : decode cX5_said 7 = .ok (.aload 4, 2) := by decide +kernel
theorem dX5_said_9 : decode cX5_said 9 = .ok (.ifnull 13, 3) := by decide +kernel
theorem dX5_said_12 : decode cX5_said 12 = .ok (.aload 4, 2) := by decide +kernel
theorem dX5_said_14 : decode cX5_said 14 = .ok (.iload_n 2, 1) := by decide +kernel
theorem dX5_said_15 : decode cX5_said 15 = .ok (.iload_n 3, 1) := by decide +kernel
theorem dX5_said_16 : decode cX5_said 16 = .ok (.invokevirtual 94, 3) := by decide +kernel
theorem dX5_said_19 : decode cX5_said 19 = .ok (.ifCond .ne 5, 3) := by decide +kernel
theorem dX5_said_22 : decode cX5_said 22 = .ok (.iconst (-1), 1) := by decide +kernel
theorem dX5_said_23 : decode cX5_said 23 = .ok (.ireturn, 1) := by decide +kernel
theorem dX5_said_24 : decode cX5_said 24 = .ok (.aload 4, 2) := by decide +kernel
theorem dX5_said_26 : decode cX5_said 26 = .ok (.iload_n 2, 1) := by decide +kernel
theorem dX5_said_27 : decode cX5_said 27 = .ok (.iload_n 3, 1) := by decide +kernel
theorem dX5_said_28 : decode cX5_said 28 = .ok (.invokevirtual 211, 3) := by decide +kernel
theorem dX5_said_31 : decode cX5_said 31 = .ok (.ireturn, 1) := by decide +kernel
theorem dX5_heard_0 : decode cX5_heard 0 = .ok (.iload_n 1, 1) := by decide +kernel
theorem dX5_heard_1 : decode cX5_heard 1 = .ok (.tableswitch 75 0 4 #[35, 43, 54, 62, 70], 35) := by decide +kernel
theorem dX5_heard_36 : decode cX5_heard 36 = .ok (.aload_n 0, 1) := by decide +kernel
theorem dX5_heard_37 : decode cX5_heard 37 = .ok (.getfield 42, 3) := by decide +kernel
theorem dX5_heard_40 : decode cX5_heard 40 = .ok (.invokevirtual 157, 3) := by decide +kernel
theorem dX5_heard_43 : decode cX5_heard 43 = .ok (.ireturn, 1) := by decide +kernel
theorem dX5_heard_44 : decode cX5_heard 44 = .ok (.aload_n 0, 1) := by decide +kernel
theorem dX5_heard_45 : decode cX5_heard 45 = .ok (.getfield 42, 3) := by decide +kernel
theorem dX5_heard_48 : decode cX5_heard 48 = .ok (.invokevirtual 149, 3) := by decide +kernel
theorem dX5_heard_51 : decode cX5_heard 51 = .ok (.invokestatic 198, 3) := by decide +kernel
theorem dX5_heard_54 : decode cX5_heard 54 = .ok (.ireturn, 1) := by decide +kernel
theorem dX5_heard_55 : decode cX5_heard 55 = .ok (.aload_n 0, 1) := by decide +kernel
theorem dX5_heard_56 : decode cX5_heard 56 = .ok (.getfield 42, 3) := by decide +kernel
theorem dX5_heard_59 : decode cX5_heard 59 = .ok (.invokevirtual 214, 3) := by decide +kernel
theorem dX5_heard_62 : decode cX5_heard 62 = .ok (.ireturn, 1) := by decide +kernel
theorem dX5_heard_63 : decode cX5_heard 63 = .ok (.aload_n 0, 1) := by decide +kernel
theorem dX5_heard_64 : decode cX5_heard 64 = .ok (.getfield 42, 3) := by decide +kernel
theorem dX5_heard_67 : decode cX5_heard 67 = .ok (.invokevirtual 217, 3) := by decide +kernel
theorem dX5_heard_70 : decode cX5_heard 70 = .ok (.ireturn, 1) := by decide +kernel
theorem dX5_heard_71 : decode cX5_heard 71 = .ok (.aload_n 0, 1) := by decide +kernel
theorem dX5_heard_72 : decode cX5_heard 72 = .ok (.getfield 63, 3) := by decide +kernel
theorem dX5_heard_75 : decode cX5_heard 75 = .ok (.ireturn, 1) := by decide +kernel
theorem dX5_heard_76 : decode cX5_heard 76 = .ok (.iconst (-1), 1) := by decide +kernel
theorem dX5_heard_77 : decode cX5_heard 77 = .ok (.ireturn, 1) := by decide +kernel
theorem dX5_count_0 : decode cX5_count 0 = .ok (.iload_n 1, 1) := by decide +kernel
theorem dX5_count_1 : decode cX5_count 1 = .ok (.tableswitch 108 0 7 #[47, 52, 57, 74, 82, 87, 95, 100], 47) := by decide +kernel
theorem dX5_count_48 : decode cX5_count 48 = .ok (.aload_n 0, 1) := by decide +kernel
theorem dX5_count_49 : decode cX5_count 49 = .ok (.getfield 30, 3) := by decide +kernel
theorem dX5_count_52 : decode cX5_count 52 = .ok (.ireturn, 1) := by decide +kernel
theorem dX5_count_53 : decode cX5_count 53 = .ok (.aload_n 0, 1) := by decide +kernel
theorem dX5_count_54 : decode cX5_count 54 = .ok (.invokevirtual 141, 3) := by decide +kernel
theorem dX5_count_57 : decode cX5_count 57 = .ok (.ireturn, 1) := by decide +kernel
theorem dX5_count_58 : decode cX5_count 58 = .ok (.aload_n 0, 1) := by decide +kernel
theorem dX5_count_59 : decode cX5_count 59 = .ok (.getfield 60, 3) := by decide +kernel
theorem dX5_count_62 : decode cX5_count 62 = .ok (.iconst 3, 1) := by decide +kernel
theorem dX5_count_63 : decode cX5_count 63 = .ok (.if_icmp .lt 7, 3) := by decide +kernel
theorem dX5_count_66 : decode cX5_count 66 = .ok (.iconst 1, 1) := by decide +kernel
theorem dX5_count_67 : decode cX5_count 67 = .ok (.goto 4, 3) := by decide +kernel
theorem dX5_count_70 : decode cX5_count 70 = .ok (.iconst 0, 1) := by decide +kernel
theorem dX5_count_71 : decode cX5_count 71 = .ok (.invokestatic 198, 3) := by decide +kernel
theorem dX5_count_74 : decode cX5_count 74 = .ok (.ireturn, 1) := by decide +kernel
theorem dX5_count_75 : decode cX5_count 75 = .ok (.aload_n 0, 1) := by decide +kernel
theorem dX5_count_76 : decode cX5_count 76 = .ok (.getfield 56, 3) := by decide +kernel
theorem dX5_count_79 : decode cX5_count 79 = .ok (.invokevirtual 171, 3) := by decide +kernel
theorem dX5_count_82 : decode cX5_count 82 = .ok (.ireturn, 1) := by decide +kernel
theorem dX5_count_83 : decode cX5_count 83 = .ok (.aload_n 0, 1) := by decide +kernel
theorem dX5_count_84 : decode cX5_count 84 = .ok (.getfield 36, 3) := by decide +kernel
theorem dX5_count_87 : decode cX5_count 87 = .ok (.ireturn, 1) := by decide +kernel
theorem dX5_count_88 : decode cX5_count 88 = .ok (.aload_n 0, 1) := by decide +kernel
theorem dX5_count_89 : decode cX5_count 89 = .ok (.getfield 22, 3) := by decide +kernel
theorem dX5_count_92 : decode cX5_count 92 = .ok (.invokevirtual 220, 3) := by decide +kernel
theorem dX5_count_95 : decode cX5_count 95 = .ok (.ireturn, 1) := by decide +kernel
theorem dX5_count_96 : decode cX5_count 96 = .ok (.aload_n 0, 1) := by decide +kernel
theorem dX5_count_97 : decode cX5_count 97 = .ok (.getfield 15, 3) := by decide +kernel
theorem dX5_count_100 : decode cX5_count 100 = .ok (.ireturn, 1) := by decide +kernel
theorem dX5_count_101 : decode cX5_count 101 = .ok (.aload_n 0, 1) := by decide +kernel
theorem dX5_count_102 : decode cX5_count 102 = .ok (.getfield 22, 3) := by decide +kernel
theorem dX5_count_105 : decode cX5_count 105 = .ok (.invokevirtual 223, 3) := by decide +kernel
theorem dX5_count_108 : decode cX5_count 108 = .ok (.ireturn, 1) := by decide +kernel
theorem dX5_count_109 : decode cX5_count 109 = .ok (.iconst (-1), 1) := by decide +kernel
theorem dX5_count_110 : decode cX5_count 110 = .ok (.ireturn, 1) := by decide +kernel
theorem dX5_asNumber_0 : decode cX5_asNumber 0 = .ok (.iload_n 0, 1) := by decide +kernel
theorem dX5_asNumber_1 : decode cX5_asNumber 1 = .ok (.ifCond .eq 7, 3) := by decide +kernel
theorem dX5_asNumber_4 : decode cX5_asNumber 4 = .ok (.iconst 1, 1) := by decide +kernel
theorem dX5_asNumber_5 : decode cX5_asNumber 5 = .ok (.goto 4, 3) := by decide +kernel
theorem dX5_asNumber_8 : decode cX5_asNumber 8 = .ok (.iconst 0, 1) := by decide +kernel
theorem dX5_asNumber_9 : decode cX5_asNumber 9 = .ok (.ireturn, 1) := by decide +kernel
theorem dX5_isSize_0 : decode cX5_isSize 0 = .ok (.iload_n 0, 1) := by decide +kernel
theorem dX5_isSize_1 : decode cX5_isSize 1 = .ok (.iconst 2, 1) := by decide +kernel
theorem dX5_isSize_2 : decode cX5_isSize 2 = .ok (.if_icmp .lt 12, 3) := by decide +kernel
theorem dX5_isSize_5 : decode cX5_isSize 5 = .ok (.iload_n 0, 1) := by decide +kernel
theorem dX5_isSize_6 : decode cX5_isSize 6 = .ok (.iconst 4, 1) := by decide +kernel
theorem dX5_isSize_7 : decode cX5_isSize 7 = .ok (.if_icmp .gt 7, 3) := by decide +kernel
theorem dX5_isSize_10 : decode cX5_isSize 10 = .ok (.iconst 1, 1) := by decide +kernel
theorem dX5_isSize_11 : decode cX5_isSize 11 = .ok (.goto 4, 3) := by decide +kernel
theorem dX5_isSize_14 : decode cX5_isSize 14 = .ok (.iconst 0, 1) := by decide +kernel
theorem dX5_isSize_15 : decode cX5_isSize 15 = .ok (.ireturn, 1) := by decide +kernel
theorem dX5_isWord_0 : decode cX5_isWord 0 = .ok (.iload_n 0, 1) := by decide +kernel
theorem dX5_isWord_1 : decode cX5_isWord 1 = .ok (.ifCond .lt 13, 3) := by decide +kernel
theorem dX5_isWord_4 : decode cX5_isWord 4 = .ok (.iload_n 0, 1) := by decide +kernel
theorem dX5_isWord_5 : decode cX5_isWord 5 = .ok (.bipush 64, 2) := by decide +kernel
theorem dX5_isWord_7 : decode cX5_isWord 7 = .ok (.if_icmp .ge 7, 3) := by decide +kernel
theorem dX5_isWord_10 : decode cX5_isWord 10 = .ok (.iconst 1, 1) := by decide +kernel
theorem dX5_isWord_11 : decode cX5_isWord 11 = .ok (.goto 4, 3) := by decide +kernel
theorem dX5_isWord_14 : decode cX5_isWord 14 = .ok (.iconst 0, 1) := by decide +kernel
theorem dX5_isWord_15 : decode cX5_isWord 15 = .ok (.ireturn, 1) := by decide +kernel
theorem dX5_isItem_0 : decode cX5_isItem 0 = .ok (.iload_n 0, 1) := by decide +kernel
theorem dX5_isItem_1 : decode cX5_isItem 1 = .ok (.tableswitch 57 0 2 #[27, 32, 47], 27) := by decide +kernel
theorem dX5_isItem_28 : decode cX5_isItem 28 = .ok (.iload_n 1, 1) := by decide +kernel
theorem dX5_isItem_29 : decode cX5_isItem 29 = .ok (.invokestatic 102, 3) := by decide +kernel
theorem dX5_isItem_32 : decode cX5_isItem 32 = .ok (.ireturn, 1) := by decide +kernel
theorem dX5_isItem_33 : decode cX5_isItem 33 = .ok (.iload_n 1, 1) := by decide +kernel
theorem dX5_isItem_34 : decode cX5_isItem 34 = .ok (.ifCond .lt 12, 3) := by decide +kernel
theorem dX5_isItem_37 : decode cX5_isItem 37 = .ok (.iload_n 1, 1) := by decide +kernel
theorem dX5_isItem_38 : decode cX5_isItem 38 = .ok (.iconst 5, 1) := by decide +kernel
theorem dX5_isItem_39 : decode cX5_isItem 39 = .ok (.if_icmp .ge 7, 3) := by decide +kernel
theorem dX5_isItem_42 : decode cX5_isItem 42 = .ok (.iconst 1, 1) := by decide +kernel
theorem dX5_isItem_43 : decode cX5_isItem 43 = .ok (.goto 4, 3) := by decide +kernel
theorem dX5_isItem_46 : decode cX5_isItem 46 = .ok (.iconst 0, 1) := by decide +kernel
theorem dX5_isItem_47 : decode cX5_isItem 47 = .ok (.ireturn, 1) := by decide +kernel
theorem dX5_isItem_48 : decode cX5_isItem 48 = .ok (.iload_n 1, 1) := by decide +kernel
theorem dX5_isItem_49 : decode cX5_isItem 49 = .ok (.ifCond .ne 7, 3) := by decide +kernel
theorem dX5_isItem_52 : decode cX5_isItem 52 = .ok (.iconst 1, 1) := by decide +kernel
theorem dX5_isItem_53 : decode cX5_isItem 53 = .ok (.goto 4, 3) := by decide +kernel
theorem dX5_isItem_56 : decode cX5_isItem 56 = .ok (.iconst 0, 1) := by decide +kernel
theorem dX5_isItem_57 : decode cX5_isItem 57 = .ok (.ireturn, 1) := by decide +kernel
theorem dX5_isItem_58 : decode cX5_isItem 58 = .ok (.iconst 0, 1) := by decide +kernel
theorem dX5_isItem_59 : decode cX5_isItem 59 = .ok (.ireturn, 1) := by decide +kernel
theorem dX5_formAt_0 : decode cX5_formAt 0 = .ok (.iload_n 1, 1) := by decide +kernel
theorem dX5_formAt_1 : decode cX5_formAt 1 = .ok (.ifCond .lt 25, 3) := by decide +kernel
theorem dX5_formAt_4 : decode cX5_formAt 4 = .ok (.iload_n 1, 1) := by decide +kernel
theorem dX5_formAt_5 : decode cX5_formAt 5 = .ok (.aload_n 0, 1) := by decide +kernel
theorem dX5_formAt_6 : decode cX5_formAt 6 = .ok (.getfield 15, 3) := by decide +kernel
theorem dX5_formAt_9 : decode cX5_formAt 9 = .ok (.if_icmp .ge 17, 3) := by decide +kernel
theorem dX5_formAt_12 : decode cX5_formAt 12 = .ok (.iload_n 1, 1) := by decide +kernel
theorem dX5_formAt_13 : decode cX5_formAt 13 = .ok (.iconst 3, 1) := by decide +kernel
theorem dX5_formAt_14 : decode cX5_formAt 14 = .ok (.if_icmp .ge 12, 3) := by decide +kernel
theorem dX5_formAt_17 : decode cX5_formAt 17 = .ok (.aload_n 0, 1) := by decide +kernel
theorem dX5_formAt_18 : decode cX5_formAt 18 = .ok (.getfield 11, 3) := by decide +kernel
theorem dX5_formAt_21 : decode cX5_formAt 21 = .ok (.iload_n 1, 1) := by decide +kernel
theorem dX5_formAt_22 : decode cX5_formAt 22 = .ok (.aaload, 1) := by decide +kernel
theorem dX5_formAt_23 : decode cX5_formAt 23 = .ok (.goto 4, 3) := by decide +kernel
theorem dX5_formAt_26 : decode cX5_formAt 26 = .ok (.aconst_null, 1) := by decide +kernel
theorem dX5_formAt_27 : decode cX5_formAt 27 = .ok (.areturn, 1) := by decide +kernel
theorem dX5_isInTalk_0 : decode cX5_isInTalk 0 = .ok (.iconst 0, 1) := by decide +kernel
theorem dX5_isInTalk_1 : decode cX5_isInTalk 1 = .ok (.istore_n 2, 1) := by decide +kernel
theorem dX5_isInTalk_2 : decode cX5_isInTalk 2 = .ok (.iload_n 2, 1) := by decide +kernel
theorem dX5_isInTalk_3 : decode cX5_isInTalk 3 = .ok (.aload_n 0, 1) := by decide +kernel
theorem dX5_isInTalk_4 : decode cX5_isInTalk 4 = .ok (.getfield 30, 3) := by decide +kernel
theorem dX5_isInTalk_7 : decode cX5_isInTalk 7 = .ok (.if_icmp .ge 21, 3) := by decide +kernel
theorem dX5_isInTalk_10 : decode cX5_isInTalk 10 = .ok (.aload_n 0, 1) := by decide +kernel
theorem dX5_isInTalk_11 : decode cX5_isInTalk 11 = .ok (.getfield 26, 3) := by decide +kernel
theorem dX5_isInTalk_14 : decode cX5_isInTalk 14 = .ok (.iload_n 2, 1) := by decide +kernel
theorem dX5_isInTalk_15 : decode cX5_isInTalk 15 = .ok (.iaload, 1) := by decide +kernel
theorem dX5_isInTalk_16 : decode cX5_isInTalk 16 = .ok (.iload_n 1, 1) := by decide +kernel
theorem dX5_isInTalk_17 : decode cX5_isInTalk 17 = .ok (.if_icmp .ne 5, 3) := by decide +kernel
theorem dX5_isInTalk_20 : decode cX5_isInTalk 20 = .ok (.iconst 1, 1) := by decide +kernel
theorem dX5_isInTalk_21 : decode cX5_isInTalk 21 = .ok (.ireturn, 1) := by decide +kernel
theorem dX5_isInTalk_22 : decode cX5_isInTalk 22 = .ok (.iinc 2 1, 3) := by decide +kernel
theorem dX5_isInTalk_25 : decode cX5_isInTalk 25 = .ok (.goto (-23), 3) := by decide +kernel
theorem dX5_isInTalk_28 : decode cX5_isInTalk 28 = .ok (.iconst 0, 1) := by decide +kernel
theorem dX5_isInTalk_29 : decode cX5_isInTalk 29 = .ok (.ireturn, 1) := by decide +kernel
theorem dX5_uppermost_0 : decode cX5_uppermost 0 = .ok (.aload_n 0, 1) := by decide +kernel
theorem dX5_uppermost_1 : decode cX5_uppermost 1 = .ok (.getfield 30, 3) := by decide +kernel
theorem dX5_uppermost_4 : decode cX5_uppermost 4 = .ok (.ifCond .le 17, 3) := by decide +kernel
theorem dX5_uppermost_7 : decode cX5_uppermost 7 = .ok (.aload_n 0, 1) := by decide +kernel
theorem dX5_uppermost_8 : decode cX5_uppermost 8 = .ok (.getfield 26, 3) := by decide +kernel
theorem dX5_uppermost_11 : decode cX5_uppermost 11 = .ok (.aload_n 0, 1) := by decide +kernel
theorem dX5_uppermost_12 : decode cX5_uppermost 12 = .ok (.getfield 30, 3) := by decide +kernel
theorem dX5_uppermost_15 : decode cX5_uppermost 15 = .ok (.iconst 1, 1) := by decide +kernel
theorem dX5_uppermost_16 : decode cX5_uppermost 16 = .ok (.isub, 1) := by decide +kernel
theorem dX5_uppermost_17 : decode cX5_uppermost 17 = .ok (.iaload, 1) := by decide +kernel
theorem dX5_uppermost_18 : decode cX5_uppermost 18 = .ok (.goto 4, 3) := by decide +kernel
theorem dX5_uppermost_21 : decode cX5_uppermost 21 = .ok (.iconst (-1), 1) := by decide +kernel
theorem dX5_uppermost_22 : decode cX5_uppermost 22 = .ok (.ireturn, 1) := by decide +kernel
theorem dX5_turnPage_0 : decode cX5_turnPage 0 = .ok (.aload_n 0, 1) := by decide +kernel
theorem dX5_turnPage_1 : decode cX5_turnPage 1 = .ok (.getfield 56, 3) := by decide +kernel
theorem dX5_turnPage_4 : decode cX5_turnPage 4 = .ok (.invokevirtual 226, 3) := by decide +kernel
theorem dX5_turnPage_7 : decode cX5_turnPage 7 = .ok (.aload_n 0, 1) := by decide +kernel
theorem dX5_turnPage_8 : decode cX5_turnPage 8 = .ok (.invokevirtual 168, 3) := by decide +kernel
theorem dX5_turnPage_11 : decode cX5_turnPage 11 = .ok (.return_, 1) := by decide +kernel
theorem dX5_forgetConfirm_0 : decode cX5_forgetConfirm 0 = .ok (.aload_n 0, 1) := by decide +kernel
theorem dX5_forgetConfirm_1 : decode cX5_forgetConfirm 1 = .ok (.iconst (-1), 1) := by decide +kernel
theorem dX5_forgetConfirm_2 : decode cX5_forgetConfirm 2 = .ok (.putfield 66, 3) := by decide +kernel
theorem dX5_forgetConfirm_5 : decode cX5_forgetConfirm 5 = .ok (.aload_n 0, 1) := by decide +kernel
theorem dX5_forgetConfirm_6 : decode cX5_forgetConfirm 6 = .ok (.iconst (-1), 1) := by decide +kernel
theorem dX5_forgetConfirm_7 : decode cX5_forgetConfirm 7 = .ok (.putfield 69, 3) := by decide +kernel
theorem dX5_forgetConfirm_10 : decode cX5_forgetConfirm 10 = .ok (.return_, 1) := by decide +kernel
theorem dX5_takeLine_0 : decode cX5_takeLine 0 = .ok (.aload_n 0, 1) := by decide +kernel
theorem dX5_takeLine_1 : decode cX5_takeLine 1 = .ok (.getfield 42, 3) := by decide +kernel
theorem dX5_takeLine_4 : decode cX5_takeLine 4 = .ok (.invokevirtual 229, 3) := by decide +kernel
theorem dX5_takeLine_7 : decode cX5_takeLine 7 = .ok (.istore_n 2, 1) := by decide +kernel
theorem dX5_takeLine_8 : decode cX5_takeLine 8 = .ok (.aload_n 0, 1) := by decide +kernel
theorem dX5_takeLine_9 : decode cX5_takeLine 9 = .ok (.getfield 66, 3) := by decide +kernel
theorem dX5_takeLine_12 : decode cX5_takeLine 12 = .ok (.iconst (-1), 1) := by decide +kernel
theorem dX5_takeLine_13 : decode cX5_takeLine 13 = .ok (.if_icmp .eq 13, 3) := by decide +kernel
theorem dX5_takeLine_16 : decode cX5_takeLine 16 = .ok (.iload_n 2, 1) := by decide +kernel
theorem dX5_takeLine_17 : decode cX5_takeLine 17 = .ok (.iconst 1, 1) := by decide +kernel
theorem dX5_takeLine_18 : decode cX5_takeLine 18 = .ok (.if_icmp .eq 14, 3) := by decide +kernel
theorem dX5_takeLine_21 : decode cX5_takeLine 21 = .ok (.iload_n 2, 1) := by decide +kernel
theorem dX5_takeLine_22 : decode cX5_takeLine 22 = .ok (.iconst 2, 1) := by decide +kernel
theorem dX5_takeLine_23 : decode cX5_takeLine 23 = .ok (.if_icmp .eq 9, 3) := by decide +kernel
theorem dX5_takeLine_26 : decode cX5_takeLine 26 = .ok (.aload_n 0, 1) := by decide +kernel
theorem dX5_takeLine_27 : decode cX5_takeLine 27 = .ok (.aload_n 1, 1) := by decide +kernel
theorem dX5_takeLine_28 : decode cX5_takeLine 28 = .ok (.invokevirtual 232, 3) := by decide +kernel
theorem dX5_takeLine_31 : decode cX5_takeLine 31 = .ok (.ireturn, 1) := by decide +kernel
theorem dX5_takeLine_32 : decode cX5_takeLine 32 = .ok (.iload_n 2, 1) := by decide +kernel
theorem dX5_takeLine_33 : decode cX5_takeLine 33 = .ok (.iconst 1, 1) := by decide +kernel
theorem dX5_takeLine_34 : decode cX5_takeLine 34 = .ok (.if_icmp .ne 22, 3) := by decide +kernel
theorem dX5_takeLine_37 : decode cX5_takeLine 37 = .ok (.aload_n 1, 1) := by decide +kernel
theorem dX5_takeLine_38 : decode cX5_takeLine 38 = .ok (.aload_n 0, 1) := by decide +kernel
theorem dX5_takeLine_39 : decode cX5_takeLine 39 = .ok (.getfield 66, 3) := by decide +kernel
theorem dX5_takeLine_42 : decode cX5_takeLine 42 = .ok (.iconst 1, 1) := by decide +kernel
theorem dX5_takeLine_43 : decode cX5_takeLine 43 = .ok (.aload_n 0, 1) := by decide +kernel
theorem dX5_takeLine_44 : decode cX5_takeLine 44 = .ok (.getfield 69, 3) := by decide +kernel
theorem dX5_takeLine_47 : decode cX5_takeLine 47 = .ok (.ishl, 1) := by decide +kernel
theorem dX5_takeLine_48 : decode cX5_takeLine 48 = .ok (.aload_n 0, 1) := by decide +kernel
theorem dX5_takeLine_49 : decode cX5_takeLine 49 = .ok (.getfield 69, 3) := by decide +kernel
theorem dX5_takeLine_52 : decode cX5_takeLine 52 = .ok (.invokevirtual 235, 3) := by decide +kernel
theorem dX5_takeLine_55 : decode cX5_takeLine 55 = .ok (.ireturn, 1) := by decide +kernel
theorem dX5_takeLine_56 : decode cX5_takeLine 56 = .ok (.aload_n 1, 1) := by decide +kernel
theorem dX5_takeLine_57 : decode cX5_takeLine 57 = .ok (.aload_n 0, 1) := by decide +kernel
theorem dX5_takeLine_58 : decode cX5_takeLine 58 = .ok (.getfield 66, 3) := by decide +kernel
theorem dX5_takeLine_61 : decode cX5_takeLine 61 = .ok (.aload_n 0, 1) := by decide +kernel
theorem dX5_takeLine_62 : decode cX5_takeLine 62 = .ok (.getfield 69, 3) := by decide +kernel
theorem dX5_takeLine_65 : decode cX5_takeLine 65 = .ok (.invokevirtual 238, 3) := by decide +kernel
theorem dX5_takeLine_68 : decode cX5_takeLine 68 = .ok (.iconst (-1), 1) := by decide +kernel
theorem dX5_takeLine_69 : decode cX5_takeLine 69 = .ok (.ireturn, 1) := by decide +kernel
theorem dX5_fillPlaces_0 : decode cX5_fillPlaces 0 = .ok (.iconst (-1), 1) := by decide +kernel
theorem dX5_fillPlaces_1 : decode cX5_fillPlaces 1 = .ok (.istore_n 2, 1) := by decide +kernel
theorem dX5_fillPlaces_2 : decode cX5_fillPlaces 2 = .ok (.iconst 0, 1) := by decide +kernel
theorem dX5_fillPlaces_3 : decode cX5_fillPlaces 3 = .ok (.istore_n 3, 1) := by decide +kernel
theorem dX5_fillPlaces_4 : decode cX5_fillPlaces 4 = .ok (.iload_n 3, 1) := by decide +kernel
theorem dX5_fillPlaces_5 : decode cX5_fillPlaces 5 = .ok (.aload_n 1, 1) := by decide +kernel
theorem dX5_fillPlaces_6 : decode cX5_fillPlaces 6 = .ok (.invokevirtual 242, 3) := by decide +kernel
theorem dX5_fillPlaces_9 : decode cX5_fillPlaces 9 = .ok (.if_icmp .ge 25, 3) := by decide +kernel
theorem dX5_fillPlaces_12 : decode cX5_fillPlaces 12 = .ok (.aload_n 0, 1) := by decide +kernel
theorem dX5_fillPlaces_13 : decode cX5_fillPlaces 13 = .ok (.aload_n 1, 1) := by decide +kernel
theorem dX5_fillPlaces_14 : decode cX5_fillPlaces 14 = .ok (.iload_n 3, 1) := by decide +kernel
theorem dX5_fillPlaces_15 : decode cX5_fillPlaces 15 = .ok (.invokevirtual 245, 3) := by decide +kernel
theorem dX5_fillPlaces_18 : decode cX5_fillPlaces 18 = .ok (.istore 4, 2) := by decide +kernel
theorem dX5_fillPlaces_20 : decode cX5_fillPlaces 20 = .ok (.iload_n 2, 1) := by decide +kernel
theorem dX5_fillPlaces_21 : decode cX5_fillPlaces 21 = .ok (.iconst (-1), 1) := by decide +kernel
theorem dX5_fillPlaces_22 : decode cX5_fillPlaces 22 = .ok (.if_icmp .ne 6, 3) := by decide +kernel
theorem dX5_fillPlaces_25 : decode cX5_fillPlaces 25 = .ok (.iload 4, 2) := by decide +kernel
theorem dX5_fillPlaces_27 : decode cX5_fillPlaces 27 = .ok (.istore_n 2, 1) := by decide +kernel
theorem dX5_fillPlaces_28 : decode cX5_fillPlaces 28 = .ok (.iinc 3 1, 3) := by decide +kernel
theorem dX5_fillPlaces_31 : decode cX5_fillPlaces 31 = .ok (.goto (-27), 3) := by decide +kernel
theorem dX5_fillPlaces_34 : decode cX5_fillPlaces 34 = .ok (.iload_n 2, 1) := by decide +kernel
theorem dX5_fillPlaces_35 : decode cX5_fillPlaces 35 = .ok (.ireturn, 1) := by decide +kernel
theorem dX5_fillPlace_0 : decode cX5_fillPlace 0 = .ok (.aload_n 0, 1) := by decide +kernel
theorem dX5_fillPlace_1 : decode cX5_fillPlace 1 = .ok (.getfield 42, 3) := by decide +kernel
theorem dX5_fillPlace_4 : decode cX5_fillPlace 4 = .ok (.iload_n 2, 1) := by decide +kernel
theorem dX5_fillPlace_5 : decode cX5_fillPlace 5 = .ok (.invokevirtual 249, 3) := by decide +kernel
theorem dX5_fillPlace_8 : decode cX5_fillPlace 8 = .ok (.istore_n 3, 1) := by decide +kernel
theorem dX5_fillPlace_9 : decode cX5_fillPlace 9 = .ok (.aload_n 1, 1) := by decide +kernel
theorem dX5_fillPlace_10 : decode cX5_fillPlace 10 = .ok (.iload_n 2, 1) := by decide +kernel
theorem dX5_fillPlace_11 : decode cX5_fillPlace 11 = .ok (.invokevirtual 91, 3) := by decide +kernel
theorem dX5_fillPlace_14 : decode cX5_fillPlace 14 = .ok (.ifCond .ne 7, 3) := by decide +kernel
theorem dX5_fillPlace_17 : decode cX5_fillPlace 17 = .ok (.iload_n 3, 1) := by decide +kernel
theorem dX5_fillPlace_18 : decode cX5_fillPlace 18 = .ok (.ifCond .ne 5, 3) := by decide +kernel
theorem dX5_fillPlace_21 : decode cX5_fillPlace 21 = .ok (.iconst (-1), 1) := by decide +kernel
theorem dX5_fillPlace_22 : decode cX5_fillPlace 22 = .ok (.ireturn, 1) := by decide +kernel
theorem dX5_fillPlace_23 : decode cX5_fillPlace 23 = .ok (.aload_n 0, 1) := by decide +kernel
theorem dX5_fillPlace_24 : decode cX5_fillPlace 24 = .ok (.getfield 42, 3) := by decide +kernel
theorem dX5_fillPlace_27 : decode cX5_fillPlace 27 = .ok (.iload_n 2, 1) := by decide +kernel
theorem dX5_fillPlace_28 : decode cX5_fillPlace 28 = .ok (.invokevirtual 252, 3) := by decide +kernel
theorem dX5_fillPlace_31 : decode cX5_fillPlace 31 = .ok (.ifCond .eq 17, 3) := by decide +kernel
theorem dX5_fillPlace_34 : decode cX5_fillPlace 34 = .ok (.aload_n 1, 1) := by decide +kernel
theorem dX5_fillPlace_35 : decode cX5_fillPlace 35 = .ok (.iload_n 2, 1) := by decide +kernel
theorem dX5_fillPlace_36 : decode cX5_fillPlace 36 = .ok (.iload_n 3, 1) := by decide +kernel
theorem dX5_fillPlace_37 : decode cX5_fillPlace 37 = .ok (.aload_n 1, 1) := by decide +kernel
theorem dX5_fillPlace_38 : decode cX5_fillPlace 38 = .ok (.iload_n 2, 1) := by decide +kernel
theorem dX5_fillPlace_39 : decode cX5_fillPlace 39 = .ok (.invokevirtual 192, 3) := by decide +kernel
theorem dX5_fillPlace_42 : decode cX5_fillPlace 42 = .ok (.ior, 1) := by decide +kernel
theorem dX5_fillPlace_43 : decode cX5_fillPlace 43 = .ok (.iconst (-1), 1) := by decide +kernel
theorem dX5_fillPlace_44 : decode cX5_fillPlace 44 = .ok (.invokevirtual 235, 3) := by decide +kernel
theorem dX5_fillPlace_47 : decode cX5_fillPlace 47 = .ok (.ireturn, 1) := by decide +kernel
theorem dX5_fillPlace_48 : decode cX5_fillPlace 48 = .ok (.aload_n 1, 1) := by decide +kernel
theorem dX5_fillPlace_49 : decode cX5_fillPlace 49 = .ok (.iload_n 2, 1) := by decide +kernel
theorem dX5_fillPlace_50 : decode cX5_fillPlace 50 = .ok (.iload_n 3, 1) := by decide +kernel
theorem dX5_fillPlace_51 : decode cX5_fillPlace 51 = .ok (.iload_n 3, 1) := by decide +kernel
theorem dX5_fillPlace_52 : decode cX5_fillPlace 52 = .ok (.invokestatic 255, 3) := by decide +kernel
theorem dX5_fillPlace_55 : decode cX5_fillPlace 55 = .ok (.invokevirtual 235, 3) := by decide +kernel
theorem dX5_fillPlace_58 : decode cX5_fillPlace 58 = .ok (.ireturn, 1) := by decide +kernel
theorem dX5_onlyValue_0 : decode cX5_onlyValue 0 = .ok (.iconst 0, 1) := by decide +kernel
theorem dX5_onlyValue_1 : decode cX5_onlyValue 1 = .ok (.istore_n 1, 1) := by decide +kernel
theorem dX5_onlyValue_2 : decode cX5_onlyValue 2 = .ok (.iload_n 1, 1) := by decide +kernel
theorem dX5_onlyValue_3 : decode cX5_onlyValue 3 = .ok (.iconst 4, 1) := by decide +kernel
theorem dX5_onlyValue_4 : decode cX5_onlyValue 4 = .ok (.if_icmp .ge 18, 3) := by decide +kernel
theorem dX5_onlyValue_7 : decode cX5_onlyValue 7 = .ok (.iload_n 0, 1) := by decide +kernel
theorem dX5_onlyValue_8 : decode cX5_onlyValue 8 = .ok (.iconst 1, 1) := by decide +kernel
theorem dX5_onlyValue_9 : decode cX5_onlyValue 9 = .ok (.iload_n 1, 1) := by decide +kernel
theorem dX5_onlyValue_10 : decode cX5_onlyValue 10 = .ok (.ishl, 1) := by decide +kernel
theorem dX5_onlyValue_11 : decode cX5_onlyValue 11 = .ok (.if_icmp .ne 5, 3) := by decide +kernel
theorem dX5_onlyValue_14 : decode cX5_onlyValue 14 = .ok (.iload_n 1, 1) := by decide +kernel
theorem dX5_onlyValue_15 : decode cX5_onlyValue 15 = .ok (.ireturn, 1) := by decide +kernel
theorem dX5_onlyValue_16 : decode cX5_onlyValue 16 = .ok (.iinc 1 1, 3) := by decide +kernel
theorem dX5_onlyValue_19 : decode cX5_onlyValue 19 = .ok (.goto (-17), 3) := by decide +kernel
theorem dX5_onlyValue_22 : decode cX5_onlyValue 22 = .ok (.iconst (-1), 1) := by decide +kernel
theorem dX5_onlyValue_23 : decode cX5_onlyValue 23 = .ok (.ireturn, 1) := by decide +kernel
theorem dL_law_0 : decode cL_law 0 = .ok (.new 7, 3) := by decide +kernel
theorem dL_law_3 : decode cL_law 3 = .ok (.dup, 1) := by decide +kernel
theorem dL_law_4 : decode cL_law 4 = .ok (.invokespecial 9, 3) := by decide +kernel
theorem dL_law_7 : decode cL_law 7 = .ok (.astore_n 1, 1) := by decide +kernel
theorem dL_law_8 : decode cL_law 8 = .ok (.new 10, 3) := by decide +kernel
theorem dL_law_11 : decode cL_law 11 = .ok (.dup, 1) := by decide +kernel
theorem dL_law_12 : decode cL_law 12 = .ok (.invokespecial 12, 3) := by decide +kernel
theorem dL_law_15 : decode cL_law 15 = .ok (.astore_n 2, 1) := by decide +kernel
theorem dL_law_16 : decode cL_law 16 = .ok (.iconst 0, 1) := by decide +kernel
theorem dL_law_17 : decode cL_law 17 = .ok (.istore_n 3, 1) := by decide +kernel
theorem dL_law_18 : decode cL_law 18 = .ok (.iload_n 3, 1) := by decide +kernel
theorem dL_law_19 : decode cL_law 19 = .ok (.aload_n 0, 1) := by decide +kernel
theorem dL_law_20 : decode cL_law 20 = .ok (.arraylength, 1) := by decide +kernel
theorem dL_law_21 : decode cL_law 21 = .ok (.bipush 6, 2) := by decide +kernel
theorem dL_law_23 : decode cL_law 23 = .ok (.isub, 1) := by decide +kernel
theorem dL_law_24 : decode cL_law 24 = .ok (.if_icmp .gt 703, 3) := by decide +kernel
theorem dL_law_27 : decode cL_law 27 = .ok (.aload_n 0, 1) := by decide +kernel
theorem dL_law_28 : decode cL_law 28 = .ok (.iload_n 3, 1) := by decide +kernel
theorem dL_law_29 : decode cL_law 29 = .ok (.iaload, 1) := by decide +kernel
theorem dL_law_30 : decode cL_law 30 = .ok (.bipush 31, 2) := by decide +kernel
theorem dL_law_32 : decode cL_law 32 = .ok (.iand, 1) := by decide +kernel
theorem dL_law_33 : decode cL_law 33 = .ok (.tableswitch 688 0 18 #[91, 104, 147, 200, 263, 316, 369, 402, 445, 468, 481, 504, 517, 530, 543, 556, 599, 642, 665], 91) := by decide +kernel
theorem dL_law_124 : decode cL_law 124 = .ok (.aload_n 1, 1) := by decide +kernel
theorem dL_law_125 : decode cL_law 125 = .ok (.invokevirtual 13, 3) := by decide +kernel
theorem dL_law_128 : decode cL_law 128 = .ok (.aload_n 2, 1) := by decide +kernel
theorem dL_law_129 : decode cL_law 129 = .ok (.invokevirtual 17, 3) := by decide +kernel
theorem dL_law_132 : decode cL_law 132 = .ok (.if_icmp .eq 589, 3) := by decide +kernel
theorem dL_law_135 : decode cL_law 135 = .ok (.iconst 0, 1) := by decide +kernel
theorem dL_law_136 : decode cL_law 136 = .ok (.ireturn, 1) := by decide +kernel
theorem dL_law_137 : decode cL_law 137 = .ok (.aload_n 1, 1) := by decide +kernel
theorem dL_law_138 : decode cL_law 138 = .ok (.aload_n 0, 1) := by decide +kernel
theorem dL_law_139 : decode cL_law 139 = .ok (.iload_n 3, 1) := by decide +kernel
theorem dL_law_140 : decode cL_law 140 = .ok (.iconst 1, 1) := by decide +kernel
theorem dL_law_141 : decode cL_law 141 = .ok (.iadd, 1) := by decide +kernel
theorem dL_law_142 : decode cL_law 142 = .ok (.iaload, 1) := by decide +kernel
theorem dL_law_143 : decode cL_law 143 = .ok (.aload_n 0, 1) := by decide +kernel
theorem dL_law_144 : decode cL_law 144 = .ok (.iload_n 3, 1) := by decide +kernel
theorem dL_law_145 : decode cL_law 145 = .ok (.iconst 2, 1) := by decide +kernel
theorem dL_law_146 : decode cL_law 146 = .ok (.iadd, 1) := by decide +kernel
theorem dL_law_147 : decode cL_law 147 = .ok (.iaload, 1) := by decide +kernel
theorem dL_law_148 : decode cL_law 148 = .ok (.aload_n 0, 1) := by decide +kernel
theorem dL_law_149 : decode cL_law 149 = .ok (.iload_n 3, 1) := by decide +kernel
theorem dL_law_150 : decode cL_law 150 = .ok (.iconst 3, 1) := by decide +kernel
theorem dL_law_151 : decode cL_law 151 = .ok (.iadd, 1) := by decide +kernel
theorem dL_law_152 : decode cL_law 152 = .ok (.iaload, 1) := by decide +kernel
theorem dL_law_153 : decode cL_law 153 = .ok (.invokevirtual 18, 3) := by decide +kernel
theorem dL_law_156 : decode cL_law 156 = .ok (.aload_n 2, 1) := by decide +kernel
theorem dL_law_157 : decode cL_law 157 = .ok (.aload_n 0, 1) := by decide +kernel
theorem dL_law_158 : decode cL_law 158 = .ok (.iload_n 3, 1) := by decide +kernel
theorem dL_law_159 : decode cL_law 159 = .ok (.iconst 1, 1) := by decide +kernel
theorem dL_law_160 : decode cL_law 160 = .ok (.iadd, 1) := by decide +kernel
theorem dL_law_161 : decode cL_law 161 = .ok (.iaload, 1) := by decide +kernel
theorem dL_law_162 : decode cL_law 162 = .ok (.aload_n 0, 1) := by decide +kernel
theorem dL_law_163 : decode cL_law 163 = .ok (.iload_n 3, 1) := by decide +kernel
theorem dL_law_164 : decode cL_law 164 = .ok (.iconst 2, 1) := by decide +kernel
theorem dL_law_165 : decode cL_law 165 = .ok (.iadd, 1) := by decide +kernel
theorem dL_law_166 : decode cL_law 166 = .ok (.iaload, 1) := by decide +kernel
theorem dL_law_167 : decode cL_law 167 = .ok (.aload_n 0, 1) := by decide +kernel
theorem dL_law_168 : decode cL_law 168 = .ok (.iload_n 3, 1) := by decide +kernel
theorem dL_law_169 : decode cL_law 169 = .ok (.iconst 3, 1) := by decide +kernel
theorem dL_law_170 : decode cL_law 170 = .ok (.iadd, 1) := by decide +kernel
theorem dL_law_171 : decode cL_law 171 = .ok (.iaload, 1) := by decide +kernel
theorem dL_law_172 : decode cL_law 172 = .ok (.invokevirtual 22, 3) := by decide +kernel
theorem dL_law_175 : decode cL_law 175 = .ok (.if_icmp .eq 546, 3) := by decide +kernel
theorem dL_law_178 : decode cL_law 178 = .ok (.iconst 0, 1) := by decide +kernel
theorem dL_law_179 : decode cL_law 179 = .ok (.ireturn, 1) := by decide +kernel
theorem dL_law_180 : decode cL_law 180 = .ok (.aload_n 1, 1) := by decide +kernel
theorem dL_law_181 : decode cL_law 181 = .ok (.aload_n 0, 1) := by decide +kernel
theorem dL_law_182 : decode cL_law 182 = .ok (.iload_n 3, 1) := by decide +kernel
theorem dL_law_183 : decode cL_law 183 = .ok (.iconst 1, 1) := by decide +kernel
theorem dL_law_184 : decode cL_law 184 = .ok (.iadd, 1) := by decide +kernel
theorem dL_law_185 : decode cL_law 185 = .ok (.iaload, 1) := by decide +kernel
theorem dL_law_186 : decode cL_law 186 = .ok (.aload_n 0, 1) := by decide +kernel
theorem dL_law_187 : decode cL_law 187 = .ok (.iload_n 3, 1) := by decide +kernel
theorem dL_law_188 : decode cL_law 188 = .ok (.iconst 2, 1) := by decide +kernel
theorem dL_law_189 : decode cL_law 189 = .ok (.iadd, 1) := by decide +kernel
theorem dL_law_190 : decode cL_law 190 = .ok (.iaload, 1) := by decide +kernel
theorem dL_law_191 : decode cL_law 191 = .ok (.aload_n 0, 1) := by decide +kernel
theorem dL_law_192 : decode cL_law 192 = .ok (.iload_n 3, 1) := by decide +kernel
theorem dL_law_193 : decode cL_law 193 = .ok (.iconst 3, 1) := by decide +kernel
theorem dL_law_194 : decode cL_law 194 = .ok (.iadd, 1) := by decide +kernel
theorem dL_law_195 : decode cL_law 195 = .ok (.iaload, 1) := by decide +kernel
theorem dL_law_196 : decode cL_law 196 = .ok (.aload_n 0, 1) := by decide +kernel
theorem dL_law_197 : decode cL_law 197 = .ok (.iload_n 3, 1) := by decide +kernel
theorem dL_law_198 : decode cL_law 198 = .ok (.iconst 4, 1) := by decide +kernel
theorem dL_law_199 : decode cL_law 199 = .ok (.iadd, 1) := by decide +kernel
theorem dL_law_200 : decode cL_law 200 = .ok (.iaload, 1) := by decide +kernel
theorem dL_law_201 : decode cL_law 201 = .ok (.invokevirtual 23, 3) := by decide +kernel
theorem dL_law_204 : decode cL_law 204 = .ok (.aload_n 2, 1) := by decide +kernel
theorem dL_law_205 : decode cL_law 205 = .ok (.aload_n 0, 1) := by decide +kernel
theorem dL_law_206 : decode cL_law 206 = .ok (.iload_n 3, 1) := by decide +kernel
theorem dL_law_207 : decode cL_law 207 = .ok (.iconst 1, 1) := by decide +kernel
theorem dL_law_208 : decode cL_law 208 = .ok (.iadd, 1) := by decide +kernel
theorem dL_law_209 : decode cL_law 209 = .ok (.iaload, 1) := by decide +kernel
theorem dL_law_210 : decode cL_law 210 = .ok (.aload_n 0, 1) := by decide +kernel
theorem dL_law_211 : decode cL_law 211 = .ok (.iload_n 3, 1) := by decide +kernel
theorem dL_law_212 : decode cL_law 212 = .ok (.iconst 2, 1) := by decide +kernel
theorem dL_law_213 : decode cL_law 213 = .ok (.iadd, 1) := by decide +kernel
theorem dL_law_214 : decode cL_law 214 = .ok (.iaload, 1) := by decide +kernel
theorem dL_law_215 : decode cL_law 215 = .ok (.aload_n 0, 1) := by decide +kernel
theorem dL_law_216 : decode cL_law 216 = .ok (.iload_n 3, 1) := by decide +kernel
theorem dL_law_217 : decode cL_law 217 = .ok (.iconst 3, 1) := by decide +kernel
theorem dL_law_218 : decode cL_law 218 = .ok (.iadd, 1) := by decide +kernel
theorem dL_law_219 : decode cL_law 219 = .ok (.iaload, 1) := by decide +kernel
theorem dL_law_220 : decode cL_law 220 = .ok (.aload_n 0, 1) := by decide +kernel
theorem dL_law_221 : decode cL_law 221 = .ok (.iload_n 3, 1) := by decide +kernel
theorem dL_law_222 : decode cL_law 222 = .ok (.iconst 4, 1) := by decide +kernel
theorem dL_law_223 : decode cL_law 223 = .ok (.iadd, 1) := by decide +kernel
theorem dL_law_224 : decode cL_law 224 = .ok (.iaload, 1) := by decide +kernel
theorem dL_law_225 : decode cL_law 225 = .ok (.invokevirtual 27, 3) := by decide +kernel
theorem dL_law_228 : decode cL_law 228 = .ok (.if_icmp .eq 493, 3) := by decide +kernel
theorem dL_law_231 : decode cL_law 231 = .ok (.iconst 0, 1) := by decide +kernel
theorem dL_law_232 : decode cL_law 232 = .ok (.ireturn, 1) := by decide +kernel
theorem dL_law_233 : decode cL_law 233 = .ok (.aload_n 1, 1) := by decide +kernel
theorem dL_law_234 : decode cL_law 234 = .ok (.aload_n 0, 1) := by decide +kernel
theorem dL_law_235 : decode cL_law 235 = .ok (.iload_n 3, 1) := by decide +kernel
theorem dL_law_236 : decode cL_law 236 = .ok (.iconst 1, 1) := by decide +kernel
theorem dL_law_237 : decode cL_law 237 = .ok (.iadd, 1) := by decide +kernel
theorem dL_law_238 : decode cL_law 238 = .ok (.iaload, 1) := by decide +kernel
theorem dL_law_239 : decode cL_law 239 = .ok (.aload_n 0, 1) := by decide +kernel
theorem dL_law_240 : decode cL_law 240 = .ok (.iload_n 3, 1) := by decide +kernel
theorem dL_law_241 : decode cL_law 241 = .ok (.iconst 2, 1) := by decide +kernel
theorem dL_law_242 : decode cL_law 242 = .ok (.iadd, 1) := by decide +kernel
theorem dL_law_243 : decode cL_law 243 = .ok (.iaload, 1) := by decide +kernel
theorem dL_law_244 : decode cL_law 244 = .ok (.aload_n 0, 1) := by decide +kernel
theorem dL_law_245 : decode cL_law 245 = .ok (.iload_n 3, 1) := by decide +kernel
theorem dL_law_246 : decode cL_law 246 = .ok (.iconst 3, 1) := by decide +kernel
theorem dL_law_247 : decode cL_law 247 = .ok (.iadd, 1) := by decide +kernel
theorem dL_law_248 : decode cL_law 248 = .ok (.iaload, 1) := by decide +kernel
theorem dL_law_249 : decode cL_law 249 = .ok (.aload_n 0, 1) := by decide +kernel
theorem dL_law_250 : decode cL_law 250 = .ok (.iload_n 3, 1) := by decide +kernel
theorem dL_law_251 : decode cL_law 251 = .ok (.iconst 4, 1) := by decide +kernel
theorem dL_law_252 : decode cL_law 252 = .ok (.iadd, 1) := by decide +kernel
theorem dL_law_253 : decode cL_law 253 = .ok (.iaload, 1) := by decide +kernel
theorem dL_law_254 : decode cL_law 254 = .ok (.aload_n 0, 1) := by decide +kernel
theorem dL_law_255 : decode cL_law 255 = .ok (.iload_n 3, 1) := by decide +kernel
theorem dL_law_256 : decode cL_law 256 = .ok (.iconst 5, 1) := by decide +kernel
theorem dL_law_257 : decode cL_law 257 = .ok (.iadd, 1) := by decide +kernel
theorem dL_law_258 : decode cL_law 258 = .ok (.iaload, 1) := by decide +kernel
theorem dL_law_259 : decode cL_law 259 = .ok (.invokevirtual 28, 3) := by decide +kernel
theorem dL_law_262 : decode cL_law 262 = .ok (.aload_n 2, 1) := by decide +kernel
theorem dL_law_263 : decode cL_law 263 = .ok (.aload_n 0, 1) := by decide +kernel
theorem dL_law_264 : decode cL_law 264 = .ok (.iload_n 3, 1) := by decide +kernel
theorem dL_law_265 : decode cL_law 265 = .ok (.iconst 1, 1) := by decide +kernel
theorem dL_law_266 : decode cL_law 266 = .ok (.iadd, 1) := by decide +kernel
theorem dL_law_267 : decode cL_law 267 = .ok (.iaload, 1) := by decide +kernel
theorem dL_law_268 : decode cL_law 268 = .ok (.aload_n 0, 1) := by decide +kernel
theorem dL_law_269 : decode cL_law 269 = .ok (.iload_n 3, 1) := by decide +kernel
theorem dL_law_270 : decode cL_law 270 = .ok (.iconst 2, 1) := by decide +kernel
theorem dL_law_271 : decode cL_law 271 = .ok (.iadd, 1) := by decide +kernel
theorem dL_law_272 : decode cL_law 272 = .ok (.iaload, 1) := by decide +kernel
theorem dL_law_273 : decode cL_law 273 = .ok (.aload_n 0, 1) := by decide +kernel
theorem dL_law_274 : decode cL_law 274 = .ok (.iload_n 3, 1) := by decide +kernel
theorem dL_law_275 : decode cL_law 275 = .ok (.iconst 3, 1) := by decide +kernel
theorem dL_law_276 : decode cL_law 276 = .ok (.iadd, 1) := by decide +kernel
theorem dL_law_277 : decode cL_law 277 = .ok (.iaload, 1) := by decide +kernel
theorem dL_law_278 : decode cL_law 278 = .ok (.aload_n 0, 1) := by decide +kernel
theorem dL_law_279 : decode cL_law 279 = .ok (.iload_n 3, 1) := by decide +kernel
theorem dL_law_280 : decode cL_law 280 = .ok (.iconst 4, 1) := by decide +kernel
theorem dL_law_281 : decode cL_law 281 = .ok (.iadd, 1) := by decide +kernel
theorem dL_law_282 : decode cL_law 282 = .ok (.iaload, 1) := by decide +kernel
theorem dL_law_283 : decode cL_law 283 = .ok (.aload_n 0, 1) := by decide +kernel
theorem dL_law_284 : decode cL_law 284 = .ok (.iload_n 3, 1) := by decide +kernel
theorem dL_law_285 : decode cL_law 285 = .ok (.iconst 5, 1) := by decide +kernel
theorem dL_law_286 : decode cL_law 286 = .ok (.iadd, 1) := by decide +kernel
theorem dL_law_287 : decode cL_law 287 = .ok (.iaload, 1) := by decide +kernel
theorem dL_law_288 : decode cL_law 288 = .ok (.invokevirtual 32, 3) := by decide +kernel
theorem dL_law_291 : decode cL_law 291 = .ok (.if_icmp .eq 430, 3) := by decide +kernel
theorem dL_law_294 : decode cL_law 294 = .ok (.iconst 0, 1) := by decide +kernel
theorem dL_law_295 : decode cL_law 295 = .ok (.ireturn, 1) := by decide +kernel
theorem dL_law_296 : decode cL_law 296 = .ok (.aload_n 1, 1) := by decide +kernel
theorem dL_law_297 : decode cL_law 297 = .ok (.aload_n 0, 1) := by decide +kernel
theorem dL_law_298 : decode cL_law 298 = .ok (.iload_n 3, 1) := by decide +kernel
theorem dL_law_299 : decode cL_law 299 = .ok (.iconst 1, 1) := by decide +kernel
theorem dL_law_300 : decode cL_law 300 = .ok (.iadd, 1) := by decide +kernel
theorem dL_law_301 : decode cL_law 301 = .ok (.iaload, 1) := by decide +kernel
theorem dL_law_302 : decode cL_law 302 = .ok (.aload_n 0, 1) := by decide +kernel
theorem dL_law_303 : decode cL_law 303 = .ok (.iload_n 3, 1) := by decide +kernel
theorem dL_law_304 : decode cL_law 304 = .ok (.iconst 2, 1) := by decide +kernel
theorem dL_law_305 : decode cL_law 305 = .ok (.iadd, 1) := by decide +kernel
theorem dL_law_306 : decode cL_law 306 = .ok (.iaload, 1) := by decide +kernel
theorem dL_law_307 : decode cL_law 307 = .ok (.aload_n 0, 1) := by decide +kernel
theorem dL_law_308 : decode cL_law 308 = .ok (.iload_n 3, 1) := by decide +kernel
theorem dL_law_309 : decode cL_law 309 = .ok (.iconst 3, 1) := by decide +kernel
theorem dL_law_310 : decode cL_law 310 = .ok (.iadd, 1) := by decide +kernel
theorem dL_law_311 : decode cL_law 311 = .ok (.iaload, 1) := by decide +kernel
theorem dL_law_312 : decode cL_law 312 = .ok (.aload_n 0, 1) := by decide +kernel
theorem dL_law_313 : decode cL_law 313 = .ok (.iload_n 3, 1) := by decide +kernel
theorem dL_law_314 : decode cL_law 314 = .ok (.iconst 4, 1) := by decide +kernel
theorem dL_law_315 : decode cL_law 315 = .ok (.iadd, 1) := by decide +kernel
theorem dL_law_316 : decode cL_law 316 = .ok (.iaload, 1) := by decide +kernel
theorem dL_law_317 : decode cL_law 317 = .ok (.invokevirtual 33, 3) := by decide +kernel
theorem dL_law_320 : decode cL_law 320 = .ok (.aload_n 2, 1) := by decide +kernel
theorem dL_law_321 : decode cL_law 321 = .ok (.aload_n 0, 1) := by decide +kernel
theorem dL_law_322 : decode cL_law 322 = .ok (.iload_n 3, 1) := by decide +kernel
theorem dL_law_323 : decode cL_law 323 = .ok (.iconst 1, 1) := by decide +kernel
theorem dL_law_324 : decode cL_law 324 = .ok (.iadd, 1) := by decide +kernel
theorem dL_law_325 : decode cL_law 325 = .ok (.iaload, 1) := by decide +kernel
theorem dL_law_326 : decode cL_law 326 = .ok (.aload_n 0, 1) := by decide +kernel
theorem dL_law_327 : decode cL_law 327 = .ok (.iload_n 3, 1) := by decide +kernel
theorem dL_law_328 : decode cL_law 328 = .ok (.iconst 2, 1) := by decide +kernel
theorem dL_law_329 : decode cL_law 329 = .ok (.iadd, 1) := by decide +kernel
theorem dL_law_330 : decode cL_law 330 = .ok (.iaload, 1) := by decide +kernel
theorem dL_law_331 : decode cL_law 331 = .ok (.aload_n 0, 1) := by decide +kernel
theorem dL_law_332 : decode cL_law 332 = .ok (.iload_n 3, 1) := by decide +kernel
theorem dL_law_333 : decode cL_law 333 = .ok (.iconst 3, 1) := by decide +kernel
theorem dL_law_334 : decode cL_law 334 = .ok (.iadd, 1) := by decide +kernel
theorem dL_law_335 : decode cL_law 335 = .ok (.iaload, 1) := by decide +kernel
theorem dL_law_336 : decode cL_law 336 = .ok (.aload_n 0, 1) := by decide +kernel
theorem dL_law_337 : decode cL_law 337 = .ok (.iload_n 3, 1) := by decide +kernel
theorem dL_law_338 : decode cL_law 338 = .ok (.iconst 4, 1) := by decide +kernel
theorem dL_law_339 : decode cL_law 339 = .ok (.iadd, 1) := by decide +kernel
theorem dL_law_340 : decode cL_law 340 = .ok (.iaload, 1) := by decide +kernel
theorem dL_law_341 : decode cL_law 341 = .ok (.invokevirtual 36, 3) := by decide +kernel
theorem dL_law_344 : decode cL_law 344 = .ok (.if_icmp .eq 377, 3) := by decide +kernel
theorem dL_law_347 : decode cL_law 347 = .ok (.iconst 0, 1) := by decide +kernel
theorem dL_law_348 : decode cL_law 348 = .ok (.ireturn, 1) := by decide +kernel
theorem dL_law_349 : decode cL_law 349 = .ok (.aload_n 1, 1) := by decide +kernel
theorem dL_law_350 : decode cL_law 350 = .ok (.aload_n 0, 1) := by decide +kernel
theorem dL_law_351 : decode cL_law 351 = .ok (.iload_n 3, 1) := by decide +kernel
theorem dL_law_352 : decode cL_law 352 = .ok (.iconst 1, 1) := by decide +kernel
theorem dL_law_353 : decode cL_law 353 = .ok (.iadd, 1) := by decide +kernel
theorem dL_law_354 : decode cL_law 354 = .ok (.iaload, 1) := by decide +kernel
theorem dL_law_355 : decode cL_law 355 = .ok (.aload_n 0, 1) := by decide +kernel
theorem dL_law_356 : decode cL_law 356 = .ok (.iload_n 3, 1) := by decide +kernel
theorem dL_law_357 : decode cL_law 357 = .ok (.iconst 2, 1) := by decide +kernel
theorem dL_law_358 : decode cL_law 358 = .ok (.iadd, 1) := by decide +kernel
theorem dL_law_359 : decode cL_law 359 = .ok (.iaload, 1) := by decide +kernel
theorem dL_law_360 : decode cL_law 360 = .ok (.aload_n 0, 1) := by decide +kernel
theorem dL_law_361 : decode cL_law 361 = .ok (.iload_n 3, 1) := by decide +kernel
theorem dL_law_362 : decode cL_law 362 = .ok (.iconst 3, 1) := by decide +kernel
theorem dL_law_363 : decode cL_law 363 = .ok (.iadd, 1) := by decide +kernel
theorem dL_law_364 : decode cL_law 364 = .ok (.iaload, 1) := by decide +kernel
theorem dL_law_365 : decode cL_law 365 = .ok (.aload_n 0, 1) := by decide +kernel
theorem dL_law_366 : decode cL_law 366 = .ok (.iload_n 3, 1) := by decide +kernel
theorem dL_law_367 : decode cL_law 367 = .ok (.iconst 4, 1) := by decide +kernel
theorem dL_law_368 : decode cL_law 368 = .ok (.iadd, 1) := by decide +kernel
theorem dL_law_369 : decode cL_law 369 = .ok (.iaload, 1) := by decide +kernel
theorem dL_law_370 : decode cL_law 370 = .ok (.invokevirtual 37, 3) := by decide +kernel
theorem dL_law_373 : decode cL_law 373 = .ok (.aload_n 2, 1) := by decide +kernel
theorem dL_law_374 : decode cL_law 374 = .ok (.aload_n 0, 1) := by decide +kernel
theorem dL_law_375 : decode cL_law 375 = .ok (.iload_n 3, 1) := by decide +kernel
theorem dL_law_376 : decode cL_law 376 = .ok (.iconst 1, 1) := by decide +kernel
theorem dL_law_377 : decode cL_law 377 = .ok (.iadd, 1) := by decide +kernel
theorem dL_law_378 : decode cL_law 378 = .ok (.iaload, 1) := by decide +kernel
theorem dL_law_379 : decode cL_law 379 = .ok (.aload_n 0, 1) := by decide +kernel
theorem dL_law_380 : decode cL_law 380 = .ok (.iload_n 3, 1) := by decide +kernel
theorem dL_law_381 : decode cL_law 381 = .ok (.iconst 2, 1) := by decide +kernel
theorem dL_law_382 : decode cL_law 382 = .ok (.iadd, 1) := by decide +kernel
theorem dL_law_383 : decode cL_law 383 = .ok (.iaload, 1) := by decide +kernel
theorem dL_law_384 : decode cL_law 384 = .ok (.aload_n 0, 1) := by decide +kernel
theorem dL_law_385 : decode cL_law 385 = .ok (.iload_n 3, 1) := by decide +kernel
theorem dL_law_386 : decode cL_law 386 = .ok (.iconst 3, 1) := by decide +kernel
theorem dL_law_387 : decode cL_law 387 = .ok (.iadd, 1) := by decide +kernel
theorem dL_law_388 : decode cL_law 388 = .ok (.iaload, 1) := by decide +kernel
theorem dL_law_389 : decode cL_law 389 = .ok (.aload_n 0, 1) := by decide +kernel
theorem dL_law_390 : decode cL_law 390 = .ok (.iload_n 3, 1) := by decide +kernel
theorem dL_law_391 : decode cL_law 391 = .ok (.iconst 4, 1) := by decide +kernel
theorem dL_law_392 : decode cL_law 392 = .ok (.iadd, 1) := by decide +kernel
theorem dL_law_393 : decode cL_law 393 = .ok (.iaload, 1) := by decide +kernel
theorem dL_law_394 : decode cL_law 394 = .ok (.invokevirtual 40, 3) := by decide +kernel
theorem dL_law_397 : decode cL_law 397 = .ok (.if_icmp .eq 324, 3) := by decide +kernel
theorem dL_law_400 : decode cL_law 400 = .ok (.iconst 0, 1) := by decide +kernel
theorem dL_law_401 : decode cL_law 401 = .ok (.ireturn, 1) := by decide +kernel
theorem dL_law_402 : decode cL_law 402 = .ok (.aload_n 1, 1) := by decide +kernel
theorem dL_law_403 : decode cL_law 403 = .ok (.aload_n 0, 1) := by decide +kernel
theorem dL_law_404 : decode cL_law 404 = .ok (.iload_n 3, 1) := by decide +kernel
theorem dL_law_405 : decode cL_law 405 = .ok (.iconst 1, 1) := by decide +kernel
theorem dL_law_406 : decode cL_law 406 = .ok (.iadd, 1) := by decide +kernel
theorem dL_law_407 : decode cL_law 407 = .ok (.iaload, 1) := by decide +kernel
theorem dL_law_408 : decode cL_law 408 = .ok (.aload_n 0, 1) := by decide +kernel
theorem dL_law_409 : decode cL_law 409 = .ok (.iload_n 3, 1) := by decide +kernel
theorem dL_law_410 : decode cL_law 410 = .ok (.iconst 2, 1) := by decide +kernel
theorem dL_law_411 : decode cL_law 411 = .ok (.iadd, 1) := by decide +kernel
theorem dL_law_412 : decode cL_law 412 = .ok (.iaload, 1) := by decide +kernel
theorem dL_law_413 : decode cL_law 413 = .ok (.invokevirtual 41, 3) := by decide +kernel
theorem dL_law_416 : decode cL_law 416 = .ok (.aload_n 2, 1) := by decide +kernel
theorem dL_law_417 : decode cL_law 417 = .ok (.aload_n 0, 1) := by decide +kernel
theorem dL_law_418 : decode cL_law 418 = .ok (.iload_n 3, 1) := by decide +kernel
theorem dL_law_419 : decode cL_law 419 = .ok (.iconst 1, 1) := by decide +kernel
theorem dL_law_420 : decode cL_law 420 = .ok (.iadd, 1) := by decide +kernel
theorem dL_law_421 : decode cL_law 421 = .ok (.iaload, 1) := by decide +kernel
theorem dL_law_422 : decode cL_law 422 = .ok (.aload_n 0, 1) := by decide +kernel
theorem dL_law_423 : decode cL_law 423 = .ok (.iload_n 3, 1) := by decide +kernel
theorem dL_law_424 : decode cL_law 424 = .ok (.iconst 2, 1) := by decide +kernel
theorem dL_law_425 : decode cL_law 425 = .ok (.iadd, 1) := by decide +kernel
theorem dL_law_426 : decode cL_law 426 = .ok (.iaload, 1) := by decide +kernel
theorem dL_law_427 : decode cL_law 427 = .ok (.invokevirtual 45, 3) := by decide +kernel
theorem dL_law_430 : decode cL_law 430 = .ok (.if_icmp .eq 291, 3) := by decide +kernel
theorem dL_law_433 : decode cL_law 433 = .ok (.iconst 0, 1) := by decide +kernel
theorem dL_law_434 : decode cL_law 434 = .ok (.ireturn, 1) := by decide +kernel
theorem dL_law_435 : decode cL_law 435 = .ok (.aload_n 1, 1) := by decide +kernel
theorem dL_law_436 : decode cL_law 436 = .ok (.aload_n 0, 1) := by decide +kernel
theorem dL_law_437 : decode cL_law 437 = .ok (.iload_n 3, 1) := by decide +kernel
theorem dL_law_438 : decode cL_law 438 = .ok (.iconst 1, 1) := by decide +kernel
theorem dL_law_439 : decode cL_law 439 = .ok (.iadd, 1) := by decide +kernel
theorem dL_law_440 : decode cL_law 440 = .ok (.iaload, 1) := by decide +kernel
theorem dL_law_441 : decode cL_law 441 = .ok (.aload_n 0, 1) := by decide +kernel
theorem dL_law_442 : decode cL_law 442 = .ok (.iload_n 3, 1) := by decide +kernel
theorem dL_law_443 : decode cL_law 443 = .ok (.iconst 2, 1) := by decide +kernel
theorem dL_law_444 : decode cL_law 444 = .ok (.iadd, 1) := by decide +kernel
theorem dL_law_445 : decode cL_law 445 = .ok (.iaload, 1) := by decide +kernel
theorem dL_law_446 : decode cL_law 446 = .ok (.aload_n 0, 1) := by decide +kernel
theorem dL_law_447 : decode cL_law 447 = .ok (.iload_n 3, 1) := by decide +kernel
theorem dL_law_448 : decode cL_law 448 = .ok (.iconst 3, 1) := by decide +kernel
theorem dL_law_449 : decode cL_law 449 = .ok (.iadd, 1) := by decide +kernel
theorem dL_law_450 : decode cL_law 450 = .ok (.iaload, 1) := by decide +kernel
theorem dL_law_451 : decode cL_law 451 = .ok (.invokevirtual 46, 3) := by decide +kernel
theorem dL_law_454 : decode cL_law 454 = .ok (.aload_n 2, 1) := by decide +kernel
theorem dL_law_455 : decode cL_law 455 = .ok (.aload_n 0, 1) := by decide +kernel
theorem dL_law_456 : decode cL_law 456 = .ok (.iload_n 3, 1) := by decide +kernel
theorem dL_law_457 : decode cL_law 457 = .ok (.iconst 1, 1) := by decide +kernel
theorem dL_law_458 : decode cL_law 458 = .ok (.iadd, 1) := by decide +kernel
theorem dL_law_459 : decode cL_law 459 = .ok (.iaload, 1) := by decide +kernel
theorem dL_law_460 : decode cL_law 460 = .ok (.aload_n 0, 1) := by decide +kernel
theorem dL_law_461 : decode cL_law 461 = .ok (.iload_n 3, 1) := by decide +kernel
theorem dL_law_462 : decode cL_law 462 = .ok (.iconst 2, 1) := by decide +kernel
theorem dL_law_463 : decode cL_law 463 = .ok (.iadd, 1) := by decide +kernel
theorem dL_law_464 : decode cL_law 464 = .ok (.iaload, 1) := by decide +kernel
theorem dL_law_465 : decode cL_law 465 = .ok (.aload_n 0, 1) := by decide +kernel
theorem dL_law_466 : decode cL_law 466 = .ok (.iload_n 3, 1) := by decide +kernel
theorem dL_law_467 : decode cL_law 467 = .ok (.iconst 3, 1) := by decide +kernel
theorem dL_law_468 : decode cL_law 468 = .ok (.iadd, 1) := by decide +kernel
theorem dL_law_469 : decode cL_law 469 = .ok (.iaload, 1) := by decide +kernel
theorem dL_law_470 : decode cL_law 470 = .ok (.invokevirtual 49, 3) := by decide +kernel
theorem dL_law_473 : decode cL_law 473 = .ok (.if_icmp .eq 248, 3) := by decide +kernel
theorem dL_law_476 : decode cL_law 476 = .ok (.iconst 0, 1) := by decide +kernel
theorem dL_law_477 : decode cL_law 477 = .ok (.ireturn, 1) := by decide +kernel
theorem dL_law_478 : decode cL_law 478 = .ok (.aload_n 1, 1) := by decide +kernel
theorem dL_law_479 : decode cL_law 479 = .ok (.aload_n 0, 1) := by decide +kernel
theorem dL_law_480 : decode cL_law 480 = .ok (.iload_n 3, 1) := by decide +kernel
theorem dL_law_481 : decode cL_law 481 = .ok (.iconst 1, 1) := by decide +kernel
theorem dL_law_482 : decode cL_law 482 = .ok (.iadd, 1) := by decide +kernel
theorem dL_law_483 : decode cL_law 483 = .ok (.iaload, 1) := by decide +kernel
theorem dL_law_484 : decode cL_law 484 = .ok (.invokevirtual 50, 3) := by decide +kernel
theorem dL_law_487 : decode cL_law 487 = .ok (.aload_n 2, 1) := by decide +kernel
theorem dL_law_488 : decode cL_law 488 = .ok (.aload_n 0, 1) := by decide +kernel
theorem dL_law_489 : decode cL_law 489 = .ok (.iload_n 3, 1) := by decide +kernel
theorem dL_law_490 : decode cL_law 490 = .ok (.iconst 1, 1) := by decide +kernel
theorem dL_law_491 : decode cL_law 491 = .ok (.iadd, 1) := by decide +kernel
theorem dL_law_492 : decode cL_law 492 = .ok (.iaload, 1) := by decide +kernel
theorem dL_law_493 : decode cL_law 493 = .ok (.invokevirtual 54, 3) := by decide +kernel
theorem dL_law_496 : decode cL_law 496 = .ok (.if_icmp .eq 225, 3) := by decide +kernel
theorem dL_law_499 : decode cL_law 499 = .ok (.iconst 0, 1) := by decide +kernel
theorem dL_law_500 : decode cL_law 500 = .ok (.ireturn, 1) := by decide +kernel
theorem dL_law_501 : decode cL_law 501 = .ok (.aload_n 1, 1) := by decide +kernel
theorem dL_law_502 : decode cL_law 502 = .ok (.invokevirtual 55, 3) := by decide +kernel
theorem dL_law_505 : decode cL_law 505 = .ok (.aload_n 2, 1) := by decide +kernel
theorem dL_law_506 : decode cL_law 506 = .ok (.invokevirtual 58, 3) := by decide +kernel
theorem dL_law_509 : decode cL_law 509 = .ok (.if_icmp .eq 212, 3) := by decide +kernel
theorem dL_law_512 : decode cL_law 512 = .ok (.iconst 0, 1) := by decide +kernel
theorem dL_law_513 : decode cL_law 513 = .ok (.ireturn, 1) := by decide +kernel
theorem dL_law_514 : decode cL_law 514 = .ok (.aload_n 1, 1) := by decide +kernel
theorem dL_law_515 : decode cL_law 515 = .ok (.aload_n 0, 1) := by decide +kernel
theorem dL_law_516 : decode cL_law 516 = .ok (.iload_n 3, 1) := by decide +kernel
theorem dL_law_517 : decode cL_law 517 = .ok (.iconst 1, 1) := by decide +kernel
theorem dL_law_518 : decode cL_law 518 = .ok (.iadd, 1) := by decide +kernel
theorem dL_law_519 : decode cL_law 519 = .ok (.iaload, 1) := by decide +kernel
theorem dL_law_520 : decode cL_law 520 = .ok (.invokevirtual 59, 3) := by decide +kernel
theorem dL_law_523 : decode cL_law 523 = .ok (.aload_n 2, 1) := by decide +kernel
theorem dL_law_524 : decode cL_law 524 = .ok (.aload_n 0, 1) := by decide +kernel
theorem dL_law_525 : decode cL_law 525 = .ok (.iload_n 3, 1) := by decide +kernel
theorem dL_law_526 : decode cL_law 526 = .ok (.iconst 1, 1) := by decide +kernel
theorem dL_law_527 : decode cL_law 527 = .ok (.iadd, 1) := by decide +kernel
theorem dL_law_528 : decode cL_law 528 = .ok (.iaload, 1) := by decide +kernel
theorem dL_law_529 : decode cL_law 529 = .ok (.invokevirtual 62, 3) := by decide +kernel
theorem dL_law_532 : decode cL_law 532 = .ok (.if_icmp .eq 189, 3) := by decide +kernel
theorem dL_law_535 : decode cL_law 535 = .ok (.iconst 0, 1) := by decide +kernel
theorem dL_law_536 : decode cL_law 536 = .ok (.ireturn, 1) := by decide +kernel
theorem dL_law_537 : decode cL_law 537 = .ok (.aload_n 1, 1) := by decide +kernel
theorem dL_law_538 : decode cL_law 538 = .ok (.invokevirtual 63, 3) := by decide +kernel
theorem dL_law_541 : decode cL_law 541 = .ok (.aload_n 2, 1) := by decide +kernel
theorem dL_law_542 : decode cL_law 542 = .ok (.invokevirtual 66, 3) := by decide +kernel
theorem dL_law_545 : decode cL_law 545 = .ok (.if_icmp .eq 176, 3) := by decide +kernel
theorem dL_law_548 : decode cL_law 548 = .ok (.iconst 0, 1) := by decide +kernel
theorem dL_law_549 : decode cL_law 549 = .ok (.ireturn, 1) := by decide +kernel
theorem dL_law_550 : decode cL_law 550 = .ok (.aload_n 1, 1) := by decide +kernel
theorem dL_law_551 : decode cL_law 551 = .ok (.invokevirtual 67, 3) := by decide +kernel
theorem dL_law_554 : decode cL_law 554 = .ok (.aload_n 2, 1) := by decide +kernel
theorem dL_law_555 : decode cL_law 555 = .ok (.invokevirtual 70, 3) := by decide +kernel
theorem dL_law_558 : decode cL_law 558 = .ok (.if_icmp .eq 163, 3) := by decide +kernel
theorem dL_law_561 : decode cL_law 561 = .ok (.iconst 0, 1) := by decide +kernel
theorem dL_law_562 : decode cL_law 562 = .ok (.ireturn, 1) := by decide +kernel
theorem dL_law_563 : decode cL_law 563 = .ok (.aload_n 1, 1) := by decide +kernel
theorem dL_law_564 : decode cL_law 564 = .ok (.invokevirtual 71, 3) := by decide +kernel
theorem dL_law_567 : decode cL_law 567 = .ok (.aload_n 2, 1) := by decide +kernel
theorem dL_law_568 : decode cL_law 568 = .ok (.invokevirtual 74, 3) := by decide +kernel
theorem dL_law_571 : decode cL_law 571 = .ok (.if_icmp .eq 150, 3) := by decide +kernel
theorem dL_law_574 : decode cL_law 574 = .ok (.iconst 0, 1) := by decide +kernel
theorem dL_law_575 : decode cL_law 575 = .ok (.ireturn, 1) := by decide +kernel
theorem dL_law_576 : decode cL_law 576 = .ok (.aload_n 1, 1) := by decide +kernel
theorem dL_law_577 : decode cL_law 577 = .ok (.invokevirtual 75, 3) := by decide +kernel
theorem dL_law_580 : decode cL_law 580 = .ok (.aload_n 2, 1) := by decide +kernel
theorem dL_law_581 : decode cL_law 581 = .ok (.invokevirtual 78, 3) := by decide +kernel
theorem dL_law_584 : decode cL_law 584 = .ok (.if_icmp .eq 137, 3) := by decide +kernel
theorem dL_law_587 : decode cL_law 587 = .ok (.iconst 0, 1) := by decide +kernel
theorem dL_law_588 : decode cL_law 588 = .ok (.ireturn, 1) := by decide +kernel
theorem dL_law_589 : decode cL_law 589 = .ok (.aload_n 1, 1) := by decide +kernel
theorem dL_law_590 : decode cL_law 590 = .ok (.aload_n 0, 1) := by decide +kernel
theorem dL_law_591 : decode cL_law 591 = .ok (.iload_n 3, 1) := by decide +kernel
theorem dL_law_592 : decode cL_law 592 = .ok (.iconst 1, 1) := by decide +kernel
theorem dL_law_593 : decode cL_law 593 = .ok (.iadd, 1) := by decide +kernel
theorem dL_law_594 : decode cL_law 594 = .ok (.iaload, 1) := by decide +kernel
theorem dL_law_595 : decode cL_law 595 = .ok (.aload_n 0, 1) := by decide +kernel
theorem dL_law_596 : decode cL_law 596 = .ok (.iload_n 3, 1) := by decide +kernel
theorem dL_law_597 : decode cL_law 597 = .ok (.iconst 2, 1) := by decide +kernel
theorem dL_law_598 : decode cL_law 598 = .ok (.iadd, 1) := by decide +kernel
theorem dL_law_599 : decode cL_law 599 = .ok (.iaload, 1) := by decide +kernel
theorem dL_law_600 : decode cL_law 600 = .ok (.aload_n 0, 1) := by decide +kernel
theorem dL_law_601 : decode cL_law 601 = .ok (.iload_n 3, 1) := by decide +kernel
theorem dL_law_602 : decode cL_law 602 = .ok (.iconst 3, 1) := by decide +kernel
theorem dL_law_603 : decode cL_law 603 = .ok (.iadd, 1) := by decide +kernel
theorem dL_law_604 : decode cL_law 604 = .ok (.iaload, 1) := by decide +kernel
theorem dL_law_605 : decode cL_law 605 = .ok (.invokevirtual 79, 3) := by decide +kernel
theorem dL_law_608 : decode cL_law 608 = .ok (.aload_n 2, 1) := by decide +kernel
theorem dL_law_609 : decode cL_law 609 = .ok (.aload_n 0, 1) := by decide +kernel
theorem dL_law_610 : decode cL_law 610 = .ok (.iload_n 3, 1) := by decide +kernel
theorem dL_law_611 : decode cL_law 611 = .ok (.iconst 1, 1) := by decide +kernel
theorem dL_law_612 : decode cL_law 612 = .ok (.iadd, 1) := by decide +kernel
theorem dL_law_613 : decode cL_law 613 = .ok (.iaload, 1) := by decide +kernel
theorem dL_law_614 : decode cL_law 614 = .ok (.aload_n 0, 1) := by decide +kernel
theorem dL_law_615 : decode cL_law 615 = .ok (.iload_n 3, 1) := by decide +kernel
theorem dL_law_616 : decode cL_law 616 = .ok (.iconst 2, 1) := by decide +kernel
theorem dL_law_617 : decode cL_law 617 = .ok (.iadd, 1) := by decide +kernel
theorem dL_law_618 : decode cL_law 618 = .ok (.iaload, 1) := by decide +kernel
theorem dL_law_619 : decode cL_law 619 = .ok (.aload_n 0, 1) := by decide +kernel
theorem dL_law_620 : decode cL_law 620 = .ok (.iload_n 3, 1) := by decide +kernel
theorem dL_law_621 : decode cL_law 621 = .ok (.iconst 3, 1) := by decide +kernel
theorem dL_law_622 : decode cL_law 622 = .ok (.iadd, 1) := by decide +kernel
theorem dL_law_623 : decode cL_law 623 = .ok (.iaload, 1) := by decide +kernel
theorem dL_law_624 : decode cL_law 624 = .ok (.invokevirtual 82, 3) := by decide +kernel
theorem dL_law_627 : decode cL_law 627 = .ok (.if_icmp .eq 94, 3) := by decide +kernel
theorem dL_law_630 : decode cL_law 630 = .ok (.iconst 0, 1) := by decide +kernel
theorem dL_law_631 : decode cL_law 631 = .ok (.ireturn, 1) := by decide +kernel
theorem dL_law_632 : decode cL_law 632 = .ok (.aload_n 1, 1) := by decide +kernel
theorem dL_law_633 : decode cL_law 633 = .ok (.aload_n 0, 1) := by decide +kernel
theorem dL_law_634 : decode cL_law 634 = .ok (.iload_n 3, 1) := by decide +kernel
theorem dL_law_635 : decode cL_law 635 = .ok (.iconst 1, 1) := by decide +kernel
theorem dL_law_636 : decode cL_law 636 = .ok (.iadd, 1) := by decide +kernel
theorem dL_law_637 : decode cL_law 637 = .ok (.iaload, 1) := by decide +kernel
theorem dL_law_638 : decode cL_law 638 = .ok (.aload_n 0, 1) := by decide +kernel
theorem dL_law_639 : decode cL_law 639 = .ok (.iload_n 3, 1) := by decide +kernel
theorem dL_law_640 : decode cL_law 640 = .ok (.iconst 2, 1) := by decide +kernel
theorem dL_law_641 : decode cL_law 641 = .ok (.iadd, 1) := by decide +kernel
theorem dL_law_642 : decode cL_law 642 = .ok (.iaload, 1) := by decide +kernel
theorem dL_law_643 : decode cL_law 643 = .ok (.aload_n 0, 1) := by decide +kernel
theorem dL_law_644 : decode cL_law 644 = .ok (.iload_n 3, 1) := by decide +kernel
theorem dL_law_645 : decode cL_law 645 = .ok (.iconst 3, 1) := by decide +kernel
theorem dL_law_646 : decode cL_law 646 = .ok (.iadd, 1) := by decide +kernel
theorem dL_law_647 : decode cL_law 647 = .ok (.iaload, 1) := by decide +kernel
theorem dL_law_648 : decode cL_law 648 = .ok (.invokevirtual 83, 3) := by decide +kernel
theorem dL_law_651 : decode cL_law 651 = .ok (.aload_n 2, 1) := by decide +kernel
theorem dL_law_652 : decode cL_law 652 = .ok (.aload_n 0, 1) := by decide +kernel
theorem dL_law_653 : decode cL_law 653 = .ok (.iload_n 3, 1) := by decide +kernel
theorem dL_law_654 : decode cL_law 654 = .ok (.iconst 1, 1) := by decide +kernel
theorem dL_law_655 : decode cL_law 655 = .ok (.iadd, 1) := by decide +kernel
theorem dL_law_656 : decode cL_law 656 = .ok (.iaload, 1) := by decide +kernel
theorem dL_law_657 : decode cL_law 657 = .ok (.aload_n 0, 1) := by decide +kernel
theorem dL_law_658 : decode cL_law 658 = .ok (.iload_n 3, 1) := by decide +kernel
theorem dL_law_659 : decode cL_law 659 = .ok (.iconst 2, 1) := by decide +kernel
theorem dL_law_660 : decode cL_law 660 = .ok (.iadd, 1) := by decide +kernel
theorem dL_law_661 : decode cL_law 661 = .ok (.iaload, 1) := by decide +kernel
theorem dL_law_662 : decode cL_law 662 = .ok (.aload_n 0, 1) := by decide +kernel
theorem dL_law_663 : decode cL_law 663 = .ok (.iload_n 3, 1) := by decide +kernel
theorem dL_law_664 : decode cL_law 664 = .ok (.iconst 3, 1) := by decide +kernel
theorem dL_law_665 : decode cL_law 665 = .ok (.iadd, 1) := by decide +kernel
theorem dL_law_666 : decode cL_law 666 = .ok (.iaload, 1) := by decide +kernel
theorem dL_law_667 : decode cL_law 667 = .ok (.invokevirtual 86, 3) := by decide +kernel
theorem dL_law_670 : decode cL_law 670 = .ok (.if_icmp .eq 51, 3) := by decide +kernel
theorem dL_law_673 : decode cL_law 673 = .ok (.iconst 0, 1) := by decide +kernel
theorem dL_law_674 : decode cL_law 674 = .ok (.ireturn, 1) := by decide +kernel
theorem dL_law_675 : decode cL_law 675 = .ok (.aload_n 1, 1) := by decide +kernel
theorem dL_law_676 : decode cL_law 676 = .ok (.aload_n 0, 1) := by decide +kernel
theorem dL_law_677 : decode cL_law 677 = .ok (.iload_n 3, 1) := by decide +kernel
theorem dL_law_678 : decode cL_law 678 = .ok (.iconst 1, 1) := by decide +kernel
theorem dL_law_679 : decode cL_law 679 = .ok (.iadd, 1) := by decide +kernel
theorem dL_law_680 : decode cL_law 680 = .ok (.iaload, 1) := by decide +kernel
theorem dL_law_681 : decode cL_law 681 = .ok (.invokevirtual 87, 3) := by decide +kernel
theorem dL_law_684 : decode cL_law 684 = .ok (.aload_n 2, 1) := by decide +kernel
theorem dL_law_685 : decode cL_law 685 = .ok (.aload_n 0, 1) := by decide +kernel
theorem dL_law_686 : decode cL_law 686 = .ok (.iload_n 3, 1) := by decide +kernel
theorem dL_law_687 : decode cL_law 687 = .ok (.iconst 1, 1) := by decide +kernel
theorem dL_law_688 : decode cL_law 688 = .ok (.iadd, 1) := by decide +kernel
theorem dL_law_689 : decode cL_law 689 = .ok (.iaload, 1) := by decide +kernel
theorem dL_law_690 : decode cL_law 690 = .ok (.invokevirtual 90, 3) := by decide +kernel
theorem dL_law_693 : decode cL_law 693 = .ok (.if_icmp .eq 28, 3) := by decide +kernel
theorem dL_law_696 : decode cL_law 696 = .ok (.iconst 0, 1) := by decide +kernel
theorem dL_law_697 : decode cL_law 697 = .ok (.ireturn, 1) := by decide +kernel
theorem dL_law_698 : decode cL_law 698 = .ok (.aload_n 1, 1) := by decide +kernel
theorem dL_law_699 : decode cL_law 699 = .ok (.aload_n 0, 1) := by decide +kernel
theorem dL_law_700 : decode cL_law 700 = .ok (.iload_n 3, 1) := by decide +kernel
theorem dL_law_701 : decode cL_law 701 = .ok (.iconst 1, 1) := by decide +kernel
theorem dL_law_702 : decode cL_law 702 = .ok (.iadd, 1) := by decide +kernel
theorem dL_law_703 : decode cL_law 703 = .ok (.iaload, 1) := by decide +kernel
theorem dL_law_704 : decode cL_law 704 = .ok (.invokevirtual 91, 3) := by decide +kernel
theorem dL_law_707 : decode cL_law 707 = .ok (.aload_n 2, 1) := by decide +kernel
theorem dL_law_708 : decode cL_law 708 = .ok (.aload_n 0, 1) := by decide +kernel
theorem dL_law_709 : decode cL_law 709 = .ok (.iload_n 3, 1) := by decide +kernel
theorem dL_law_710 : decode cL_law 710 = .ok (.iconst 1, 1) := by decide +kernel
theorem dL_law_711 : decode cL_law 711 = .ok (.iadd, 1) := by decide +kernel
theorem dL_law_712 : decode cL_law 712 = .ok (.iaload, 1) := by decide +kernel
theorem dL_law_713 : decode cL_law 713 = .ok (.invokevirtual 94, 3) := by decide +kernel
theorem dL_law_716 : decode cL_law 716 = .ok (.if_icmp .eq 5, 3) := by decide +kernel
theorem dL_law_719 : decode cL_law 719 = .ok (.iconst 0, 1) := by decide +kernel
theorem dL_law_720 : decode cL_law 720 = .ok (.ireturn, 1) := by decide +kernel
theorem dL_law_721 : decode cL_law 721 = .ok (.iinc 3 6, 3) := by decide +kernel
theorem dL_law_724 : decode cL_law 724 = .ok (.goto (-706), 3) := by decide +kernel
theorem dL_law_727 : decode cL_law 727 = .ok (.iconst 1, 1) := by decide +kernel
theorem dL_law_728 : decode cL_law 728 = .ok (.ireturn, 1) := by decide +kernel
end
section
theorem dX6_init_0 : decode cX6_init 0 = .ok (.aload_n 0, 1) := by decide +kernel
theorem dX6_init_1 : decode cX6_init 1 = .ok (.invokespecial 1, 3) := by decide +kernel
theorem dX6_init_4 : decode cX6_init 4 = .ok (.aload_n 0, 1) := by decide +kernel
theorem dX6_init_5 : decode cX6_init 5 = .ok (.iconst 3, 1) := by decide +kernel
theorem dX6_init_6 : decode cX6_init 6 = .ok (.newarray .int, 2) := by decide +kernel
theorem dX6_init_8 : decode cX6_init 8 = .ok (.putfield 7, 3) := by decide +kernel
theorem dX6_init_11 : decode cX6_init 11 = .ok (.aload_n 0, 1) := by decide +kernel
theorem dX6_init_12 : decode cX6_init 12 = .ok (.bipush 15, 2) := by decide +kernel
theorem dX6_init_14 : decode cX6_init 14 = .ok (.newarray .int, 2) := by decide +kernel
theorem dX6_init_16 : decode cX6_init 16 = .ok (.putfield 13, 3) := by decide +kernel
theorem dX6_init_19 : decode cX6_init 19 = .ok (.aload_n 0, 1) := by decide +kernel
theorem dX6_init_20 : decode cX6_init 20 = .ok (.bipush 15, 2) := by decide +kernel
theorem dX6_init_22 : decode cX6_init 22 = .ok (.newarray .int, 2) := by decide +kernel
theorem dX6_init_24 : decode cX6_init 24 = .ok (.putfield 16, 3) := by decide +kernel
theorem dX6_init_27 : decode cX6_init 27 = .ok (.aload_n 0, 1) := by decide +kernel
theorem dX6_init_28 : decode cX6_init 28 = .ok (.bipush 15, 2) := by decide +kernel
theorem dX6_init_30 : decode cX6_init 30 = .ok (.newarray .int, 2) := by decide +kernel
theorem dX6_init_32 : decode cX6_init 32 = .ok (.putfield 19, 3) := by decide +kernel
theorem dX6_init_35 : decode cX6_init 35 = .ok (.aload_n 0, 1) := by decide +kernel
theorem dX6_init_36 : decode cX6_init 36 = .ok (.bipush 15, 2) := by decide +kernel
theorem dX6_init_38 : decode cX6_init 38 = .ok (.newarray .int, 2) := by decide +kernel
theorem dX6_init_40 : decode cX6_init 40 = .ok (.putfield 22, 3) := by decide +kernel
theorem dX6_init_43 : decode cX6_init 43 = .ok (.aload_n 0, 1) := by decide +kernel
theorem dX6_init_44 : decode cX6_init 44 = .ok (.bipush 15, 2) := by decide +kernel
theorem dX6_init_46 : decode cX6_init 46 = .ok (.newarray .int, 2) := by decide +kernel
theorem dX6_init_48 : decode cX6_init 48 = .ok (.putfield 25, 3) := by decide +kernel
theorem dX6_init_51 : decode cX6_init 51 = .ok (.aload_n 0, 1) := by decide +kernel
theorem dX6_init_52 : decode cX6_init 52 = .ok (.bipush 15, 2) := by decide +kernel
theorem dX6_init_54 : decode cX6_init 54 = .ok (.newarray .boolean, 2) := by decide +kernel
theorem dX6_init_56 : decode cX6_init 56 = .ok (.putfield 28, 3) := by decide +kernel
theorem dX6_init_59 : decode cX6_init 59 = .ok (.aload_n 0, 1) := by decide +kernel
theorem dX6_init_60 : decode cX6_init 60 = .ok (.iconst 3, 1) := by decide +kernel
theorem dX6_init_61 : decode cX6_init 61 = .ok (.newarray .int, 2) := by decide +kernel
theorem dX6_init_63 : decode cX6_init 63 = .ok (.putfield 32, 3) := by decide +kernel
theorem dX6_init_66 : decode cX6_init 66 = .ok (.aload_n 0, 1) := by decide +kernel
theorem dX6_init_67 : decode cX6_init 67 = .ok (.bipush 18, 2) := by decide +kernel
theorem dX6_init_69 : decode cX6_init 69 = .ok (.newarray .boolean, 2) := by decide +kernel
theorem dX6_init_71 : decode cX6_init 71 = .ok (.putfield 35, 3) := by decide +kernel
theorem dX6_init_74 : decode cX6_init 74 = .ok (.aload_n 0, 1) := by decide +kernel
theorem dX6_init_75 : decode cX6_init 75 = .ok (.bipush 18, 2) := by decide +kernel
theorem dX6_init_77 : decode cX6_init 77 = .ok (.newarray .int, 2) := by decide +kernel
theorem dX6_init_79 : decode cX6_init 79 = .ok (.putfield 38, 3) := by decide +kernel
theorem dX6_init_82 : decode cX6_init 82 = .ok (.aload_n 0, 1) := by decide +kernel
theorem dX6_init_83 : decode cX6_init 83 = .ok (.bipush 18, 2) := by decide +kernel
theorem dX6_init_85 : decode cX6_init 85 = .ok (.newarray .int, 2) := by decide +kernel
theorem dX6_init_87 : decode cX6_init 87 = .ok (.putfield 41, 3) := by decide +kernel
theorem dX6_init_90 : decode cX6_init 90 = .ok (.aload_n 0, 1) := by decide +kernel
theorem dX6_init_91 : decode cX6_init 91 = .ok (.bipush 18, 2) := by decide +kernel
theorem dX6_init_93 : decode cX6_init 93 = .ok (.newarray .int, 2) := by decide +kernel
theorem dX6_init_95 : decode cX6_init 95 = .ok (.putfield 44, 3) := by decide +kernel
theorem dX6_init_98 : decode cX6_init 98 = .ok (.aload_n 0, 1) := by decide +kernel
theorem dX6_init_99 : decode cX6_init 99 = .ok (.bipush 18, 2) := by decide +kernel
theorem dX6_init_101 : decode cX6_init 101 = .ok (.newarray .int, 2) := by decide +kernel
theorem dX6_init_103 : decode cX6_init 103 = .ok (.putfield 47, 3) := by decide +kernel
theorem dX6_init_106 : decode cX6_init 106 = .ok (.aload_n 0, 1) := by decide +kernel
theorem dX6_init_107 : decode cX6_init 107 = .ok (.sipush 192, 3) := by decide +kernel
theorem dX6_init_110 : decode cX6_init 110 = .ok (.newarray .int, 2) := by decide +kernel
theorem dX6_init_112 : decode cX6_init 112 = .ok (.putfield 50, 3) := by decide +kernel
theorem dX6_init_115 : decode cX6_init 115 = .ok (.aload_n 0, 1) := by decide +kernel
theorem dX6_init_116 : decode cX6_init 116 = .ok (.bipush 20, 2) := by decide +kernel
theorem dX6_init_118 : decode cX6_init 118 = .ok (.newarray .int, 2) := by decide +kernel
theorem dX6_init_120 : decode cX6_init 120 = .ok (.putfield 53, 3) := by decide +kernel
theorem dX6_init_123 : decode cX6_init 123 = .ok (.aload_n 0, 1) := by decide +kernel
theorem dX6_init_124 : decode cX6_init 124 = .ok (.bipush 20, 2) := by decide +kernel
theorem dX6_init_126 : decode cX6_init 126 = .ok (.newarray .int, 2) := by decide +kernel
theorem dX6_init_128 : decode cX6_init 128 = .ok (.putfield 56, 3) := by decide +kernel
theorem dX6_init_131 : decode cX6_init 131 = .ok (.aload_n 0, 1) := by decide +kernel
theorem dX6_init_132 : decode cX6_init 132 = .ok (.bipush 20, 2) := by decide +kernel
theorem dX6_init_134 : decode cX6_init 134 = .ok (.newarray .int, 2) := by decide +kernel
theorem dX6_init_136 : decode cX6_init 136 = .ok (.putfield 59, 3) := by decide +kernel
theorem dX6_init_139 : decode cX6_init 139 = .ok (.aload_n 0, 1) := by decide +kernel
theorem dX6_init_140 : decode cX6_init 140 = .ok (.bipush 20, 2) := by decide +kernel
theorem dX6_init_142 : decode cX6_init 142 = .ok (.newarray .int, 2) := by decide +kernel
theorem dX6_init_144 : decode cX6_init 144 = .ok (.putfield 62, 3) := by decide +kernel
theorem dX6_init_147 : decode cX6_init 147 = .ok (.aload_n 0, 1) := by decide +kernel
theorem dX6_init_148 : decode cX6_init 148 = .ok (.bipush 84, 2) := by decide +kernel
theorem dX6_init_150 : decode cX6_init 150 = .ok (.newarray .int, 2) := by decide +kernel
theorem dX6_init_152 : decode cX6_init 152 = .ok (.putfield 65, 3) := by decide +kernel
theorem dX6_init_155 : decode cX6_init 155 = .ok (.aload_n 0, 1) := by decide +kernel
theorem dX6_init_156 : decode cX6_init 156 = .ok (.bipush 84, 2) := by decide +kernel
theorem dX6_init_158 : decode cX6_init 158 = .ok (.newarray .int, 2) := by decide +kernel
theorem dX6_init_160 : decode cX6_init 160 = .ok (.putfield 68, 3) := by decide +kernel
theorem dX6_init_163 : decode cX6_init 163 = .ok (.aload_n 0, 1) := by decide +kernel
theorem dX6_init_164 : decode cX6_init 164 = .ok (.iconst 3, 1) := by decide +kernel
theorem dX6_init_165 : decode cX6_init 165 = .ok (.newarray .int, 2) := by decide +kernel
theorem dX6_init_167 : decode cX6_init 167 = .ok (.putfield 71, 3) := by decide +kernel
theorem dX6_init_170 : decode cX6_init 170 = .ok (.aload_n 0, 1) := by decide +kernel
theorem dX6_init_171 : decode cX6_init 171 = .ok (.sipush 150, 3) := by decide +kernel
theorem dX6_init_174 : decode cX6_init 174 = .ok (.newarray .int, 2) := by decide +kernel
theorem dX6_init_176 : decode cX6_init 176 = .ok (.putfield 74, 3) := by decide +kernel
theorem dX6_init_179 : decode cX6_init 179 = .ok (.aload_n 0, 1) := by decide +kernel
theorem dX6_init_180 : decode cX6_init 180 = .ok (.sipush 150, 3) := by decide +kernel
theorem dX6_init_183 : decode cX6_init 183 = .ok (.newarray .boolean, 2) := by decide +kernel
theorem dX6_init_185 : decode cX6_init 185 = .ok (.putfield 77, 3) := by decide +kernel
theorem dX6_init_188 : decode cX6_init 188 = .ok (.aload_n 0, 1) := by decide +kernel
theorem dX6_init_189 : decode cX6_init 189 = .ok (.iconst (-1), 1) := by decide +kernel
theorem dX6_init_190 : decode cX6_init 190 = .ok (.putfield 80, 3) := by decide +kernel
theorem dX6_init_193 : decode cX6_init 193 = .ok (.aload_n 0, 1) := by decide +kernel
theorem dX6_init_194 : decode cX6_init 194 = .ok (.bipush 8, 2) := by decide +kernel
theorem dX6_init_196 : decode cX6_init 196 = .ok (.newarray .int, 2) := by decide +kernel
theorem dX6_init_198 : decode cX6_init 198 = .ok (.putfield 84, 3) := by decide +kernel
theorem dX6_init_201 : decode cX6_init 201 = .ok (.aload_n 0, 1) := by decide +kernel
theorem dX6_init_202 : decode cX6_init 202 = .ok (.bipush 9, 2) := by decide +kernel
theorem dX6_init_204 : decode cX6_init 204 = .ok (.newarray .int, 2) := by decide +kernel
theorem dX6_init_206 : decode cX6_init 206 = .ok (.putfield 87, 3) := by decide +kernel
theorem dX6_init_209 : decode cX6_init 209 = .ok (.aload_n 0, 1) := by decide +kernel
theorem dX6_init_210 : decode cX6_init 210 = .ok (.bipush 9, 2) := by decide +kernel
theorem dX6_init_212 : decode cX6_init 212 = .ok (.newarray .int, 2) := by decide +kernel
theorem dX6_init_214 : decode cX6_init 214 = .ok (.putfield 90, 3) := by decide +kernel
theorem dX6_init_217 : decode cX6_init 217 = .ok (.aload_n 0, 1) := by decide +kernel
theorem dX6_init_218 : decode cX6_init 218 = .ok (.bipush 9, 2) := by decide +kernel
theorem dX6_init_220 : decode cX6_init 220 = .ok (.newarray .int, 2) := by decide +kernel
theorem dX6_init_222 : decode cX6_init 222 = .ok (.putfield 93, 3) := by decide +kernel
theorem dX6_init_225 : decode cX6_init 225 = .ok (.aload_n 0, 1) := by decide +kernel
theorem dX6_init_226 : decode cX6_init 226 = .ok (.bipush 9, 2) := by decide +kernel
theorem dX6_init_228 : decode cX6_init 228 = .ok (.newarray .boolean, 2) := by decide +kernel
theorem dX6_init_230 : decode cX6_init 230 = .ok (.putfield 96, 3) := by decide +kernel
theorem dX6_init_233 : decode cX6_init 233 = .ok (.aload_n 0, 1) := by decide +kernel
theorem dX6_init_234 : decode cX6_init 234 = .ok (.bipush 9, 2) := by decide +kernel
theorem dX6_init_236 : decode cX6_init 236 = .ok (.newarray .int, 2) := by decide +kernel
theorem dX6_init_238 : decode cX6_init 238 = .ok (.putfield 99, 3) := by decide +kernel
theorem dX6_init_241 : decode cX6_init 241 = .ok (.aload_n 0, 1) := by decide +kernel
theorem dX6_init_242 : decode cX6_init 242 = .ok (.iconst (-1), 1) := by decide +kernel
theorem dX6_init_243 : decode cX6_init 243 = .ok (.putfield 102, 3) := by decide +kernel
theorem dX6_init_246 : decode cX6_init 246 = .ok (.aload_n 0, 1) := by decide +kernel
theorem dX6_init_247 : decode cX6_init 247 = .ok (.sipush 3125, 3) := by decide +kernel
theorem dX6_init_250 : decode cX6_init 250 = .ok (.newarray .int, 2) := by decide +kernel
theorem dX6_init_252 : decode cX6_init 252 = .ok (.putfield 105, 3) := by decide +kernel
theorem dX6_init_255 : decode cX6_init 255 = .ok (.return_, 1) := by decide +kernel
theorem dX6_in_0 : decode cX6_in 0 = .ok (.iload_n 0, 1) := by decide +kernel
theorem dX6_in_1 : decode cX6_in 1 = .ok (.iload_n 1, 1) := by decide +kernel
theorem dX6_in_2 : decode cX6_in 2 = .ok (.if_icmp .lt 12, 3) := by decide +kernel
theorem dX6_in_5 : decode cX6_in 5 = .ok (.iload_n 0, 1) := by decide +kernel
theorem dX6_in_6 : decode cX6_in 6 = .ok (.iload_n 2, 1) := by decide +kernel
theorem dX6_in_7 : decode cX6_in 7 = .ok (.if_icmp .gt 7, 3) := by decide +kernel
theorem dX6_in_10 : decode cX6_in 10 = .ok (.iconst 1, 1) := by decide +kernel
theorem dX6_in_11 : decode cX6_in 11 = .ok (.goto 4, 3) := by decide +kernel
theorem dX6_in_14 : decode cX6_in 14 = .ok (.iconst 0, 1) := by decide +kernel
theorem dX6_in_15 : decode cX6_in 15 = .ok (.ireturn, 1) := by decide +kernel
theorem dX6_isForm_0 : decode cX6_isForm 0 = .ok (.iload_n 1, 1) := by decide +kernel
theorem dX6_isForm_1 : decode cX6_isForm 1 = .ok (.iconst 0, 1) := by decide +kernel
theorem dX6_isForm_2 : decode cX6_isForm 2 = .ok (.aload_n 0, 1) := by decide +kernel
theorem dX6_isForm_3 : decode cX6_isForm 3 = .ok (.getfield 111, 3) := by decide +kernel
theorem dX6_isForm_6 : decode cX6_isForm 6 = .ok (.iconst 1, 1) := by decide +kernel
theorem dX6_isForm_7 : decode cX6_isForm 7 = .ok (.isub, 1) := by decide +kernel
theorem dX6_isForm_8 : decode cX6_isForm 8 = .ok (.invokestatic 114, 3) := by decide +kernel
theorem dX6_isForm_11 : decode cX6_isForm 11 = .ok (.ireturn, 1) := by decide +kernel
theorem dX6_isPlace_0 : decode cX6_isPlace 0 = .ok (.aload_n 0, 1) := by decide +kernel
theorem dX6_isPlace_1 : decode cX6_isPlace 1 = .ok (.iload_n 1, 1) := by decide +kernel
theorem dX6_isPlace_2 : decode cX6_isPlace 2 = .ok (.invokevirtual 118, 3) := by decide +kernel
theorem dX6_isPlace_5 : decode cX6_isPlace 5 = .ok (.ifCond .eq 23, 3) := by decide +kernel
theorem dX6_isPlace_8 : decode cX6_isPlace 8 = .ok (.iload_n 2, 1) := by decide +kernel
theorem dX6_isPlace_9 : decode cX6_isPlace 9 = .ok (.iconst 0, 1) := by decide +kernel
theorem dX6_isPlace_10 : decode cX6_isPlace 10 = .ok (.aload_n 0, 1) := by decide +kernel
theorem dX6_isPlace_11 : decode cX6_isPlace 11 = .ok (.getfield 7, 3) := by decide +kernel
theorem dX6_isPlace_14 : decode cX6_isPlace 14 = .ok (.iload_n 1, 1) := by decide +kernel
theorem dX6_isPlace_15 : decode cX6_isPlace 15 = .ok (.iaload, 1) := by decide +kernel
theorem dX6_isPlace_16 : decode cX6_isPlace 16 = .ok (.iconst 1, 1) := by decide +kernel
theorem dX6_isPlace_17 : decode cX6_isPlace 17 = .ok (.isub, 1) := by decide +kernel
theorem dX6_isPlace_18 : decode cX6_isPlace 18 = .ok (.invokestatic 114, 3) := by decide +kernel
theorem dX6_isPlace_21 : decode cX6_isPlace 21 = .ok (.ifCond .eq 7, 3) := by decide +kernel
theorem dX6_isPlace_24 : decode cX6_isPlace 24 = .ok (.iconst 1, 1) := by decide +kernel
theorem dX6_isPlace_25 : decode cX6_isPlace 25 = .ok (.goto 4, 3) := by decide +kernel
theorem dX6_isPlace_28 : decode cX6_isPlace 28 = .ok (.iconst 0, 1) := by decide +kernel
theorem dX6_isPlace_29 : decode cX6_isPlace 29 = .ok (.ireturn, 1) := by decide +kernel
theorem dX6_isValue_0 : decode cX6_isValue 0 = .ok (.aload_n 0, 1) := by decide +kernel
theorem dX6_isValue_1 : decode cX6_isValue 1 = .ok (.iload_n 1, 1) := by decide +kernel
theorem dX6_isValue_2 : decode cX6_isValue 2 = .ok (.iload_n 2, 1) := by decide +kernel
theorem dX6_isValue_3 : decode cX6_isValue 3 = .ok (.invokevirtual 122, 3) := by decide +kernel
theorem dX6_isValue_6 : decode cX6_isValue 6 = .ok (.ifCond .eq 27, 3) := by decide +kernel
theorem dX6_isValue_9 : decode cX6_isValue 9 = .ok (.iload_n 3, 1) := by decide +kernel
theorem dX6_isValue_10 : decode cX6_isValue 10 = .ok (.iconst 0, 1) := by decide +kernel
theorem dX6_isValue_11 : decode cX6_isValue 11 = .ok (.aload_n 0, 1) := by decide +kernel
theorem dX6_isValue_12 : decode cX6_isValue 12 = .ok (.getfield 16, 3) := by decide +kernel
theorem dX6_isValue_15 : decode cX6_isValue 15 = .ok (.iconst 5, 1) := by decide +kernel
theorem dX6_isValue_16 : decode cX6_isValue 16 = .ok (.iload_n 1, 1) := by decide +kernel
theorem dX6_isValue_17 : decode cX6_isValue 17 = .ok (.imul, 1) := by decide +kernel
theorem dX6_isValue_18 : decode cX6_isValue 18 = .ok (.iload_n 2, 1) := by decide +kernel
theorem dX6_isValue_19 : decode cX6_isValue 19 = .ok (.iadd, 1) := by decide +kernel
theorem dX6_isValue_20 : decode cX6_isValue 20 = .ok (.iaload, 1) := by decide +kernel
theorem dX6_isValue_21 : decode cX6_isValue 21 = .ok (.iconst 1, 1) := by decide +kernel
theorem dX6_isValue_22 : decode cX6_isValue 22 = .ok (.isub, 1) := by decide +kernel
theorem dX6_isValue_23 : decode cX6_isValue 23 = .ok (.invokestatic 114, 3) := by decide +kernel
theorem dX6_isValue_26 : decode cX6_isValue 26 = .ok (.ifCond .eq 7, 3) := by decide +kernel
theorem dX6_isValue_29 : decode cX6_isValue 29 = .ok (.iconst 1, 1) := by decide +kernel
theorem dX6_isValue_30 : decode cX6_isValue 30 = .ok (.goto 4, 3) := by decide +kernel
theorem dX6_isValue_33 : decode cX6_isValue 33 = .ok (.iconst 0, 1) := by decide +kernel
theorem dX6_isValue_34 : decode cX6_isValue 34 = .ok (.ireturn, 1) := by decide +kernel
theorem dX6_isOpen_0 : decode cX6_isOpen 0 = .ok (.iconst 0, 1) := by decide +kernel
theorem dX6_isOpen_1 : decode cX6_isOpen 1 = .ok (.istore_n 2, 1) := by decide +kernel
theorem dX6_isOpen_2 : decode cX6_isOpen 2 = .ok (.iconst 0, 1) := by decide +kernel
theorem dX6_isOpen_3 : decode cX6_isOpen 3 = .ok (.istore_n 3, 1) := by decide +kernel
theorem dX6_isOpen_4 : decode cX6_isOpen 4 = .ok (.iload_n 3, 1) := by decide +kernel
theorem dX6_isOpen_5 : decode cX6_isOpen 5 = .ok (.aload_n 0, 1) := by decide +kernel
theorem dX6_isOpen_6 : decode cX6_isOpen 6 = .ok (.getfield 126, 3) := by decide +kernel
theorem dX6_isOpen_9 : decode cX6_isOpen 9 = .ok (.if_icmp .ge 29, 3) := by decide +kernel
theorem dX6_isOpen_12 : decode cX6_isOpen 12 = .ok (.iload_n 2, 1) := by decide +kernel
theorem dX6_isOpen_13 : decode cX6_isOpen 13 = .ok (.ifCond .ne 13, 3) := by decide +kernel
theorem dX6_isOpen_16 : decode cX6_isOpen 16 = .ok (.aload_n 0, 1) := by decide +kernel
theorem dX6_isOpen_17 : decode cX6_isOpen 17 = .ok (.getfield 71, 3) := by decide +kernel
theorem dX6_isOpen_20 : decode cX6_isOpen 20 = .ok (.iload_n 3, 1) := by decide +kernel
theorem dX6_isOpen_21 : decode cX6_isOpen 21 = .ok (.iaload, 1) := by decide +kernel
theorem dX6_isOpen_22 : decode cX6_isOpen 22 = .ok (.iload_n 1, 1) := by decide +kernel
theorem dX6_isOpen_23 : decode cX6_isOpen 23 = .ok (.if_icmp .ne 7, 3) := by decide +kernel
theorem dX6_isOpen_26 : decode cX6_isOpen 26 = .ok (.iconst 1, 1) := by decide +kernel
theorem dX6_isOpen_27 : decode cX6_isOpen 27 = .ok (.goto 4, 3) := by decide +kernel
theorem dX6_isOpen_30 : decode cX6_isOpen 30 = .ok (.iconst 0, 1) := by decide +kernel
theorem dX6_isOpen_31 : decode cX6_isOpen 31 = .ok (.istore_n 2, 1) := by decide +kernel
theorem dX6_isOpen_32 : decode cX6_isOpen 32 = .ok (.iinc 3 1, 3) := by decide +kernel
theorem dX6_isOpen_35 : decode cX6_isOpen 35 = .ok (.goto (-31), 3) := by decide +kernel
theorem dX6_isOpen_38 : decode cX6_isOpen 38 = .ok (.iload_n 2, 1) := by decide +kernel
theorem dX6_isOpen_39 : decode cX6_isOpen 39 = .ok (.ireturn, 1) := by decide +kernel
theorem dX6_form_0 : decode cX6_form 0 = .ok (.aload_n 0, 1) := by decide +kernel
theorem dX6_form_1 : decode cX6_form 1 = .ok (.getfield 111, 3) := by decide +kernel
theorem dX6_form_4 : decode cX6_form 4 = .ok (.iconst 3, 1) := by decide +kernel
theorem dX6_form_5 : decode cX6_form 5 = .ok (.if_icmp .ne 6, 3) := by decide +kernel
theorem dX6_form_8 : decode cX6_form 8 = .ok (.bipush (-4), 2) := by decide +kernel
theorem dX6_form_10 : decode cX6_form 10 = .ok (.ireturn, 1) := by decide +kernel
theorem dX6_form_11 : decode cX6_form 11 = .ok (.iconst 0, 1) := by decide +kernel
theorem dX6_form_12 : decode cX6_form 12 = .ok (.istore_n 1, 1) := by decide +kernel
theorem dX6_form_13 : decode cX6_form 13 = .ok (.iload_n 1, 1) := by decide +kernel
theorem dX6_form_14 : decode cX6_form 14 = .ok (.bipush 64, 2) := by decide +kernel
theorem dX6_form_16 : decode cX6_form 16 = .ok (.if_icmp .ge 24, 3) := by decide +kernel
theorem dX6_form_19 : decode cX6_form 19 = .ok (.aload_n 0, 1) := by decide +kernel
theorem dX6_form_20 : decode cX6_form 20 = .ok (.getfield 50, 3) := by decide +kernel
theorem dX6_form_23 : decode cX6_form 23 = .ok (.bipush 64, 2) := by decide +kernel
theorem dX6_form_25 : decode cX6_form 25 = .ok (.aload_n 0, 1) := by decide +kernel
theorem dX6_form_26 : decode cX6_form 26 = .ok (.getfield 111, 3) := by decide +kernel
theorem dX6_form_29 : decode cX6_form 29 = .ok (.imul, 1) := by decide +kernel
theorem dX6_form_30 : decode cX6_form 30 = .ok (.iload_n 1, 1) := by decide +kernel
theorem dX6_form_31 : decode cX6_form 31 = .ok (.iadd, 1) := by decide +kernel
theorem dX6_form_32 : decode cX6_form 32 = .ok (.iconst (-1), 1) := by decide +kernel
theorem dX6_form_33 : decode cX6_form 33 = .ok (.iastore, 1) := by decide +kernel
theorem dX6_form_34 : decode cX6_form 34 = .ok (.iinc 1 1, 3) := by decide +kernel
theorem dX6_form_37 : decode cX6_form 37 = .ok (.goto (-24), 3) := by decide +kernel
theorem dX6_form_40 : decode cX6_form 40 = .ok (.aload_n 0, 1) := by decide +kernel
theorem dX6_form_41 : decode cX6_form 41 = .ok (.dup, 1) := by decide +kernel
theorem dX6_form_42 : decode cX6_form 42 = .ok (.getfield 111, 3) := by decide +kernel
theorem dX6_form_45 : decode cX6_form 45 = .ok (.iconst 1, 1) := by decide +kernel
theorem dX6_form_46 : decode cX6_form 46 = .ok (.iadd, 1) := by decide +kernel
theorem dX6_form_47 : decode cX6_form 47 = .ok (.putfield 111, 3) := by decide +kernel
theorem dX6_form_50 : decode cX6_form 50 = .ok (.aload_n 0, 1) := by decide +kernel
theorem dX6_form_51 : decode cX6_form 51 = .ok (.getfield 111, 3) := by decide +kernel
theorem dX6_form_54 : decode cX6_form 54 = .ok (.iconst 1, 1) := by decide +kernel
theorem dX6_form_55 : decode cX6_form 55 = .ok (.isub, 1) := by decide +kernel
theorem dX6_form_56 : decode cX6_form 56 = .ok (.ireturn, 1) := by decide +kernel
theorem dX6_comes_0 : decode cX6_comes 0 = .ok (.iconst 5, 1) := by decide +kernel
theorem dX6_comes_1 : decode cX6_comes 1 = .ok (.iload_n 1, 1) := by decide +kernel
theorem dX6_comes_2 : decode cX6_comes 2 = .ok (.imul, 1) := by decide +kernel
theorem dX6_comes_3 : decode cX6_comes 3 = .ok (.aload_n 0, 1) := by decide +kernel
theorem dX6_comes_4 : decode cX6_comes 4 = .ok (.getfield 7, 3) := by decide +kernel
theorem dX6_comes_7 : decode cX6_comes 7 = .ok (.iload_n 1, 1) := by decide +kernel
theorem dX6_comes_8 : decode cX6_comes 8 = .ok (.iaload, 1) := by decide +kernel
theorem dX6_comes_9 : decode cX6_comes 9 = .ok (.iadd, 1) := by decide +kernel
theorem dX6_comes_10 : decode cX6_comes 10 = .ok (.istore 4, 2) := by decide +kernel
theorem dX6_comes_12 : decode cX6_comes 12 = .ok (.aload_n 0, 1) := by decide +kernel
theorem dX6_comes_13 : decode cX6_comes 13 = .ok (.getfield 13, 3) := by decide +kernel
theorem dX6_comes_16 : decode cX6_comes 16 = .ok (.iload 4, 2) := by decide +kernel
theorem dX6_comes_18 : decode cX6_comes 18 = .ok (.iload_n 2, 1) := by decide +kernel
theorem dX6_comes_19 : decode cX6_comes 19 = .ok (.iastore, 1) := by decide +kernel
theorem dX6_comes_20 : decode cX6_comes 20 = .ok (.aload_n 0, 1) := by decide +kernel
theorem dX6_comes_21 : decode cX6_comes 21 = .ok (.getfield 16, 3) := by decide +kernel
theorem dX6_comes_24 : decode cX6_comes 24 = .ok (.iload 4, 2) := by decide +kernel
theorem dX6_comes_26 : decode cX6_comes 26 = .ok (.iload_n 3, 1) := by decide +kernel
theorem dX6_comes_27 : decode cX6_comes 27 = .ok (.iastore, 1) := by decide +kernel
theorem dX6_comes_28 : decode cX6_comes 28 = .ok (.aload_n 0, 1) := by decide +kernel
theorem dX6_comes_29 : decode cX6_comes 29 = .ok (.getfield 25, 3) := by decide +kernel
theorem dX6_comes_32 : decode cX6_comes 32 = .ok (.iload 4, 2) := by decide +kernel
theorem dX6_comes_34 : decode cX6_comes 34 = .ok (.iconst 0, 1) := by decide +kernel
theorem dX6_comes_35 : decode cX6_comes 35 = .ok (.iastore, 1) := by decide +kernel
theorem dX6_comes_36 : decode cX6_comes 36 = .ok (.aload_n 0, 1) := by decide +kernel
theorem dX6_comes_37 : decode cX6_comes 37 = .ok (.getfield 28, 3) := by decide +kernel
theorem dX6_comes_40 : decode cX6_comes 40 = .ok (.iload 4, 2) := by decide +kernel
theorem dX6_comes_42 : decode cX6_comes 42 = .ok (.iconst 0, 1) := by decide +kernel
theorem dX6_comes_43 : decode cX6_comes 43 = .ok (.bastore, 1) := by decide +kernel
theorem dX6_comes_44 : decode cX6_comes 44 = .ok (.aload_n 0, 1) := by decide +kernel
theorem dX6_comes_45 : decode cX6_comes 45 = .ok (.getfield 7, 3) := by decide +kernel
theorem dX6_comes_48 : decode cX6_comes 48 = .ok (.iload_n 1, 1) := by decide +kernel
theorem dX6_comes_49 : decode cX6_comes 49 = .ok (.dup2, 1) := by decide +kernel
theorem dX6_comes_50 : decode cX6_comes 50 = .ok (.iaload, 1) := by decide +kernel
theorem dX6_comes_51 : decode cX6_comes 51 = .ok (.iconst 1, 1) := by decide +kernel
theorem dX6_comes_52 : decode cX6_comes 52 = .ok (.iadd, 1) := by decide +kernel
theorem dX6_comes_53 : decode cX6_comes 53 = .ok (.iastore, 1) := by decide +kernel
theorem dX6_comes_54 : decode cX6_comes 54 = .ok (.aload_n 0, 1) := by decide +kernel
theorem dX6_comes_55 : decode cX6_comes 55 = .ok (.getfield 7, 3) := by decide +kernel
theorem dX6_comes_58 : decode cX6_comes 58 = .ok (.iload_n 1, 1) := by decide +kernel
theorem dX6_comes_59 : decode cX6_comes 59 = .ok (.iaload, 1) := by decide +kernel
theorem dX6_comes_60 : decode cX6_comes 60 = .ok (.iconst 1, 1) := by decide +kernel
theorem dX6_comes_61 : decode cX6_comes 61 = .ok (.isub, 1) := by decide +kernel
theorem dX6_comes_62 : decode cX6_comes 62 = .ok (.ireturn, 1) := by decide +kernel
theorem dX6_place_0 : decode cX6_place 0 = .ok (.aload_n 0, 1) := by decide +kernel
theorem dX6_place_1 : decode cX6_place 1 = .ok (.iload_n 1, 1) := by decide +kernel
theorem dX6_place_2 : decode cX6_place 2 = .ok (.invokevirtual 118, 3) := by decide +kernel
theorem dX6_place_5 : decode cX6_place 5 = .ok (.ifCond .ne 5, 3) := by decide +kernel
theorem dX6_place_8 : decode cX6_place 8 = .ok (.iconst (-1), 1) := by decide +kernel
theorem dX6_place_9 : decode cX6_place 9 = .ok (.ireturn, 1) := by decide +kernel
theorem dX6_place_10 : decode cX6_place 10 = .ok (.iload_n 2, 1) := by decide +kernel
theorem dX6_place_11 : decode cX6_place 11 = .ok (.ifCond .eq 8, 3) := by decide +kernel
theorem dX6_place_14 : decode cX6_place 14 = .ok (.iload_n 2, 1) := by decide +kernel
theorem dX6_place_15 : decode cX6_place 15 = .ok (.iconst 2, 1) := by decide +kernel
theorem dX6_place_16 : decode cX6_place 16 = .ok (.if_icmp .ne 12, 3) := by decide +kernel
theorem dX6_place_19 : decode cX6_place 19 = .ok (.iload_n 3, 1) := by decide +kernel
theorem dX6_place_20 : decode cX6_place 20 = .ok (.iconst 2, 1) := by decide +kernel
theorem dX6_place_21 : decode cX6_place 21 = .ok (.iconst 4, 1) := by decide +kernel
theorem dX6_place_22 : decode cX6_place 22 = .ok (.invokestatic 114, 3) := by decide +kernel
theorem dX6_place_25 : decode cX6_place 25 = .ok (.ifCond .ne 6, 3) := by decide +kernel
theorem dX6_place_28 : decode cX6_place 28 = .ok (.bipush (-2), 2) := by decide +kernel
theorem dX6_place_30 : decode cX6_place 30 = .ok (.ireturn, 1) := by decide +kernel
theorem dX6_place_31 : decode cX6_place 31 = .ok (.aload_n 0, 1) := by decide +kernel
theorem dX6_place_32 : decode cX6_place 32 = .ok (.iload_n 1, 1) := by decide +kernel
theorem dX6_place_33 : decode cX6_place 33 = .ok (.invokevirtual 129, 3) := by decide +kernel
theorem dX6_place_36 : decode cX6_place 36 = .ok (.ifCond .eq 6, 3) := by decide +kernel
theorem dX6_place_39 : decode cX6_place 39 = .ok (.bipush (-3), 2) := by decide +kernel
theorem dX6_place_41 : decode cX6_place 41 = .ok (.ireturn, 1) := by decide +kernel
theorem dX6_place_42 : decode cX6_place 42 = .ok (.aload_n 0, 1) := by decide +kernel
theorem dX6_place_43 : decode cX6_place 43 = .ok (.getfield 7, 3) := by decide +kernel
theorem dX6_place_46 : decode cX6_place 46 = .ok (.iload_n 1, 1) := by decide +kernel
theorem dX6_place_47 : decode cX6_place 47 = .ok (.iaload, 1) := by decide +kernel
theorem dX6_place_48 : decode cX6_place 48 = .ok (.iconst 5, 1) := by decide +kernel
theorem dX6_place_49 : decode cX6_place 49 = .ok (.if_icmp .ne 8, 3) := by decide +kernel
theorem dX6_place_52 : decode cX6_place 52 = .ok (.bipush (-4), 2) := by decide +kernel
theorem dX6_place_54 : decode cX6_place 54 = .ok (.goto 10, 3) := by decide +kernel
theorem dX6_place_57 : decode cX6_place 57 = .ok (.aload_n 0, 1) := by decide +kernel
theorem dX6_place_58 : decode cX6_place 58 = .ok (.iload_n 1, 1) := by decide +kernel
theorem dX6_place_59 : decode cX6_place 59 = .ok (.iload_n 2, 1) := by decide +kernel
theorem dX6_place_60 : decode cX6_place 60 = .ok (.iload_n 3, 1) := by decide +kernel
theorem dX6_place_61 : decode cX6_place 61 = .ok (.invokevirtual 132, 3) := by decide +kernel
theorem dX6_place_64 : decode cX6_place 64 = .ok (.ireturn, 1) := by decide +kernel
theorem dX6_worked_0 : decode cX6_worked 0 = .ok (.aload_n 0, 1) := by decide +kernel
theorem dX6_worked_1 : decode cX6_worked 1 = .ok (.iload_n 1, 1) := by decide +kernel
theorem dX6_worked_2 : decode cX6_worked 2 = .ok (.iload_n 3, 1) := by decide +kernel
theorem dX6_worked_3 : decode cX6_worked 3 = .ok (.invokevirtual 122, 3) := by decide +kernel
theorem dX6_worked_6 : decode cX6_worked 6 = .ok (.ifCond .eq 13, 3) := by decide +kernel
theorem dX6_worked_9 : decode cX6_worked 9 = .ok (.aload_n 0, 1) := by decide +kernel
theorem dX6_worked_10 : decode cX6_worked 10 = .ok (.iload_n 1, 1) := by decide +kernel
theorem dX6_worked_11 : decode cX6_worked 11 = .ok (.iload 4, 2) := by decide +kernel
theorem dX6_worked_13 : decode cX6_worked 13 = .ok (.invokevirtual 122, 3) := by decide +kernel
theorem dX6_worked_16 : decode cX6_worked 16 = .ok (.ifCond .ne 5, 3) := by decide +kernel
theorem dX6_worked_19 : decode cX6_worked 19 = .ok (.iconst (-1), 1) := by decide +kernel
theorem dX6_worked_20 : decode cX6_worked 20 = .ok (.ireturn, 1) := by decide +kernel
theorem dX6_worked_21 : decode cX6_worked 21 = .ok (.iload_n 2, 1) := by decide +kernel
theorem dX6_worked_22 : decode cX6_worked 22 = .ok (.iconst 2, 1) := by decide +kernel
theorem dX6_worked_23 : decode cX6_worked 23 = .ok (.iconst 4, 1) := by decide +kernel
theorem dX6_worked_24 : decode cX6_worked 24 = .ok (.invokestatic 114, 3) := by decide +kernel
theorem dX6_worked_27 : decode cX6_worked 27 = .ok (.ifCond .eq 32, 3) := by decide +kernel
theorem dX6_worked_30 : decode cX6_worked 30 = .ok (.aload_n 0, 1) := by decide +kernel
theorem dX6_worked_31 : decode cX6_worked 31 = .ok (.getfield 13, 3) := by decide +kernel
theorem dX6_worked_34 : decode cX6_worked 34 = .ok (.iconst 5, 1) := by decide +kernel
theorem dX6_worked_35 : decode cX6_worked 35 = .ok (.iload_n 1, 1) := by decide +kernel
theorem dX6_worked_36 : decode cX6_worked 36 = .ok (.imul, 1) := by decide +kernel
theorem dX6_worked_37 : decode cX6_worked 37 = .ok (.iload_n 3, 1) := by decide +kernel
theorem dX6_worked_38 : decode cX6_worked 38 = .ok (.iadd, 1) := by decide +kernel
theorem dX6_worked_39 : decode cX6_worked 39 = .ok (.iaload, 1) := by decide +kernel
theorem dX6_worked_40 : decode cX6_worked 40 = .ok (.iconst 1, 1) := by decide +kernel
theorem dX6_worked_41 : decode cX6_worked 41 = .ok (.if_icmp .eq 18, 3) := by decide +kernel
theorem dX6_worked_44 : decode cX6_worked 44 = .ok (.aload_n 0, 1) := by decide +kernel
theorem dX6_worked_45 : decode cX6_worked 45 = .ok (.getfield 13, 3) := by decide +kernel
theorem dX6_worked_48 : decode cX6_worked 48 = .ok (.iconst 5, 1) := by decide +kernel
theorem dX6_worked_49 : decode cX6_worked 49 = .ok (.iload_n 1, 1) := by decide +kernel
theorem dX6_worked_50 : decode cX6_worked 50 = .ok (.imul, 1) := by decide +kernel
theorem dX6_worked_51 : decode cX6_worked 51 = .ok (.iload 4, 2) := by decide +kernel
theorem dX6_worked_53 : decode cX6_worked 53 = .ok (.iadd, 1) := by decide +kernel
theorem dX6_worked_54 : decode cX6_worked 54 = .ok (.iaload, 1) := by decide +kernel
theorem dX6_worked_55 : decode cX6_worked 55 = .ok (.iconst 1, 1) := by decide +kernel
theorem dX6_worked_56 : decode cX6_worked 56 = .ok (.if_icmp .ne 6, 3) := by decide +kernel
theorem dX6_worked_59 : decode cX6_worked 59 = .ok (.bipush (-2), 2) := by decide +kernel
theorem dX6_worked_61 : decode cX6_worked 61 = .ok (.ireturn, 1) := by decide +kernel
theorem dX6_worked_62 : decode cX6_worked 62 = .ok (.aload_n 0, 1) := by decide +kernel
theorem dX6_worked_63 : decode cX6_worked 63 = .ok (.iload_n 1, 1) := by decide +kernel
theorem dX6_worked_64 : decode cX6_worked 64 = .ok (.invokevirtual 129, 3) := by decide +kernel
theorem dX6_worked_67 : decode cX6_worked 67 = .ok (.ifCond .eq 6, 3) := by decide +kernel
theorem dX6_worked_70 : decode cX6_worked 70 = .ok (.bipush (-3), 2) := by decide +kernel
theorem dX6_worked_72 : decode cX6_worked 72 = .ok (.ireturn, 1) := by decide +kernel
theorem dX6_worked_73 : decode cX6_worked 73 = .ok (.aload_n 0, 1) := by decide +kernel
theorem dX6_worked_74 : decode cX6_worked 74 = .ok (.getfield 7, 3) := by decide +kernel
theorem dX6_worked_77 : decode cX6_worked 77 = .ok (.iload_n 1, 1) := by decide +kernel
theorem dX6_worked_78 : decode cX6_worked 78 = .ok (.iaload, 1) := by decide +kernel
theorem dX6_worked_79 : decode cX6_worked 79 = .ok (.iconst 5, 1) := by decide +kernel
theorem dX6_worked_80 : decode cX6_worked 80 = .ok (.if_icmp .ne 6, 3) := by decide +kernel
theorem dX6_worked_83 : decode cX6_worked 83 = .ok (.bipush (-4), 2) := by decide +kernel
theorem dX6_worked_85 : decode cX6_worked 85 = .ok (.ireturn, 1) := by decide +kernel
theorem dX6_worked_86 : decode cX6_worked 86 = .ok (.aload_n 0, 1) := by decide +kernel
theorem dX6_worked_87 : decode cX6_worked 87 = .ok (.iload_n 1, 1) := by decide +kernel
theorem dX6_worked_88 : decode cX6_worked 88 = .ok (.iconst 1, 1) := by decide +kernel
theorem dX6_worked_89 : decode cX6_worked 89 = .ok (.iload_n 2, 1) := by decide +kernel
theorem dX6_worked_90 : decode cX6_worked 90 = .ok (.invokevirtual 132, 3) := by decide +kernel
theorem dX6_worked_93 : decode cX6_worked 93 = .ok (.istore 5, 2) := by decide +kernel
theorem dX6_worked_95 : decode cX6_worked 95 = .ok (.aload_n 0, 1) := by decide +kernel
theorem dX6_worked_96 : decode cX6_worked 96 = .ok (.getfield 19, 3) := by decide +kernel
theorem dX6_worked_99 : decode cX6_worked 99 = .ok (.iconst 5, 1) := by decide +kernel
theorem dX6_worked_100 : decode cX6_worked 100 = .ok (.iload_n 1, 1) := by decide +kernel
theorem dX6_worked_101 : decode cX6_worked 101 = .ok (.imul, 1) := by decide +kernel
theorem dX6_worked_102 : decode cX6_worked 102 = .ok (.iload 5, 2) := by decide +kernel
theorem dX6_worked_104 : decode cX6_worked 104 = .ok (.iadd, 1) := by decide +kernel
theorem dX6_worked_105 : decode cX6_worked 105 = .ok (.iconst 5, 1) := by decide +kernel
theorem dX6_worked_106 : decode cX6_worked 106 = .ok (.iload_n 1, 1) := by decide +kernel
theorem dX6_worked_107 : decode cX6_worked 107 = .ok (.imul, 1) := by decide +kernel
theorem dX6_worked_108 : decode cX6_worked 108 = .ok (.iload_n 3, 1) := by decide +kernel
theorem dX6_worked_109 : decode cX6_worked 109 = .ok (.iadd, 1) := by decide +kernel
theorem dX6_worked_110 : decode cX6_worked 110 = .ok (.iastore, 1) := by decide +kernel
theorem dX6_worked_111 : decode cX6_worked 111 = .ok (.aload_n 0, 1) := by decide +kernel
theorem dX6_worked_112 : decode cX6_worked 112 = .ok (.getfield 22, 3) := by decide +kernel
theorem dX6_worked_115 : decode cX6_worked 115 = .ok (.iconst 5, 1) := by decide +kernel
theorem dX6_worked_116 : decode cX6_worked 116 = .ok (.iload_n 1, 1) := by decide +kernel
theorem dX6_worked_117 : decode cX6_worked 117 = .ok (.imul, 1) := by decide +kernel
theorem dX6_worked_118 : decode cX6_worked 118 = .ok (.iload 5, 2) := by decide +kernel
theorem dX6_worked_120 : decode cX6_worked 120 = .ok (.iadd, 1) := by decide +kernel
theorem dX6_worked_121 : decode cX6_worked 121 = .ok (.iconst 5, 1) := by decide +kernel
theorem dX6_worked_122 : decode cX6_worked 122 = .ok (.iload_n 1, 1) := by decide +kernel
theorem dX6_worked_123 : decode cX6_worked 123 = .ok (.imul, 1) := by decide +kernel
theorem dX6_worked_124 : decode cX6_worked 124 = .ok (.iload 4, 2) := by decide +kernel
theorem dX6_worked_126 : decode cX6_worked 126 = .ok (.iadd, 1) := by decide +kernel
theorem dX6_worked_127 : decode cX6_worked 127 = .ok (.iastore, 1) := by decide +kernel
theorem dX6_worked_128 : decode cX6_worked 128 = .ok (.iload 5, 2) := by decide +kernel
theorem dX6_worked_130 : decode cX6_worked 130 = .ok (.ireturn, 1) := by decide +kernel
theorem dX6_rule_0 : decode cX6_rule 0 = .ok (.aload_n 0, 1) := by decide +kernel
theorem dX6_rule_1 : decode cX6_rule 1 = .ok (.iload_n 1, 1) := by decide +kernel
theorem dX6_rule_2 : decode cX6_rule 2 = .ok (.invokevirtual 129, 3) := by decide +kernel
theorem dX6_rule_5 : decode cX6_rule 5 = .ok (.ifCond .eq 6, 3) := by decide +kernel
theorem dX6_rule_8 : decode cX6_rule 8 = .ok (.bipush (-3), 2) := by decide +kernel
theorem dX6_rule_10 : decode cX6_rule 10 = .ok (.ireturn, 1) := by decide +kernel
theorem dX6_rule_11 : decode cX6_rule 11 = .ok (.aload_n 0, 1) := by decide +kernel
theorem dX6_rule_12 : decode cX6_rule 12 = .ok (.getfield 32, 3) := by decide +kernel
theorem dX6_rule_15 : decode cX6_rule 15 = .ok (.iload_n 1, 1) := by decide +kernel
theorem dX6_rule_16 : decode cX6_rule 16 = .ok (.iaload, 1) := by decide +kernel
theorem dX6_rule_17 : decode cX6_rule 17 = .ok (.bipush 6, 2) := by decide +kernel
theorem dX6_rule_19 : decode cX6_rule 19 = .ok (.if_icmp .ne 6, 3) := by decide +kernel
theorem dX6_rule_22 : decode cX6_rule 22 = .ok (.bipush (-4), 2) := by decide +kernel
theorem dX6_rule_24 : decode cX6_rule 24 = .ok (.ireturn, 1) := by decide +kernel
theorem dX6_rule_25 : decode cX6_rule 25 = .ok (.bipush 6, 2) := by decide +kernel
theorem dX6_rule_27 : decode cX6_rule 27 = .ok (.iload_n 1, 1) := by decide +kernel
theorem dX6_rule_28 : decode cX6_rule 28 = .ok (.imul, 1) := by decide +kernel
theorem dX6_rule_29 : decode cX6_rule 29 = .ok (.aload_n 0, 1) := by decide +kernel
theorem dX6_rule_30 : decode cX6_rule 30 = .ok (.getfield 32, 3) := by decide +kernel
theorem dX6_rule_33 : decode cX6_rule 33 = .ok (.iload_n 1, 1) := by decide +kernel
theorem dX6_rule_34 : decode cX6_rule 34 = .ok (.iaload, 1) := by decide +kernel
theorem dX6_rule_35 : decode cX6_rule 35 = .ok (.iadd, 1) := by decide +kernel
theorem dX6_rule_36 : decode cX6_rule 36 = .ok (.istore 7, 2) := by decide +kernel
theorem dX6_rule_38 : decode cX6_rule 38 = .ok (.aload_n 0, 1) := by decide +kernel
theorem dX6_rule_39 : decode cX6_rule 39 = .ok (.getfield 35, 3) := by decide +kernel
theorem dX6_rule_42 : decode cX6_rule 42 = .ok (.iload 7, 2) := by decide +kernel
theorem dX6_rule_44 : decode cX6_rule 44 = .ok (.iload_n 2, 1) := by decide +kernel
theorem dX6_rule_45 : decode cX6_rule 45 = .ok (.bastore, 1) := by decide +kernel
theorem dX6_rule_46 : decode cX6_rule 46 = .ok (.aload_n 0, 1) := by decide +kernel
theorem dX6_rule_47 : decode cX6_rule 47 = .ok (.getfield 38, 3) := by decide +kernel
theorem dX6_rule_50 : decode cX6_rule 50 = .ok (.iload 7, 2) := by decide +kernel
theorem dX6_rule_52 : decode cX6_rule 52 = .ok (.iconst 5, 1) := by decide +kernel
theorem dX6_rule_53 : decode cX6_rule 53 = .ok (.iload_n 1, 1) := by decide +kernel
theorem dX6_rule_54 : decode cX6_rule 54 = .ok (.imul, 1) := by decide +kernel
theorem dX6_rule_55 : decode cX6_rule 55 = .ok (.iload_n 3, 1) := by decide +kernel
theorem dX6_rule_56 : decode cX6_rule 56 = .ok (.iadd, 1) := by decide +kernel
theorem dX6_rule_57 : decode cX6_rule 57 = .ok (.iastore, 1) := by decide +kernel
theorem dX6_rule_58 : decode cX6_rule 58 = .ok (.aload_n 0, 1) := by decide +kernel
theorem dX6_rule_59 : decode cX6_rule 59 = .ok (.getfield 41, 3) := by decide +kernel
theorem dX6_rule_62 : decode cX6_rule 62 = .ok (.iload 7, 2) := by decide +kernel
theorem dX6_rule_64 : decode cX6_rule 64 = .ok (.iload 4, 2) := by decide +kernel
theorem dX6_rule_66 : decode cX6_rule 66 = .ok (.iastore, 1) := by decide +kernel
theorem dX6_rule_67 : decode cX6_rule 67 = .ok (.aload_n 0, 1) := by decide +kernel
theorem dX6_rule_68 : decode cX6_rule 68 = .ok (.getfield 44, 3) := by decide +kernel
theorem dX6_rule_71 : decode cX6_rule 71 = .ok (.iload 7, 2) := by decide +kernel
theorem dX6_rule_73 : decode cX6_rule 73 = .ok (.iconst 5, 1) := by decide +kernel
theorem dX6_rule_74 : decode cX6_rule 74 = .ok (.iload_n 1, 1) := by decide +kernel
theorem dX6_rule_75 : decode cX6_rule 75 = .ok (.imul, 1) := by decide +kernel
theorem dX6_rule_76 : decode cX6_rule 76 = .ok (.iload 5, 2) := by decide +kernel
theorem dX6_rule_78 : decode cX6_rule 78 = .ok (.iadd, 1) := by decide +kernel
theorem dX6_rule_79 : decode cX6_rule 79 = .ok (.iastore, 1) := by decide +kernel
theorem dX6_rule_80 : decode cX6_rule 80 = .ok (.aload_n 0, 1) := by decide +kernel
theorem dX6_rule_81 : decode cX6_rule 81 = .ok (.getfield 47, 3) := by decide +kernel
theorem dX6_rule_84 : decode cX6_rule 84 = .ok (.iload 7, 2) := by decide +kernel
theorem dX6_rule_86 : decode cX6_rule 86 = .ok (.iload 6, 2) := by decide +kernel
theorem dX6_rule_88 : decode cX6_rule 88 = .ok (.iastore, 1) := by decide +kernel
theorem dX6_rule_89 : decode cX6_rule 89 = .ok (.aload_n 0, 1) := by decide +kernel
theorem dX6_rule_90 : decode cX6_rule 90 = .ok (.getfield 32, 3) := by decide +kernel
theorem dX6_rule_93 : decode cX6_rule 93 = .ok (.iload_n 1, 1) := by decide +kernel
theorem dX6_rule_94 : decode cX6_rule 94 = .ok (.dup2, 1) := by decide +kernel
theorem dX6_rule_95 : decode cX6_rule 95 = .ok (.iaload, 1) := by decide +kernel
theorem dX6_rule_96 : decode cX6_rule 96 = .ok (.iconst 1, 1) := by decide +kernel
theorem dX6_rule_97 : decode cX6_rule 97 = .ok (.iadd, 1) := by decide +kernel
theorem dX6_rule_98 : decode cX6_rule 98 = .ok (.iastore, 1) := by decide +kernel
theorem dX6_rule_99 : decode cX6_rule 99 = .ok (.aload_n 0, 1) := by decide +kernel
theorem dX6_rule_100 : decode cX6_rule 100 = .ok (.getfield 32, 3) := by decide +kernel
theorem dX6_rule_103 : decode cX6_rule 103 = .ok (.iload_n 1, 1) := by decide +kernel
theorem dX6_rule_104 : decode cX6_rule 104 = .ok (.iaload, 1) := by decide +kernel
theorem dX6_rule_105 : decode cX6_rule 105 = .ok (.iconst 1, 1) := by decide +kernel
theorem dX6_rule_106 : decode cX6_rule 106 = .ok (.isub, 1) := by decide +kernel
theorem dX6_rule_107 : decode cX6_rule 107 = .ok (.ireturn, 1) := by decide +kernel
theorem dX6_bar_0 : decode cX6_bar 0 = .ok (.aload_n 0, 1) := by decide +kernel
theorem dX6_bar_1 : decode cX6_bar 1 = .ok (.iload_n 1, 1) := by decide +kernel
theorem dX6_bar_2 : decode cX6_bar 2 = .ok (.iload_n 2, 1) := by decide +kernel
theorem dX6_bar_3 : decode cX6_bar 3 = .ok (.iload_n 3, 1) := by decide +kernel
theorem dX6_bar_4 : decode cX6_bar 4 = .ok (.invokevirtual 136, 3) := by decide +kernel
theorem dX6_bar_7 : decode cX6_bar 7 = .ok (.ifCond .eq 15, 3) := by decide +kernel
theorem dX6_bar_10 : decode cX6_bar 10 = .ok (.aload_n 0, 1) := by decide +kernel
theorem dX6_bar_11 : decode cX6_bar 11 = .ok (.iload_n 1, 1) := by decide +kernel
theorem dX6_bar_12 : decode cX6_bar 12 = .ok (.iload 4, 2) := by decide +kernel
theorem dX6_bar_14 : decode cX6_bar 14 = .ok (.iload 5, 2) := by decide +kernel
theorem dX6_bar_16 : decode cX6_bar 16 = .ok (.invokevirtual 136, 3) := by decide +kernel
theorem dX6_bar_19 : decode cX6_bar 19 = .ok (.ifCond .ne 5, 3) := by decide +kernel
theorem dX6_bar_22 : decode cX6_bar 22 = .ok (.iconst (-1), 1) := by decide +kernel
theorem dX6_bar_23 : decode cX6_bar 23 = .ok (.ireturn, 1) := by decide +kernel
theorem dX6_bar_24 : decode cX6_bar 24 = .ok (.iload_n 2, 1) := by decide +kernel
theorem dX6_bar_25 : decode cX6_bar 25 = .ok (.iload 4, 2) := by decide +kernel
theorem dX6_bar_27 : decode cX6_bar 27 = .ok (.if_icmp .ne 8, 3) := by decide +kernel
theorem dX6_bar_30 : decode cX6_bar 30 = .ok (.bipush (-2), 2) := by decide +kernel
theorem dX6_bar_32 : decode cX6_bar 32 = .ok (.goto 15, 3) := by decide +kernel
theorem dX6_bar_35 : decode cX6_bar 35 = .ok (.aload_n 0, 1) := by decide +kernel
theorem dX6_bar_36 : decode cX6_bar 36 = .ok (.iload_n 1, 1) := by decide +kernel
theorem dX6_bar_37 : decode cX6_bar 37 = .ok (.iconst 1, 1) := by decide +kernel
theorem dX6_bar_38 : decode cX6_bar 38 = .ok (.iload_n 2, 1) := by decide +kernel
theorem dX6_bar_39 : decode cX6_bar 39 = .ok (.iload_n 3, 1) := by decide +kernel
theorem dX6_bar_40 : decode cX6_bar 40 = .ok (.iload 4, 2) := by decide +kernel
theorem dX6_bar_42 : decode cX6_bar 42 = .ok (.iload 5, 2) := by decide +kernel
theorem dX6_bar_44 : decode cX6_bar 44 = .ok (.invokevirtual 139, 3) := by decide +kernel
theorem dX6_bar_47 : decode cX6_bar 47 = .ok (.ireturn, 1) := by decide +kernel
theorem dX6_need_0 : decode cX6_need 0 = .ok (.aload_n 0, 1) := by decide +kernel
theorem dX6_need_1 : decode cX6_need 1 = .ok (.iload_n 1, 1) := by decide +kernel
theorem dX6_need_2 : decode cX6_need 2 = .ok (.iload_n 2, 1) := by decide +kernel
theorem dX6_need_3 : decode cX6_need 3 = .ok (.iload_n 3, 1) := by decide +kernel
theorem dX6_need_4 : decode cX6_need 4 = .ok (.invokevirtual 136, 3) := by decide +kernel
theorem dX6_need_7 : decode cX6_need 7 = .ok (.ifCond .eq 13, 3) := by decide +kernel
theorem dX6_need_10 : decode cX6_need 10 = .ok (.aload_n 0, 1) := by decide +kernel
theorem dX6_need_11 : decode cX6_need 11 = .ok (.iload_n 1, 1) := by decide +kernel
theorem dX6_need_12 : decode cX6_need 12 = .ok (.iload 4, 2) := by decide +kernel
theorem dX6_need_14 : decode cX6_need 14 = .ok (.invokevirtual 122, 3) := by decide +kernel
theorem dX6_need_17 : decode cX6_need 17 = .ok (.ifCond .ne 5, 3) := by decide +kernel
theorem dX6_need_20 : decode cX6_need 20 = .ok (.iconst (-1), 1) := by decide +kernel
theorem dX6_need_21 : decode cX6_need 21 = .ok (.ireturn, 1) := by decide +kernel
theorem dX6_need_22 : decode cX6_need 22 = .ok (.iload_n 2, 1) := by decide +kernel
theorem dX6_need_23 : decode cX6_need 23 = .ok (.iload 4, 2) := by decide +kernel
theorem dX6_need_25 : decode cX6_need 25 = .ok (.if_icmp .eq 18, 3) := by decide +kernel
theorem dX6_need_28 : decode cX6_need 28 = .ok (.aload_n 0, 1) := by decide +kernel
theorem dX6_need_29 : decode cX6_need 29 = .ok (.getfield 13, 3) := by decide +kernel
theorem dX6_need_32 : decode cX6_need 32 = .ok (.iconst 5, 1) := by decide +kernel
theorem dX6_need_33 : decode cX6_need 33 = .ok (.iload_n 1, 1) := by decide +kernel
theorem dX6_need_34 : decode cX6_need 34 = .ok (.imul, 1) := by decide +kernel
theorem dX6_need_35 : decode cX6_need 35 = .ok (.iload 4, 2) := by decide +kernel
theorem dX6_need_37 : decode cX6_need 37 = .ok (.iadd, 1) := by decide +kernel
theorem dX6_need_38 : decode cX6_need 38 = .ok (.iaload, 1) := by decide +kernel
theorem dX6_need_39 : decode cX6_need 39 = .ok (.iconst 1, 1) := by decide +kernel
theorem dX6_need_40 : decode cX6_need 40 = .ok (.if_icmp .ne 8, 3) := by decide +kernel
theorem dX6_need_43 : decode cX6_need 43 = .ok (.bipush (-2), 2) := by decide +kernel
theorem dX6_need_45 : decode cX6_need 45 = .ok (.goto 14, 3) := by decide +kernel
theorem dX6_need_48 : decode cX6_need 48 = .ok (.aload_n 0, 1) := by decide +kernel
theorem dX6_need_49 : decode cX6_need 49 = .ok (.iload_n 1, 1) := by decide +kernel
theorem dX6_need_50 : decode cX6_need 50 = .ok (.iconst 0, 1) := by decide +kernel
theorem dX6_need_51 : decode cX6_need 51 = .ok (.iload_n 2, 1) := by decide +kernel
theorem dX6_need_52 : decode cX6_need 52 = .ok (.iload_n 3, 1) := by decide +kernel
theorem dX6_need_53 : decode cX6_need 53 = .ok (.iload 4, 2) := by decide +kernel
theorem dX6_need_55 : decode cX6_need 55 = .ok (.iconst 0, 1) := by decide +kernel
theorem dX6_need_56 : decode cX6_need 56 = .ok (.invokevirtual 139, 3) := by decide +kernel
theorem dX6_need_59 : decode cX6_need 59 = .ok (.ireturn, 1) := by decide +kernel
theorem dX6_word_0 : decode cX6_word 0 = .ok (.aload_n 0, 1) := by decide +kernel
theorem dX6_word_1 : decode cX6_word 1 = .ok (.iload_n 1, 1) := by decide +kernel
theorem dX6_word_2 : decode cX6_word 2 = .ok (.iload_n 2, 1) := by decide +kernel
theorem dX6_word_3 : decode cX6_word 3 = .ok (.iload_n 3, 1) := by decide +kernel
theorem dX6_word_4 : decode cX6_word 4 = .ok (.invokevirtual 136, 3) := by decide +kernel
theorem dX6_word_7 : decode cX6_word 7 = .ok (.ifCond .eq 14, 3) := by decide +kernel
theorem dX6_word_10 : decode cX6_word 10 = .ok (.iload 4, 2) := by decide +kernel
theorem dX6_word_12 : decode cX6_word 12 = .ok (.iconst 0, 1) := by decide +kernel
theorem dX6_word_13 : decode cX6_word 13 = .ok (.bipush 63, 2) := by decide +kernel
theorem dX6_word_15 : decode cX6_word 15 = .ok (.invokestatic 114, 3) := by decide +kernel
theorem dX6_word_18 : decode cX6_word 18 = .ok (.ifCond .ne 5, 3) := by decide +kernel
theorem dX6_word_21 : decode cX6_word 21 = .ok (.iconst (-1), 1) := by decide +kernel
theorem dX6_word_22 : decode cX6_word 22 = .ok (.ireturn, 1) := by decide +kernel
theorem dX6_word_23 : decode cX6_word 23 = .ok (.aload_n 0, 1) := by decide +kernel
theorem dX6_word_24 : decode cX6_word 24 = .ok (.getfield 13, 3) := by decide +kernel
theorem dX6_word_27 : decode cX6_word 27 = .ok (.iconst 5, 1) := by decide +kernel
theorem dX6_word_28 : decode cX6_word 28 = .ok (.iload_n 1, 1) := by decide +kernel
theorem dX6_word_29 : decode cX6_word 29 = .ok (.imul, 1) := by decide +kernel
theorem dX6_word_30 : decode cX6_word 30 = .ok (.iload_n 2, 1) := by decide +kernel
theorem dX6_word_31 : decode cX6_word 31 = .ok (.iadd, 1) := by decide +kernel
theorem dX6_word_32 : decode cX6_word 32 = .ok (.iaload, 1) := by decide +kernel
theorem dX6_word_33 : decode cX6_word 33 = .ok (.iconst 1, 1) := by decide +kernel
theorem dX6_word_34 : decode cX6_word 34 = .ok (.if_icmp .ne 6, 3) := by decide +kernel
theorem dX6_word_37 : decode cX6_word 37 = .ok (.bipush (-2), 2) := by decide +kernel
theorem dX6_word_39 : decode cX6_word 39 = .ok (.ireturn, 1) := by decide +kernel
theorem dX6_word_40 : decode cX6_word 40 = .ok (.aload_n 0, 1) := by decide +kernel
theorem dX6_word_41 : decode cX6_word 41 = .ok (.getfield 50, 3) := by decide +kernel
theorem dX6_word_44 : decode cX6_word 44 = .ok (.bipush 64, 2) := by decide +kernel
theorem dX6_word_46 : decode cX6_word 46 = .ok (.iload_n 1, 1) := by decide +kernel
theorem dX6_word_47 : decode cX6_word 47 = .ok (.imul, 1) := by decide +kernel
theorem dX6_word_48 : decode cX6_word 48 = .ok (.iload 4, 2) := by decide +kernel
theorem dX6_word_50 : decode cX6_word 50 = .ok (.iadd, 1) := by decide +kernel
theorem dX6_word_51 : decode cX6_word 51 = .ok (.iaload, 1) := by decide +kernel
theorem dX6_word_52 : decode cX6_word 52 = .ok (.iconst (-1), 1) := by decide +kernel
theorem dX6_word_53 : decode cX6_word 53 = .ok (.if_icmp .eq 6, 3) := by decide +kernel
theorem dX6_word_56 : decode cX6_word 56 = .ok (.bipush (-3), 2) := by decide +kernel
theorem dX6_word_58 : decode cX6_word 58 = .ok (.ireturn, 1) := by decide +kernel
theorem dX6_word_59 : decode cX6_word 59 = .ok (.aload_n 0, 1) := by decide +kernel
theorem dX6_word_60 : decode cX6_word 60 = .ok (.getfield 50, 3) := by decide +kernel
theorem dX6_word_63 : decode cX6_word 63 = .ok (.bipush 64, 2) := by decide +kernel
theorem dX6_word_65 : decode cX6_word 65 = .ok (.iload_n 1, 1) := by decide +kernel
theorem dX6_word_66 : decode cX6_word 66 = .ok (.imul, 1) := by decide +kernel
theorem dX6_word_67 : decode cX6_word 67 = .ok (.iload 4, 2) := by decide +kernel
theorem dX6_word_69 : decode cX6_word 69 = .ok (.iadd, 1) := by decide +kernel
theorem dX6_word_70 : decode cX6_word 70 = .ok (.iconst 4, 1) := by decide +kernel
theorem dX6_word_71 : decode cX6_word 71 = .ok (.iload_n 2, 1) := by decide +kernel
theorem dX6_word_72 : decode cX6_word 72 = .ok (.imul, 1) := by decide +kernel
theorem dX6_word_73 : decode cX6_word 73 = .ok (.iload_n 3, 1) := by decide +kernel
theorem dX6_word_74 : decode cX6_word 74 = .ok (.iadd, 1) := by decide +kernel
theorem dX6_word_75 : decode cX6_word 75 = .ok (.iastore, 1) := by decide +kernel
theorem dX6_word_76 : decode cX6_word 76 = .ok (.iconst 0, 1) := by decide +kernel
theorem dX6_word_77 : decode cX6_word 77 = .ok (.ireturn, 1) := by decide +kernel
theorem dX6_item_0 : decode cX6_item 0 = .ok (.iload_n 1, 1) := by decide +kernel
theorem dX6_item_1 : decode cX6_item 1 = .ok (.iconst 0, 1) := by decide +kernel
theorem dX6_item_2 : decode cX6_item 2 = .ok (.iconst 2, 1) := by decide +kernel
theorem dX6_item_3 : decode cX6_item 3 = .ok (.invokestatic 114, 3) := by decide +kernel
theorem dX6_item_6 : decode cX6_item 6 = .ok (.ifCond .eq 30, 3) := by decide +kernel
theorem dX6_item_9 : decode cX6_item 9 = .ok (.iload_n 2, 1) := by decide +kernel
theorem dX6_item_10 : decode cX6_item 10 = .ok (.iconst 0, 1) := by decide +kernel
theorem dX6_item_11 : decode cX6_item 11 = .ok (.iload_n 1, 1) := by decide +kernel
theorem dX6_item_12 : decode cX6_item 12 = .ok (.ifCond .ne 8, 3) := by decide +kernel
theorem dX6_item_15 : decode cX6_item 15 = .ok (.bipush 63, 2) := by decide +kernel
theorem dX6_item_17 : decode cX6_item 17 = .ok (.goto 13, 3) := by decide +kernel
theorem dX6_item_20 : decode cX6_item 20 = .ok (.iload_n 1, 1) := by decide +kernel
theorem dX6_item_21 : decode cX6_item 21 = .ok (.iconst 1, 1) := by decide +kernel
theorem dX6_item_22 : decode cX6_item 22 = .ok (.if_icmp .ne 7, 3) := by decide +kernel
theorem dX6_item_25 : decode cX6_item 25 = .ok (.iconst 4, 1) := by decide +kernel
theorem dX6_item_26 : decode cX6_item 26 = .ok (.goto 4, 3) := by decide +kernel
theorem dX6_item_29 : decode cX6_item 29 = .ok (.iconst 0, 1) := by decide +kernel
theorem dX6_item_30 : decode cX6_item 30 = .ok (.invokestatic 114, 3) := by decide +kernel
theorem dX6_item_33 : decode cX6_item 33 = .ok (.ifCond .ne 6, 3) := by decide +kernel
theorem dX6_item_36 : decode cX6_item 36 = .ok (.bipush (-2), 2) := by decide +kernel
theorem dX6_item_38 : decode cX6_item 38 = .ok (.ireturn, 1) := by decide +kernel
theorem dX6_item_39 : decode cX6_item 39 = .ok (.aload_n 0, 1) := by decide +kernel
theorem dX6_item_40 : decode cX6_item 40 = .ok (.getfield 143, 3) := by decide +kernel
theorem dX6_item_43 : decode cX6_item 43 = .ok (.iconst 4, 1) := by decide +kernel
theorem dX6_item_44 : decode cX6_item 44 = .ok (.if_icmp .ne 6, 3) := by decide +kernel
theorem dX6_item_47 : decode cX6_item 47 = .ok (.bipush (-4), 2) := by decide +kernel
theorem dX6_item_49 : decode cX6_item 49 = .ok (.ireturn, 1) := by decide +kernel
theorem dX6_item_50 : decode cX6_item 50 = .ok (.aload_n 0, 1) := by decide +kernel
theorem dX6_item_51 : decode cX6_item 51 = .ok (.getfield 65, 3) := by decide +kernel
theorem dX6_item_54 : decode cX6_item 54 = .ok (.bipush 80, 2) := by decide +kernel
theorem dX6_item_56 : decode cX6_item 56 = .ok (.aload_n 0, 1) := by decide +kernel
theorem dX6_item_57 : decode cX6_item 57 = .ok (.getfield 143, 3) := by decide +kernel
theorem dX6_item_60 : decode cX6_item 60 = .ok (.iadd, 1) := by decide +kernel
theorem dX6_item_61 : decode cX6_item 61 = .ok (.iload_n 1, 1) := by decide +kernel
theorem dX6_item_62 : decode cX6_item 62 = .ok (.iastore, 1) := by decide +kernel
theorem dX6_item_63 : decode cX6_item 63 = .ok (.aload_n 0, 1) := by decide +kernel
theorem dX6_item_64 : decode cX6_item 64 = .ok (.getfield 68, 3) := by decide +kernel
theorem dX6_item_67 : decode cX6_item 67 = .ok (.bipush 80, 2) := by decide +kernel
theorem dX6_item_69 : decode cX6_item 69 = .ok (.aload_n 0, 1) := by decide +kernel
theorem dX6_item_70 : decode cX6_item 70 = .ok (.getfield 143, 3) := by decide +kernel
theorem dX6_item_73 : decode cX6_item 73 = .ok (.iadd, 1) := by decide +kernel
theorem dX6_item_74 : decode cX6_item 74 = .ok (.iload_n 2, 1) := by decide +kernel
theorem dX6_item_75 : decode cX6_item 75 = .ok (.iastore, 1) := by decide +kernel
theorem dX6_item_76 : decode cX6_item 76 = .ok (.aload_n 0, 1) := by decide +kernel
theorem dX6_item_77 : decode cX6_item 77 = .ok (.dup, 1) := by decide +kernel
theorem dX6_item_78 : decode cX6_item 78 = .ok (.getfield 143, 3) := by decide +kernel
theorem dX6_item_81 : decode cX6_item 81 = .ok (.iconst 1, 1) := by decide +kernel
theorem dX6_item_82 : decode cX6_item 82 = .ok (.iadd, 1) := by decide +kernel
theorem dX6_item_83 : decode cX6_item 83 = .ok (.putfield 143, 3) := by decide +kernel
theorem dX6_item_86 : decode cX6_item 86 = .ok (.aload_n 0, 1) := by decide +kernel
theorem dX6_item_87 : decode cX6_item 87 = .ok (.getfield 143, 3) := by decide +kernel
theorem dX6_item_90 : decode cX6_item 90 = .ok (.ireturn, 1) := by decide +kernel
theorem dX6_row_0 : decode cX6_row 0 = .ok (.aload_n 0, 1) := by decide +kernel
theorem dX6_row_1 : decode cX6_row 1 = .ok (.iload_n 1, 1) := by decide +kernel
theorem dX6_row_2 : decode cX6_row 2 = .ok (.invokevirtual 118, 3) := by decide +kernel
theorem dX6_row_5 : decode cX6_row 5 = .ok (.ifCond .ne 5, 3) := by decide +kernel
theorem dX6_row_8 : decode cX6_row 8 = .ok (.iconst (-1), 1) := by decide +kernel
theorem dX6_row_9 : decode cX6_row 9 = .ok (.ireturn, 1) := by decide +kernel
theorem dX6_row_10 : decode cX6_row 10 = .ok (.iload_n 2, 1) := by decide +kernel
theorem dX6_row_11 : decode cX6_row 11 = .ok (.iconst 1, 1) := by decide +kernel
theorem dX6_row_12 : decode cX6_row 12 = .ok (.bipush 9, 2) := by decide +kernel
theorem dX6_row_14 : decode cX6_row 14 = .ok (.invokestatic 114, 3) := by decide +kernel
theorem dX6_row_17 : decode cX6_row 17 = .ok (.ifCond .eq 12, 3) := by decide +kernel
theorem dX6_row_20 : decode cX6_row 20 = .ok (.iload_n 3, 1) := by decide +kernel
theorem dX6_row_21 : decode cX6_row 21 = .ok (.iconst 0, 1) := by decide +kernel
theorem dX6_row_22 : decode cX6_row 22 = .ok (.iconst 2, 1) := by decide +kernel
theorem dX6_row_23 : decode cX6_row 23 = .ok (.invokestatic 114, 3) := by decide +kernel
theorem dX6_row_26 : decode cX6_row 26 = .ok (.ifCond .ne 7, 3) := by decide +kernel
theorem dX6_row_29 : decode cX6_row 29 = .ok (.iconst 1, 1) := by decide +kernel
theorem dX6_row_30 : decode cX6_row 30 = .ok (.goto 4, 3) := by decide +kernel
theorem dX6_row_33 : decode cX6_row 33 = .ok (.iconst 0, 1) := by decide +kernel
theorem dX6_row_34 : decode cX6_row 34 = .ok (.istore 4, 2) := by decide +kernel
theorem dX6_row_36 : decode cX6_row 36 = .ok (.iconst 0, 1) := by decide +kernel
theorem dX6_row_37 : decode cX6_row 37 = .ok (.istore 5, 2) := by decide +kernel
theorem dX6_row_39 : decode cX6_row 39 = .ok (.iload 5, 2) := by decide +kernel
theorem dX6_row_41 : decode cX6_row 41 = .ok (.aload_n 0, 1) := by decide +kernel
theorem dX6_row_42 : decode cX6_row 42 = .ok (.getfield 143, 3) := by decide +kernel
theorem dX6_row_45 : decode cX6_row 45 = .ok (.if_icmp .ge 81, 3) := by decide +kernel
theorem dX6_row_48 : decode cX6_row 48 = .ok (.aload_n 0, 1) := by decide +kernel
theorem dX6_row_49 : decode cX6_row 49 = .ok (.getfield 65, 3) := by decide +kernel
theorem dX6_row_52 : decode cX6_row 52 = .ok (.bipush 80, 2) := by decide +kernel
theorem dX6_row_54 : decode cX6_row 54 = .ok (.iload 5, 2) := by decide +kernel
theorem dX6_row_56 : decode cX6_row 56 = .ok (.iadd, 1) := by decide +kernel
theorem dX6_row_57 : decode cX6_row 57 = .ok (.iaload, 1) := by decide +kernel
theorem dX6_row_58 : decode cX6_row 58 = .ok (.iconst 1, 1) := by decide +kernel
theorem dX6_row_59 : decode cX6_row 59 = .ok (.if_icmp .eq 6, 3) := by decide +kernel
theorem dX6_row_62 : decode cX6_row 62 = .ok (.goto 58, 3) := by decide +kernel
theorem dX6_row_65 : decode cX6_row 65 = .ok (.aload_n 0, 1) := by decide +kernel
theorem dX6_row_66 : decode cX6_row 66 = .ok (.getfield 68, 3) := by decide +kernel
theorem dX6_row_69 : decode cX6_row 69 = .ok (.bipush 80, 2) := by decide +kernel
theorem dX6_row_71 : decode cX6_row 71 = .ok (.iload 5, 2) := by decide +kernel
theorem dX6_row_73 : decode cX6_row 73 = .ok (.iadd, 1) := by decide +kernel
theorem dX6_row_74 : decode cX6_row 74 = .ok (.iaload, 1) := by decide +kernel
theorem dX6_row_75 : decode cX6_row 75 = .ok (.istore 6, 2) := by decide +kernel
theorem dX6_row_77 : decode cX6_row 77 = .ok (.aload_n 0, 1) := by decide +kernel
theorem dX6_row_78 : decode cX6_row 78 = .ok (.iload_n 1, 1) := by decide +kernel
theorem dX6_row_79 : decode cX6_row 79 = .ok (.iload 6, 2) := by decide +kernel
theorem dX6_row_81 : decode cX6_row 81 = .ok (.invokevirtual 122, 3) := by decide +kernel
theorem dX6_row_84 : decode cX6_row 84 = .ok (.ifCond .ne 5, 3) := by decide +kernel
theorem dX6_row_87 : decode cX6_row 87 = .ok (.iconst (-1), 1) := by decide +kernel
theorem dX6_row_88 : decode cX6_row 88 = .ok (.ireturn, 1) := by decide +kernel
theorem dX6_row_89 : decode cX6_row 89 = .ok (.iload 4, 2) := by decide +kernel
theorem dX6_row_91 : decode cX6_row 91 = .ok (.ifCond .ne 22, 3) := by decide +kernel
theorem dX6_row_94 : decode cX6_row 94 = .ok (.aload_n 0, 1) := by decide +kernel
theorem dX6_row_95 : decode cX6_row 95 = .ok (.getfield 13, 3) := by decide +kernel
theorem dX6_row_98 : decode cX6_row 98 = .ok (.iconst 5, 1) := by decide +kernel
theorem dX6_row_99 : decode cX6_row 99 = .ok (.iload_n 1, 1) := by decide +kernel
theorem dX6_row_100 : decode cX6_row 100 = .ok (.imul, 1) := by decide +kernel
theorem dX6_row_101 : decode cX6_row 101 = .ok (.iload 6, 2) := by decide +kernel
theorem dX6_row_103 : decode cX6_row 103 = .ok (.iadd, 1) := by decide +kernel
theorem dX6_row_104 : decode cX6_row 104 = .ok (.iaload, 1) := by decide +kernel
theorem dX6_row_105 : decode cX6_row 105 = .ok (.iconst 1, 1) := by decide +kernel
theorem dX6_row_106 : decode cX6_row 106 = .ok (.if_icmp .eq 7, 3) := by decide +kernel
theorem dX6_row_109 : decode cX6_row 109 = .ok (.iload_n 3, 1) := by decide +kernel
theorem dX6_row_110 : decode cX6_row 110 = .ok (.ifCond .eq 7, 3) := by decide +kernel
theorem dX6_row_113 : decode cX6_row 113 = .ok (.iconst 1, 1) := by decide +kernel
theorem dX6_row_114 : decode cX6_row 114 = .ok (.goto 4, 3) := by decide +kernel
theorem dX6_row_117 : decode cX6_row 117 = .ok (.iconst 0, 1) := by decide +kernel
theorem dX6_row_118 : decode cX6_row 118 = .ok (.istore 4, 2) := by decide +kernel
theorem dX6_row_120 : decode cX6_row 120 = .ok (.iinc 5 1, 3) := by decide +kernel
theorem dX6_row_123 : decode cX6_row 123 = .ok (.goto (-84), 3) := by decide +kernel
theorem dX6_row_126 : decode cX6_row 126 = .ok (.iload 4, 2) := by decide +kernel
theorem dX6_row_128 : decode cX6_row 128 = .ok (.ifCond .eq 6, 3) := by decide +kernel
theorem dX6_row_131 : decode cX6_row 131 = .ok (.bipush (-2), 2) := by decide +kernel
theorem dX6_row_133 : decode cX6_row 133 = .ok (.ireturn, 1) := by decide +kernel
theorem dX6_row_134 : decode cX6_row 134 = .ok (.aload_n 0, 1) := by decide +kernel
theorem dX6_row_135 : decode cX6_row 135 = .ok (.getfield 143, 3) := by decide +kernel
theorem dX6_row_138 : decode cX6_row 138 = .ok (.ifCond .ne 6, 3) := by decide +kernel
theorem dX6_row_141 : decode cX6_row 141 = .ok (.bipush (-3), 2) := by decide +kernel
theorem dX6_row_143 : decode cX6_row 143 = .ok (.ireturn, 1) := by decide +kernel
theorem dX6_row_144 : decode cX6_row 144 = .ok (.aload_n 0, 1) := by decide +kernel
theorem dX6_row_145 : decode cX6_row 145 = .ok (.getfield 146, 3) := by decide +kernel
theorem dX6_row_148 : decode cX6_row 148 = .ok (.bipush 20, 2) := by decide +kernel
theorem dX6_row_150 : decode cX6_row 150 = .ok (.if_icmp .ne 6, 3) := by decide +kernel
theorem dX6_row_153 : decode cX6_row 153 = .ok (.bipush (-4), 2) := by decide +kernel
theorem dX6_row_155 : decode cX6_row 155 = .ok (.ireturn, 1) := by decide +kernel
theorem dX6_row_156 : decode cX6_row 156 = .ok (.aload_n 0, 1) := by decide +kernel
theorem dX6_row_157 : decode cX6_row 157 = .ok (.getfield 53, 3) := by decide +kernel
theorem dX6_row_160 : decode cX6_row 160 = .ok (.aload_n 0, 1) := by decide +kernel
theorem dX6_row_161 : decode cX6_row 161 = .ok (.getfield 146, 3) := by decide +kernel
theorem dX6_row_164 : decode cX6_row 164 = .ok (.iload_n 1, 1) := by decide +kernel
theorem dX6_row_165 : decode cX6_row 165 = .ok (.iastore, 1) := by decide +kernel
theorem dX6_row_166 : decode cX6_row 166 = .ok (.aload_n 0, 1) := by decide +kernel
theorem dX6_row_167 : decode cX6_row 167 = .ok (.getfield 56, 3) := by decide +kernel
theorem dX6_row_170 : decode cX6_row 170 = .ok (.aload_n 0, 1) := by decide +kernel
theorem dX6_row_171 : decode cX6_row 171 = .ok (.getfield 146, 3) := by decide +kernel
theorem dX6_row_174 : decode cX6_row 174 = .ok (.iload_n 2, 1) := by decide +kernel
theorem dX6_row_175 : decode cX6_row 175 = .ok (.iastore, 1) := by decide +kernel
theorem dX6_row_176 : decode cX6_row 176 = .ok (.aload_n 0, 1) := by decide +kernel
theorem dX6_row_177 : decode cX6_row 177 = .ok (.getfield 59, 3) := by decide +kernel
theorem dX6_row_180 : decode cX6_row 180 = .ok (.aload_n 0, 1) := by decide +kernel
theorem dX6_row_181 : decode cX6_row 181 = .ok (.getfield 146, 3) := by decide +kernel
theorem dX6_row_184 : decode cX6_row 184 = .ok (.iload_n 3, 1) := by decide +kernel
theorem dX6_row_185 : decode cX6_row 185 = .ok (.iastore, 1) := by decide +kernel
theorem dX6_row_186 : decode cX6_row 186 = .ok (.aload_n 0, 1) := by decide +kernel
theorem dX6_row_187 : decode cX6_row 187 = .ok (.getfield 62, 3) := by decide +kernel
theorem dX6_row_190 : decode cX6_row 190 = .ok (.aload_n 0, 1) := by decide +kernel
theorem dX6_row_191 : decode cX6_row 191 = .ok (.getfield 146, 3) := by decide +kernel
theorem dX6_row_194 : decode cX6_row 194 = .ok (.aload_n 0, 1) := by decide +kernel
theorem dX6_row_195 : decode cX6_row 195 = .ok (.getfield 143, 3) := by decide +kernel
theorem dX6_row_198 : decode cX6_row 198 = .ok (.iastore, 1) := by decide +kernel
theorem dX6_row_199 : decode cX6_row 199 = .ok (.iconst 0, 1) := by decide +kernel
theorem dX6_row_200 : decode cX6_row 200 = .ok (.istore 5, 2) := by decide +kernel
theorem dX6_row_202 : decode cX6_row 202 = .ok (.iload 5, 2) := by decide +kernel
theorem dX6_row_204 : decode cX6_row 204 = .ok (.aload_n 0, 1) := by decide +kernel
theorem dX6_row_205 : decode cX6_row 205 = .ok (.getfield 143, 3) := by decide +kernel
theorem dX6_row_208 : decode cX6_row 208 = .ok (.if_icmp .ge 57, 3) := by decide +kernel
theorem dX6_row_211 : decode cX6_row 211 = .ok (.aload_n 0, 1) := by decide +kernel
theorem dX6_row_212 : decode cX6_row 212 = .ok (.getfield 65, 3) := by decide +kernel
theorem dX6_row_215 : decode cX6_row 215 = .ok (.iconst 4, 1) := by decide +kernel
theorem dX6_row_216 : decode cX6_row 216 = .ok (.aload_n 0, 1) := by decide +kernel
theorem dX6_row_217 : decode cX6_row 217 = .ok (.getfield 146, 3) := by decide +kernel
theorem dX6_row_220 : decode cX6_row 220 = .ok (.imul, 1) := by decide +kernel
theorem dX6_row_221 : decode cX6_row 221 = .ok (.iload 5, 2) := by decide +kernel
theorem dX6_row_223 : decode cX6_row 223 = .ok (.iadd, 1) := by decide +kernel
theorem dX6_row_224 : decode cX6_row 224 = .ok (.aload_n 0, 1) := by decide +kernel
theorem dX6_row_225 : decode cX6_row 225 = .ok (.getfield 65, 3) := by decide +kernel
theorem dX6_row_228 : decode cX6_row 228 = .ok (.bipush 80, 2) := by decide +kernel
theorem dX6_row_230 : decode cX6_row 230 = .ok (.iload 5, 2) := by decide +kernel
theorem dX6_row_232 : decode cX6_row 232 = .ok (.iadd, 1) := by decide +kernel
theorem dX6_row_233 : decode cX6_row 233 = .ok (.iaload, 1) := by decide +kernel
theorem dX6_row_234 : decode cX6_row 234 = .ok (.iastore, 1) := by decide +kernel
theorem dX6_row_235 : decode cX6_row 235 = .ok (.aload_n 0, 1) := by decide +kernel
theorem dX6_row_236 : decode cX6_row 236 = .ok (.getfield 68, 3) := by decide +kernel
theorem dX6_row_239 : decode cX6_row 239 = .ok (.iconst 4, 1) := by decide +kernel
theorem dX6_row_240 : decode cX6_row 240 = .ok (.aload_n 0, 1) := by decide +kernel
theorem dX6_row_241 : decode cX6_row 241 = .ok (.getfield 146, 3) := by decide +kernel
theorem dX6_row_244 : decode cX6_row 244 = .ok (.imul, 1) := by decide +kernel
theorem dX6_row_245 : decode cX6_row 245 = .ok (.iload 5, 2) := by decide +kernel
theorem dX6_row_247 : decode cX6_row 247 = .ok (.iadd, 1) := by decide +kernel
theorem dX6_row_248 : decode cX6_row 248 = .ok (.aload_n 0, 1) := by decide +kernel
theorem dX6_row_249 : decode cX6_row 249 = .ok (.getfield 68, 3) := by decide +kernel
theorem dX6_row_252 : decode cX6_row 252 = .ok (.bipush 80, 2) := by decide +kernel
theorem dX6_row_254 : decode cX6_row 254 = .ok (.iload 5, 2) := by decide +kernel
theorem dX6_row_256 : decode cX6_row 256 = .ok (.iadd, 1) := by decide +kernel
theorem dX6_row_257 : decode cX6_row 257 = .ok (.iaload, 1) := by decide +kernel
theorem dX6_row_258 : decode cX6_row 258 = .ok (.iastore, 1) := by decide +kernel
theorem dX6_row_259 : decode cX6_row 259 = .ok (.iinc 5 1, 3) := by decide +kernel
theorem dX6_row_262 : decode cX6_row 262 = .ok (.goto (-60), 3) := by decide +kernel
theorem dX6_row_265 : decode cX6_row 265 = .ok (.aload_n 0, 1) := by decide +kernel
theorem dX6_row_266 : decode cX6_row 266 = .ok (.iconst 0, 1) := by decide +kernel
theorem dX6_row_267 : decode cX6_row 267 = .ok (.putfield 143, 3) := by decide +kernel
theorem dX6_row_270 : decode cX6_row 270 = .ok (.aload_n 0, 1) := by decide +kernel
theorem dX6_row_271 : decode cX6_row 271 = .ok (.dup, 1) := by decide +kernel
theorem dX6_row_272 : decode cX6_row 272 = .ok (.getfield 146, 3) := by decide +kernel
theorem dX6_row_275 : decode cX6_row 275 = .ok (.iconst 1, 1) := by decide +kernel
theorem dX6_row_276 : decode cX6_row 276 = .ok (.iadd, 1) := by decide +kernel
theorem dX6_row_277 : decode cX6_row 277 = .ok (.putfield 146, 3) := by decide +kernel
theorem dX6_row_280 : decode cX6_row 280 = .ok (.aload_n 0, 1) := by decide +kernel
theorem dX6_row_281 : decode cX6_row 281 = .ok (.getfield 146, 3) := by decide +kernel
theorem dX6_row_284 : decode cX6_row 284 = .ok (.iconst 1, 1) := by decide +kernel
theorem dX6_row_285 : decode cX6_row 285 = .ok (.isub, 1) := by decide +kernel
theorem dX6_row_286 : decode cX6_row 286 = .ok (.ireturn, 1) := by decide +kernel
theorem dX6_lowest_0 : decode cX6_lowest 0 = .ok (.iconst 0, 1) := by decide +kernel
theorem dX6_lowest_1 : decode cX6_lowest 1 = .ok (.istore_n 1, 1) := by decide +kernel
theorem dX6_lowest_2 : decode cX6_lowest 2 = .ok (.iload_n 0, 1) := by decide +kernel
theorem dX6_lowest_3 : decode cX6_lowest 3 = .ok (.iload_n 1, 1) := by decide +kernel
theorem dX6_lowest_4 : decode cX6_lowest 4 = .ok (.ishr, 1) := by decide +kernel
theorem dX6_lowest_5 : decode cX6_lowest 5 = .ok (.iconst 1, 1) := by decide +kernel
theorem dX6_lowest_6 : decode cX6_lowest 6 = .ok (.iand, 1) := by decide +kernel
theorem dX6_lowest_7 : decode cX6_lowest 7 = .ok (.ifCond .ne 9, 3) := by decide +kernel
theorem dX6_lowest_10 : decode cX6_lowest 10 = .ok (.iinc 1 1, 3) := by decide +kernel
theorem dX6_lowest_13 : decode cX6_lowest 13 = .ok (.goto (-11), 3) := by decide +kernel
theorem dX6_lowest_16 : decode cX6_lowest 16 = .ok (.iload_n 1, 1) := by decide +kernel
theorem dX6_lowest_17 : decode cX6_lowest 17 = .ok (.ireturn, 1) := by decide +kernel
theorem dX6_valueOf_0 : decode cX6_valueOf 0 = .ok (.aload_n 0, 1) := by decide +kernel
theorem dX6_valueOf_1 : decode cX6_valueOf 1 = .ok (.getfield 13, 3) := by decide +kernel
theorem dX6_valueOf_4 : decode cX6_valueOf 4 = .ok (.iload_n 1, 1) := by decide +kernel
theorem dX6_valueOf_5 : decode cX6_valueOf 5 = .ok (.iaload, 1) := by decide +kernel
theorem dX6_valueOf_6 : decode cX6_valueOf 6 = .ok (.iconst 1, 1) := by decide +kernel
theorem dX6_valueOf_7 : decode cX6_valueOf 7 = .ok (.if_icmp .eq 26, 3) := by decide +kernel
theorem dX6_valueOf_10 : decode cX6_valueOf 10 = .ok (.aload_n 0, 1) := by decide +kernel
theorem dX6_valueOf_11 : decode cX6_valueOf 11 = .ok (.getfield 28, 3) := by decide +kernel
theorem dX6_valueOf_14 : decode cX6_valueOf 14 = .ok (.iload_n 1, 1) := by decide +kernel
theorem dX6_valueOf_15 : decode cX6_valueOf 15 = .ok (.baload, 1) := by decide +kernel
theorem dX6_valueOf_16 : decode cX6_valueOf 16 = .ok (.ifCond .eq 15, 3) := by decide +kernel
theorem dX6_valueOf_19 : decode cX6_valueOf 19 = .ok (.aload_n 0, 1) := by decide +kernel
theorem dX6_valueOf_20 : decode cX6_valueOf 20 = .ok (.getfield 25, 3) := by decide +kernel
theorem dX6_valueOf_23 : decode cX6_valueOf 23 = .ok (.iload_n 1, 1) := by decide +kernel
theorem dX6_valueOf_24 : decode cX6_valueOf 24 = .ok (.iaload, 1) := by decide +kernel
theorem dX6_valueOf_25 : decode cX6_valueOf 25 = .ok (.invokestatic 149, 3) := by decide +kernel
theorem dX6_valueOf_28 : decode cX6_valueOf 28 = .ok (.goto 4, 3) := by decide +kernel
theorem dX6_valueOf_31 : decode cX6_valueOf 31 = .ok (.iconst (-1), 1) := by decide +kernel
theorem dX6_valueOf_32 : decode cX6_valueOf 32 = .ok (.ireturn, 1) := by decide +kernel
theorem dX6_valueOf_33 : decode cX6_valueOf 33 = .ok (.aload_n 0, 1) := by decide +kernel
theorem dX6_valueOf_34 : decode cX6_valueOf 34 = .ok (.getfield 19, 3) := by decide +kernel
theorem dX6_valueOf_37 : decode cX6_valueOf 37 = .ok (.iload_n 1, 1) := by decide +kernel
theorem dX6_valueOf_38 : decode cX6_valueOf 38 = .ok (.iaload, 1) := by decide +kernel
theorem dX6_valueOf_39 : decode cX6_valueOf 39 = .ok (.istore_n 2, 1) := by decide +kernel
theorem dX6_valueOf_40 : decode cX6_valueOf 40 = .ok (.aload_n 0, 1) := by decide +kernel
theorem dX6_valueOf_41 : decode cX6_valueOf 41 = .ok (.getfield 22, 3) := by decide +kernel
theorem dX6_valueOf_44 : decode cX6_valueOf 44 = .ok (.iload_n 1, 1) := by decide +kernel
theorem dX6_valueOf_45 : decode cX6_valueOf 45 = .ok (.iaload, 1) := by decide +kernel
theorem dX6_valueOf_46 : decode cX6_valueOf 46 = .ok (.istore_n 3, 1) := by decide +kernel
theorem dX6_valueOf_47 : decode cX6_valueOf 47 = .ok (.aload_n 0, 1) := by decide +kernel
theorem dX6_valueOf_48 : decode cX6_valueOf 48 = .ok (.getfield 28, 3) := by decide +kernel
theorem dX6_valueOf_51 : decode cX6_valueOf 51 = .ok (.iload_n 2, 1) := by decide +kernel
theorem dX6_valueOf_52 : decode cX6_valueOf 52 = .ok (.baload, 1) := by decide +kernel
theorem dX6_valueOf_53 : decode cX6_valueOf 53 = .ok (.ifCond .eq 41, 3) := by decide +kernel
theorem dX6_valueOf_56 : decode cX6_valueOf 56 = .ok (.aload_n 0, 1) := by decide +kernel
theorem dX6_valueOf_57 : decode cX6_valueOf 57 = .ok (.getfield 28, 3) := by decide +kernel
theorem dX6_valueOf_60 : decode cX6_valueOf 60 = .ok (.iload_n 3, 1) := by decide +kernel
theorem dX6_valueOf_61 : decode cX6_valueOf 61 = .ok (.baload, 1) := by decide +kernel
theorem dX6_valueOf_62 : decode cX6_valueOf 62 = .ok (.ifCond .eq 32, 3) := by decide +kernel
theorem dX6_valueOf_65 : decode cX6_valueOf 65 = .ok (.aload_n 0, 1) := by decide +kernel
theorem dX6_valueOf_66 : decode cX6_valueOf 66 = .ok (.getfield 25, 3) := by decide +kernel
theorem dX6_valueOf_69 : decode cX6_valueOf 69 = .ok (.iload_n 2, 1) := by decide +kernel
theorem dX6_valueOf_70 : decode cX6_valueOf 70 = .ok (.iaload, 1) := by decide +kernel
theorem dX6_valueOf_71 : decode cX6_valueOf 71 = .ok (.invokestatic 149, 3) := by decide +kernel
theorem dX6_valueOf_74 : decode cX6_valueOf 74 = .ok (.aload_n 0, 1) := by decide +kernel
theorem dX6_valueOf_75 : decode cX6_valueOf 75 = .ok (.getfield 25, 3) := by decide +kernel
theorem dX6_valueOf_78 : decode cX6_valueOf 78 = .ok (.iload_n 3, 1) := by decide +kernel
theorem dX6_valueOf_79 : decode cX6_valueOf 79 = .ok (.iaload, 1) := by decide +kernel
theorem dX6_valueOf_80 : decode cX6_valueOf 80 = .ok (.invokestatic 149, 3) := by decide +kernel
theorem dX6_valueOf_83 : decode cX6_valueOf 83 = .ok (.iadd, 1) := by decide +kernel
theorem dX6_valueOf_84 : decode cX6_valueOf 84 = .ok (.aload_n 0, 1) := by decide +kernel
theorem dX6_valueOf_85 : decode cX6_valueOf 85 = .ok (.getfield 16, 3) := by decide +kernel
theorem dX6_valueOf_88 : decode cX6_valueOf 88 = .ok (.iload_n 1, 1) := by decide +kernel
theorem dX6_valueOf_89 : decode cX6_valueOf 89 = .ok (.iaload, 1) := by decide +kernel
theorem dX6_valueOf_90 : decode cX6_valueOf 90 = .ok (.irem, 1) := by decide +kernel
theorem dX6_valueOf_91 : decode cX6_valueOf 91 = .ok (.goto 4, 3) := by decide +kernel
theorem dX6_valueOf_94 : decode cX6_valueOf 94 = .ok (.iconst (-1), 1) := by decide +kernel
theorem dX6_valueOf_95 : decode cX6_valueOf 95 = .ok (.ireturn, 1) := by decide +kernel
theorem dX6_isWanted_0 : decode cX6_isWanted 0 = .ok (.iconst 5, 1) := by decide +kernel
theorem dX6_isWanted_1 : decode cX6_isWanted 1 = .ok (.iload_n 1, 1) := by decide +kernel
theorem dX6_isWanted_2 : decode cX6_isWanted 2 = .ok (.imul, 1) := by decide +kernel
theorem dX6_isWanted_3 : decode cX6_isWanted 3 = .ok (.iload_n 2, 1) := by decide +kernel
theorem dX6_isWanted_4 : decode cX6_isWanted 4 = .ok (.iadd, 1) := by decide +kernel
theorem dX6_isWanted_5 : decode cX6_isWanted 5 = .ok (.istore_n 3, 1) := by decide +kernel
theorem dX6_isWanted_6 : decode cX6_isWanted 6 = .ok (.iconst 0, 1) := by decide +kernel
theorem dX6_isWanted_7 : decode cX6_isWanted 7 = .ok (.istore 4, 2) := by decide +kernel
theorem dX6_isWanted_9 : decode cX6_isWanted 9 = .ok (.bipush 6, 2) := by decide +kernel
theorem dX6_isWanted_11 : decode cX6_isWanted 11 = .ok (.iload_n 1, 1) := by decide +kernel
theorem dX6_isWanted_12 : decode cX6_isWanted 12 = .ok (.imul, 1) := by decide +kernel
theorem dX6_isWanted_13 : decode cX6_isWanted 13 = .ok (.istore 5, 2) := by decide +kernel
theorem dX6_isWanted_15 : decode cX6_isWanted 15 = .ok (.iload 5, 2) := by decide +kernel
theorem dX6_isWanted_17 : decode cX6_isWanted 17 = .ok (.bipush 6, 2) := by decide +kernel
theorem dX6_isWanted_19 : decode cX6_isWanted 19 = .ok (.iload_n 1, 1) := by decide +kernel
theorem dX6_isWanted_20 : decode cX6_isWanted 20 = .ok (.imul, 1) := by decide +kernel
theorem dX6_isWanted_21 : decode cX6_isWanted 21 = .ok (.aload_n 0, 1) := by decide +kernel
theorem dX6_isWanted_22 : decode cX6_isWanted 22 = .ok (.getfield 32, 3) := by decide +kernel
theorem dX6_isWanted_25 : decode cX6_isWanted 25 = .ok (.iload_n 1, 1) := by decide +kernel
theorem dX6_isWanted_26 : decode cX6_isWanted 26 = .ok (.iaload, 1) := by decide +kernel
theorem dX6_isWanted_27 : decode cX6_isWanted 27 = .ok (.iadd, 1) := by decide +kernel
theorem dX6_isWanted_28 : decode cX6_isWanted 28 = .ok (.if_icmp .ge 59, 3) := by decide +kernel
theorem dX6_isWanted_31 : decode cX6_isWanted 31 = .ok (.aload_n 0, 1) := by decide +kernel
theorem dX6_isWanted_32 : decode cX6_isWanted 32 = .ok (.getfield 35, 3) := by decide +kernel
theorem dX6_isWanted_35 : decode cX6_isWanted 35 = .ok (.iload 5, 2) := by decide +kernel
theorem dX6_isWanted_37 : decode cX6_isWanted 37 = .ok (.baload, 1) := by decide +kernel
theorem dX6_isWanted_38 : decode cX6_isWanted 38 = .ok (.ifCond .ne 43, 3) := by decide +kernel
theorem dX6_isWanted_41 : decode cX6_isWanted 41 = .ok (.aload_n 0, 1) := by decide +kernel
theorem dX6_isWanted_42 : decode cX6_isWanted 42 = .ok (.getfield 44, 3) := by decide +kernel
theorem dX6_isWanted_45 : decode cX6_isWanted 45 = .ok (.iload 5, 2) := by decide +kernel
theorem dX6_isWanted_47 : decode cX6_isWanted 47 = .ok (.iaload, 1) := by decide +kernel
theorem dX6_isWanted_48 : decode cX6_isWanted 48 = .ok (.iload_n 3, 1) := by decide +kernel
theorem dX6_isWanted_49 : decode cX6_isWanted 49 = .ok (.if_icmp .eq 6, 3) := by decide +kernel
theorem dX6_isWanted_52 : decode cX6_isWanted 52 = .ok (.goto 29, 3) := by decide +kernel
theorem dX6_isWanted_55 : decode cX6_isWanted 55 = .ok (.aload_n 0, 1) := by decide +kernel
theorem dX6_isWanted_56 : decode cX6_isWanted 56 = .ok (.aload_n 0, 1) := by decide +kernel
theorem dX6_isWanted_57 : decode cX6_isWanted 57 = .ok (.getfield 38, 3) := by decide +kernel
theorem dX6_isWanted_60 : decode cX6_isWanted 60 = .ok (.iload 5, 2) := by decide +kernel
theorem dX6_isWanted_62 : decode cX6_isWanted 62 = .ok (.iaload, 1) := by decide +kernel
theorem dX6_isWanted_63 : decode cX6_isWanted 63 = .ok (.invokevirtual 153, 3) := by decide +kernel
theorem dX6_isWanted_66 : decode cX6_isWanted 66 = .ok (.aload_n 0, 1) := by decide +kernel
theorem dX6_isWanted_67 : decode cX6_isWanted 67 = .ok (.getfield 41, 3) := by decide +kernel
theorem dX6_isWanted_70 : decode cX6_isWanted 70 = .ok (.iload 5, 2) := by decide +kernel
theorem dX6_isWanted_72 : decode cX6_isWanted 72 = .ok (.iaload, 1) := by decide +kernel
theorem dX6_isWanted_73 : decode cX6_isWanted 73 = .ok (.if_icmp .ne 5, 3) := by decide +kernel
theorem dX6_isWanted_76 : decode cX6_isWanted 76 = .ok (.iconst 1, 1) := by decide +kernel
theorem dX6_isWanted_77 : decode cX6_isWanted 77 = .ok (.ireturn, 1) := by decide +kernel
theorem dX6_isWanted_78 : decode cX6_isWanted 78 = .ok (.iconst 1, 1) := by decide +kernel
theorem dX6_isWanted_79 : decode cX6_isWanted 79 = .ok (.istore 4, 2) := by decide +kernel
theorem dX6_isWanted_81 : decode cX6_isWanted 81 = .ok (.iinc 5 1, 3) := by decide +kernel
theorem dX6_isWanted_84 : decode cX6_isWanted 84 = .ok (.goto (-69), 3) := by decide +kernel
theorem dX6_isWanted_87 : decode cX6_isWanted 87 = .ok (.iload 4, 2) := by decide +kernel
theorem dX6_isWanted_89 : decode cX6_isWanted 89 = .ok (.ifCond .ne 17, 3) := by decide +kernel
theorem dX6_isWanted_92 : decode cX6_isWanted 92 = .ok (.aload_n 0, 1) := by decide +kernel
theorem dX6_isWanted_93 : decode cX6_isWanted 93 = .ok (.getfield 13, 3) := by decide +kernel
theorem dX6_isWanted_96 : decode cX6_isWanted 96 = .ok (.iload_n 3, 1) := by decide +kernel
theorem dX6_isWanted_97 : decode cX6_isWanted 97 = .ok (.iaload, 1) := by decide +kernel
theorem dX6_isWanted_98 : decode cX6_isWanted 98 = .ok (.iconst 1, 1) := by decide +kernel
theorem dX6_isWanted_99 : decode cX6_isWanted 99 = .ok (.if_icmp .eq 7, 3) := by decide +kernel
theorem dX6_isWanted_102 : decode cX6_isWanted 102 = .ok (.iconst 1, 1) := by decide +kernel
theorem dX6_isWanted_103 : decode cX6_isWanted 103 = .ok (.goto 4, 3) := by decide +kernel
theorem dX6_isWanted_106 : decode cX6_isWanted 106 = .ok (.iconst 0, 1) := by decide +kernel
theorem dX6_isWanted_107 : decode cX6_isWanted 107 = .ok (.ireturn, 1) := by decide +kernel
theorem dX6_broken_0 : decode cX6_broken 0 = .ok (.bipush 6, 2) := by decide +kernel
theorem dX6_broken_2 : decode cX6_broken 2 = .ok (.iload_n 1, 1) := by decide +kernel
theorem dX6_broken_3 : decode cX6_broken 3 = .ok (.imul, 1) := by decide +kernel
theorem dX6_broken_4 : decode cX6_broken 4 = .ok (.istore_n 2, 1) := by decide +kernel
theorem dX6_broken_5 : decode cX6_broken 5 = .ok (.iload_n 2, 1) := by decide +kernel
theorem dX6_broken_6 : decode cX6_broken 6 = .ok (.bipush 6, 2) := by decide +kernel
theorem dX6_broken_8 : decode cX6_broken 8 = .ok (.iload_n 1, 1) := by decide +kernel
theorem dX6_broken_9 : decode cX6_broken 9 = .ok (.imul, 1) := by decide +kernel
theorem dX6_broken_10 : decode cX6_broken 10 = .ok (.aload_n 0, 1) := by decide +kernel
theorem dX6_broken_11 : decode cX6_broken 11 = .ok (.getfield 32, 3) := by decide +kernel
theorem dX6_broken_14 : decode cX6_broken 14 = .ok (.iload_n 1, 1) := by decide +kernel
theorem dX6_broken_15 : decode cX6_broken 15 = .ok (.iaload, 1) := by decide +kernel
theorem dX6_broken_16 : decode cX6_broken 16 = .ok (.iadd, 1) := by decide +kernel
theorem dX6_broken_17 : decode cX6_broken 17 = .ok (.if_icmp .ge 63, 3) := by decide +kernel
theorem dX6_broken_20 : decode cX6_broken 20 = .ok (.aload_n 0, 1) := by decide +kernel
theorem dX6_broken_21 : decode cX6_broken 21 = .ok (.getfield 35, 3) := by decide +kernel
theorem dX6_broken_24 : decode cX6_broken 24 = .ok (.iload_n 2, 1) := by decide +kernel
theorem dX6_broken_25 : decode cX6_broken 25 = .ok (.baload, 1) := by decide +kernel
theorem dX6_broken_26 : decode cX6_broken 26 = .ok (.ifCond .eq 48, 3) := by decide +kernel
theorem dX6_broken_29 : decode cX6_broken 29 = .ok (.aload_n 0, 1) := by decide +kernel
theorem dX6_broken_30 : decode cX6_broken 30 = .ok (.aload_n 0, 1) := by decide +kernel
theorem dX6_broken_31 : decode cX6_broken 31 = .ok (.getfield 38, 3) := by decide +kernel
theorem dX6_broken_34 : decode cX6_broken 34 = .ok (.iload_n 2, 1) := by decide +kernel
theorem dX6_broken_35 : decode cX6_broken 35 = .ok (.iaload, 1) := by decide +kernel
theorem dX6_broken_36 : decode cX6_broken 36 = .ok (.invokevirtual 153, 3) := by decide +kernel
theorem dX6_broken_39 : decode cX6_broken 39 = .ok (.aload_n 0, 1) := by decide +kernel
theorem dX6_broken_40 : decode cX6_broken 40 = .ok (.getfield 41, 3) := by decide +kernel
theorem dX6_broken_43 : decode cX6_broken 43 = .ok (.iload_n 2, 1) := by decide +kernel
theorem dX6_broken_44 : decode cX6_broken 44 = .ok (.iaload, 1) := by decide +kernel
theorem dX6_broken_45 : decode cX6_broken 45 = .ok (.if_icmp .ne 29, 3) := by decide +kernel
theorem dX6_broken_48 : decode cX6_broken 48 = .ok (.aload_n 0, 1) := by decide +kernel
theorem dX6_broken_49 : decode cX6_broken 49 = .ok (.aload_n 0, 1) := by decide +kernel
theorem dX6_broken_50 : decode cX6_broken 50 = .ok (.getfield 44, 3) := by decide +kernel
theorem dX6_broken_53 : decode cX6_broken 53 = .ok (.iload_n 2, 1) := by decide +kernel
theorem dX6_broken_54 : decode cX6_broken 54 = .ok (.iaload, 1) := by decide +kernel
theorem dX6_broken_55 : decode cX6_broken 55 = .ok (.invokevirtual 153, 3) := by decide +kernel
theorem dX6_broken_58 : decode cX6_broken 58 = .ok (.aload_n 0, 1) := by decide +kernel
theorem dX6_broken_59 : decode cX6_broken 59 = .ok (.getfield 47, 3) := by decide +kernel
theorem dX6_broken_62 : decode cX6_broken 62 = .ok (.iload_n 2, 1) := by decide +kernel
theorem dX6_broken_63 : decode cX6_broken 63 = .ok (.iaload, 1) := by decide +kernel
theorem dX6_broken_64 : decode cX6_broken 64 = .ok (.if_icmp .ne 10, 3) := by decide +kernel
theorem dX6_broken_67 : decode cX6_broken 67 = .ok (.iload_n 2, 1) := by decide +kernel
theorem dX6_broken_68 : decode cX6_broken 68 = .ok (.bipush 6, 2) := by decide +kernel
theorem dX6_broken_70 : decode cX6_broken 70 = .ok (.iload_n 1, 1) := by decide +kernel
theorem dX6_broken_71 : decode cX6_broken 71 = .ok (.imul, 1) := by decide +kernel
theorem dX6_broken_72 : decode cX6_broken 72 = .ok (.isub, 1) := by decide +kernel
theorem dX6_broken_73 : decode cX6_broken 73 = .ok (.ireturn, 1) := by decide +kernel
theorem dX6_broken_74 : decode cX6_broken 74 = .ok (.iinc 2 1, 3) := by decide +kernel
theorem dX6_broken_77 : decode cX6_broken 77 = .ok (.goto (-72), 3) := by decide +kernel
theorem dX6_broken_80 : decode cX6_broken 80 = .ok (.iconst (-1), 1) := by decide +kernel
theorem dX6_broken_81 : decode cX6_broken 81 = .ok (.ireturn, 1) := by decide +kernel
theorem dX6_open_0 : decode cX6_open 0 = .ok (.aload_n 0, 1) := by decide +kernel
theorem dX6_open_1 : decode cX6_open 1 = .ok (.iload_n 1, 1) := by decide +kernel
theorem dX6_open_2 : decode cX6_open 2 = .ok (.invokevirtual 118, 3) := by decide +kernel
theorem dX6_open_5 : decode cX6_open 5 = .ok (.ifCond .ne 5, 3) := by decide +kernel
theorem dX6_open_8 : decode cX6_open 8 = .ok (.iconst (-1), 1) := by decide +kernel
theorem dX6_open_9 : decode cX6_open 9 = .ok (.ireturn, 1) := by decide +kernel
theorem dX6_open_10 : decode cX6_open 10 = .ok (.aload_n 0, 1) := by decide +kernel
theorem dX6_open_11 : decode cX6_open 11 = .ok (.iload_n 1, 1) := by decide +kernel
theorem dX6_open_12 : decode cX6_open 12 = .ok (.invokevirtual 129, 3) := by decide +kernel
theorem dX6_open_15 : decode cX6_open 15 = .ok (.ifCond .eq 6, 3) := by decide +kernel
theorem dX6_open_18 : decode cX6_open 18 = .ok (.bipush (-3), 2) := by decide +kernel
theorem dX6_open_20 : decode cX6_open 20 = .ok (.ireturn, 1) := by decide +kernel
theorem dX6_open_21 : decode cX6_open 21 = .ok (.aload_n 0, 1) := by decide +kernel
theorem dX6_open_22 : decode cX6_open 22 = .ok (.getfield 71, 3) := by decide +kernel
theorem dX6_open_25 : decode cX6_open 25 = .ok (.aload_n 0, 1) := by decide +kernel
theorem dX6_open_26 : decode cX6_open 26 = .ok (.getfield 126, 3) := by decide +kernel
theorem dX6_open_29 : decode cX6_open 29 = .ok (.iload_n 1, 1) := by decide +kernel
theorem dX6_open_30 : decode cX6_open 30 = .ok (.iastore, 1) := by decide +kernel
theorem dX6_open_31 : decode cX6_open 31 = .ok (.aload_n 0, 1) := by decide +kernel
theorem dX6_open_32 : decode cX6_open 32 = .ok (.dup, 1) := by decide +kernel
theorem dX6_open_33 : decode cX6_open 33 = .ok (.getfield 126, 3) := by decide +kernel
theorem dX6_open_36 : decode cX6_open 36 = .ok (.iconst 1, 1) := by decide +kernel
theorem dX6_open_37 : decode cX6_open 37 = .ok (.iadd, 1) := by decide +kernel
theorem dX6_open_38 : decode cX6_open 38 = .ok (.putfield 126, 3) := by decide +kernel
theorem dX6_open_41 : decode cX6_open 41 = .ok (.iconst 0, 1) := by decide +kernel
theorem dX6_open_42 : decode cX6_open 42 = .ok (.istore_n 2, 1) := by decide +kernel
theorem dX6_open_43 : decode cX6_open 43 = .ok (.iload_n 2, 1) := by decide +kernel
theorem dX6_open_44 : decode cX6_open 44 = .ok (.iconst 5, 1) := by decide +kernel
theorem dX6_open_45 : decode cX6_open 45 = .ok (.if_icmp .ge 31, 3) := by decide +kernel
theorem dX6_open_48 : decode cX6_open 48 = .ok (.aload_n 0, 1) := by decide +kernel
theorem dX6_open_49 : decode cX6_open 49 = .ok (.getfield 25, 3) := by decide +kernel
theorem dX6_open_52 : decode cX6_open 52 = .ok (.iconst 5, 1) := by decide +kernel
theorem dX6_open_53 : decode cX6_open 53 = .ok (.iload_n 1, 1) := by decide +kernel
theorem dX6_open_54 : decode cX6_open 54 = .ok (.imul, 1) := by decide +kernel
theorem dX6_open_55 : decode cX6_open 55 = .ok (.iload_n 2, 1) := by decide +kernel
theorem dX6_open_56 : decode cX6_open 56 = .ok (.iadd, 1) := by decide +kernel
theorem dX6_open_57 : decode cX6_open 57 = .ok (.iconst 0, 1) := by decide +kernel
theorem dX6_open_58 : decode cX6_open 58 = .ok (.iastore, 1) := by decide +kernel
theorem dX6_open_59 : decode cX6_open 59 = .ok (.aload_n 0, 1) := by decide +kernel
theorem dX6_open_60 : decode cX6_open 60 = .ok (.getfield 28, 3) := by decide +kernel
theorem dX6_open_63 : decode cX6_open 63 = .ok (.iconst 5, 1) := by decide +kernel
theorem dX6_open_64 : decode cX6_open 64 = .ok (.iload_n 1, 1) := by decide +kernel
theorem dX6_open_65 : decode cX6_open 65 = .ok (.imul, 1) := by decide +kernel
theorem dX6_open_66 : decode cX6_open 66 = .ok (.iload_n 2, 1) := by decide +kernel
theorem dX6_open_67 : decode cX6_open 67 = .ok (.iadd, 1) := by decide +kernel
theorem dX6_open_68 : decode cX6_open 68 = .ok (.iconst 0, 1) := by decide +kernel
theorem dX6_open_69 : decode cX6_open 69 = .ok (.bastore, 1) := by decide +kernel
theorem dX6_open_70 : decode cX6_open 70 = .ok (.iinc 2 1, 3) := by decide +kernel
theorem dX6_open_73 : decode cX6_open 73 = .ok (.goto (-30), 3) := by decide +kernel
theorem dX6_open_76 : decode cX6_open 76 = .ok (.aload_n 0, 1) := by decide +kernel
theorem dX6_open_77 : decode cX6_open 77 = .ok (.iconst 0, 1) := by decide +kernel
theorem dX6_open_78 : decode cX6_open 78 = .ok (.putfield 156, 3) := by decide +kernel
theorem dX6_open_81 : decode cX6_open 81 = .ok (.aload_n 0, 1) := by decide +kernel
theorem dX6_open_82 : decode cX6_open 82 = .ok (.iconst (-1), 1) := by decide +kernel
theorem dX6_open_83 : decode cX6_open 83 = .ok (.putfield 80, 3) := by decide +kernel
theorem dX6_open_86 : decode cX6_open 86 = .ok (.aload_n 0, 1) := by decide +kernel
theorem dX6_open_87 : decode cX6_open 87 = .ok (.getfield 126, 3) := by decide +kernel
theorem dX6_open_90 : decode cX6_open 90 = .ok (.ireturn, 1) := by decide +kernel
theorem dX6_close_0 : decode cX6_close 0 = .ok (.aload_n 0, 1) := by decide +kernel
theorem dX6_close_1 : decode cX6_close 1 = .ok (.getfield 126, 3) := by decide +kernel
theorem dX6_close_4 : decode cX6_close 4 = .ok (.ifCond .ne 6, 3) := by decide +kernel
theorem dX6_close_7 : decode cX6_close 7 = .ok (.bipush (-3), 2) := by decide +kernel
theorem dX6_close_9 : decode cX6_close 9 = .ok (.ireturn, 1) := by decide +kernel
theorem dX6_close_10 : decode cX6_close 10 = .ok (.aload_n 0, 1) := by decide +kernel
theorem dX6_close_11 : decode cX6_close 11 = .ok (.dup, 1) := by decide +kernel
theorem dX6_close_12 : decode cX6_close 12 = .ok (.getfield 126, 3) := by decide +kernel
theorem dX6_close_15 : decode cX6_close 15 = .ok (.iconst 1, 1) := by decide +kernel
theorem dX6_close_16 : decode cX6_close 16 = .ok (.isub, 1) := by decide +kernel
theorem dX6_close_17 : decode cX6_close 17 = .ok (.putfield 126, 3) := by decide +kernel
theorem dX6_close_20 : decode cX6_close 20 = .ok (.aload_n 0, 1) := by decide +kernel
theorem dX6_close_21 : decode cX6_close 21 = .ok (.iconst 0, 1) := by decide +kernel
theorem dX6_close_22 : decode cX6_close 22 = .ok (.putfield 156, 3) := by decide +kernel
theorem dX6_close_25 : decode cX6_close 25 = .ok (.aload_n 0, 1) := by decide +kernel
theorem dX6_close_26 : decode cX6_close 26 = .ok (.iconst (-1), 1) := by decide +kernel
theorem dX6_close_27 : decode cX6_close 27 = .ok (.putfield 80, 3) := by decide +kernel
theorem dX6_close_30 : decode cX6_close 30 = .ok (.aload_n 0, 1) := by decide +kernel
theorem dX6_close_31 : decode cX6_close 31 = .ok (.getfield 71, 3) := by decide +kernel
theorem dX6_close_34 : decode cX6_close 34 = .ok (.aload_n 0, 1) := by decide +kernel
theorem dX6_close_35 : decode cX6_close 35 = .ok (.getfield 126, 3) := by decide +kernel
theorem dX6_close_38 : decode cX6_close 38 = .ok (.iaload, 1) := by decide +kernel
theorem dX6_close_39 : decode cX6_close 39 = .ok (.ireturn, 1) := by decide +kernel
theorem dX6_keep_0 : decode cX6_keep 0 = .ok (.aload_n 0, 1) := by decide +kernel
theorem dX6_keep_1 : decode cX6_keep 1 = .ok (.getfield 156, 3) := by decide +kernel
theorem dX6_keep_4 : decode cX6_keep 4 = .ok (.bipush 10, 2) := by decide +kernel
theorem dX6_keep_6 : decode cX6_keep 6 = .ok (.if_icmp .ne 58, 3) := by decide +kernel
theorem dX6_keep_9 : decode cX6_keep 9 = .ok (.iconst 0, 1) := by decide +kernel
theorem dX6_keep_10 : decode cX6_keep 10 = .ok (.istore_n 1, 1) := by decide +kernel
theorem dX6_keep_11 : decode cX6_keep 11 = .ok (.iload_n 1, 1) := by decide +kernel
theorem dX6_keep_12 : decode cX6_keep 12 = .ok (.sipush 135, 3) := by decide +kernel
theorem dX6_keep_15 : decode cX6_keep 15 = .ok (.if_icmp .ge 39, 3) := by decide +kernel
theorem dX6_keep_18 : decode cX6_keep 18 = .ok (.aload_n 0, 1) := by decide +kernel
theorem dX6_keep_19 : decode cX6_keep 19 = .ok (.getfield 74, 3) := by decide +kernel
theorem dX6_keep_22 : decode cX6_keep 22 = .ok (.iload_n 1, 1) := by decide +kernel
theorem dX6_keep_23 : decode cX6_keep 23 = .ok (.aload_n 0, 1) := by decide +kernel
theorem dX6_keep_24 : decode cX6_keep 24 = .ok (.getfield 74, 3) := by decide +kernel
theorem dX6_keep_27 : decode cX6_keep 27 = .ok (.iload_n 1, 1) := by decide +kernel
theorem dX6_keep_28 : decode cX6_keep 28 = .ok (.bipush 15, 2) := by decide +kernel
theorem dX6_keep_30 : decode cX6_keep 30 = .ok (.iadd, 1) := by decide +kernel
theorem dX6_keep_31 : decode cX6_keep 31 = .ok (.iaload, 1) := by decide +kernel
theorem dX6_keep_32 : decode cX6_keep 32 = .ok (.iastore, 1) := by decide +kernel
theorem dX6_keep_33 : decode cX6_keep 33 = .ok (.aload_n 0, 1) := by decide +kernel
theorem dX6_keep_34 : decode cX6_keep 34 = .ok (.getfield 77, 3) := by decide +kernel
theorem dX6_keep_37 : decode cX6_keep 37 = .ok (.iload_n 1, 1) := by decide +kernel
theorem dX6_keep_38 : decode cX6_keep 38 = .ok (.aload_n 0, 1) := by decide +kernel
theorem dX6_keep_39 : decode cX6_keep 39 = .ok (.getfield 77, 3) := by decide +kernel
theorem dX6_keep_42 : decode cX6_keep 42 = .ok (.iload_n 1, 1) := by decide +kernel
theorem dX6_keep_43 : decode cX6_keep 43 = .ok (.bipush 15, 2) := by decide +kernel
theorem dX6_keep_45 : decode cX6_keep 45 = .ok (.iadd, 1) := by decide +kernel
theorem dX6_keep_46 : decode cX6_keep 46 = .ok (.baload, 1) := by decide +kernel
theorem dX6_keep_47 : decode cX6_keep 47 = .ok (.bastore, 1) := by decide +kernel
theorem dX6_keep_48 : decode cX6_keep 48 = .ok (.iinc 1 1, 3) := by decide +kernel
theorem dX6_keep_51 : decode cX6_keep 51 = .ok (.goto (-40), 3) := by decide +kernel
theorem dX6_keep_54 : decode cX6_keep 54 = .ok (.aload_n 0, 1) := by decide +kernel
theorem dX6_keep_55 : decode cX6_keep 55 = .ok (.dup, 1) := by decide +kernel
theorem dX6_keep_56 : decode cX6_keep 56 = .ok (.getfield 156, 3) := by decide +kernel
theorem dX6_keep_59 : decode cX6_keep 59 = .ok (.iconst 1, 1) := by decide +kernel
theorem dX6_keep_60 : decode cX6_keep 60 = .ok (.isub, 1) := by decide +kernel
theorem dX6_keep_61 : decode cX6_keep 61 = .ok (.putfield 156, 3) := by decide +kernel
theorem dX6_keep_64 : decode cX6_keep 64 = .ok (.iconst 0, 1) := by decide +kernel
theorem dX6_keep_65 : decode cX6_keep 65 = .ok (.istore_n 1, 1) := by decide +kernel
theorem dX6_keep_66 : decode cX6_keep 66 = .ok (.iload_n 1, 1) := by decide +kernel
theorem dX6_keep_67 : decode cX6_keep 67 = .ok (.bipush 15, 2) := by decide +kernel
theorem dX6_keep_69 : decode cX6_keep 69 = .ok (.if_icmp .ge 49, 3) := by decide +kernel
theorem dX6_keep_72 : decode cX6_keep 72 = .ok (.aload_n 0, 1) := by decide +kernel
theorem dX6_keep_73 : decode cX6_keep 73 = .ok (.getfield 74, 3) := by decide +kernel
theorem dX6_keep_76 : decode cX6_keep 76 = .ok (.bipush 15, 2) := by decide +kernel
theorem dX6_keep_78 : decode cX6_keep 78 = .ok (.aload_n 0, 1) := by decide +kernel
theorem dX6_keep_79 : decode cX6_keep 79 = .ok (.getfield 156, 3) := by decide +kernel
theorem dX6_keep_82 : decode cX6_keep 82 = .ok (.imul, 1) := by decide +kernel
theorem dX6_keep_83 : decode cX6_keep 83 = .ok (.iload_n 1, 1) := by decide +kernel
theorem dX6_keep_84 : decode cX6_keep 84 = .ok (.iadd, 1) := by decide +kernel
theorem dX6_keep_85 : decode cX6_keep 85 = .ok (.aload_n 0, 1) := by decide +kernel
theorem dX6_keep_86 : decode cX6_keep 86 = .ok (.getfield 25, 3) := by decide +kernel
theorem dX6_keep_89 : decode cX6_keep 89 = .ok (.iload_n 1, 1) := by decide +kernel
theorem dX6_keep_90 : decode cX6_keep 90 = .ok (.iaload, 1) := by decide +kernel
theorem dX6_keep_91 : decode cX6_keep 91 = .ok (.iastore, 1) := by decide +kernel
theorem dX6_keep_92 : decode cX6_keep 92 = .ok (.aload_n 0, 1) := by decide +kernel
theorem dX6_keep_93 : decode cX6_keep 93 = .ok (.getfield 77, 3) := by decide +kernel
theorem dX6_keep_96 : decode cX6_keep 96 = .ok (.bipush 15, 2) := by decide +kernel
theorem dX6_keep_98 : decode cX6_keep 98 = .ok (.aload_n 0, 1) := by decide +kernel
theorem dX6_keep_99 : decode cX6_keep 99 = .ok (.getfield 156, 3) := by decide +kernel
theorem dX6_keep_102 : decode cX6_keep 102 = .ok (.imul, 1) := by decide +kernel
theorem dX6_keep_103 : decode cX6_keep 103 = .ok (.iload_n 1, 1) := by decide +kernel
theorem dX6_keep_104 : decode cX6_keep 104 = .ok (.iadd, 1) := by decide +kernel
theorem dX6_keep_105 : decode cX6_keep 105 = .ok (.aload_n 0, 1) := by decide +kernel
theorem dX6_keep_106 : decode cX6_keep 106 = .ok (.getfield 28, 3) := by decide +kernel
theorem dX6_keep_109 : decode cX6_keep 109 = .ok (.iload_n 1, 1) := by decide +kernel
theorem dX6_keep_110 : decode cX6_keep 110 = .ok (.baload, 1) := by decide +kernel
theorem dX6_keep_111 : decode cX6_keep 111 = .ok (.bastore, 1) := by decide +kernel
theorem dX6_keep_112 : decode cX6_keep 112 = .ok (.iinc 1 1, 3) := by decide +kernel
theorem dX6_keep_115 : decode cX6_keep 115 = .ok (.goto (-49), 3) := by decide +kernel
theorem dX6_keep_118 : decode cX6_keep 118 = .ok (.aload_n 0, 1) := by decide +kernel
theorem dX6_keep_119 : decode cX6_keep 119 = .ok (.dup, 1) := by decide +kernel
theorem dX6_keep_120 : decode cX6_keep 120 = .ok (.getfield 156, 3) := by decide +kernel
theorem dX6_keep_123 : decode cX6_keep 123 = .ok (.iconst 1, 1) := by decide +kernel
theorem dX6_keep_124 : decode cX6_keep 124 = .ok (.iadd, 1) := by decide +kernel
theorem dX6_keep_125 : decode cX6_keep 125 = .ok (.putfield 156, 3) := by decide +kernel
theorem dX6_keep_128 : decode cX6_keep 128 = .ok (.return_, 1) := by decide +kernel
theorem dX6_back_0 : decode cX6_back 0 = .ok (.aload_n 0, 1) := by decide +kernel
theorem dX6_back_1 : decode cX6_back 1 = .ok (.getfield 156, 3) := by decide +kernel
theorem dX6_back_4 : decode cX6_back 4 = .ok (.ifCond .ne 6, 3) := by decide +kernel
theorem dX6_back_7 : decode cX6_back 7 = .ok (.bipush (-3), 2) := by decide +kernel
theorem dX6_back_9 : decode cX6_back 9 = .ok (.ireturn, 1) := by decide +kernel
theorem dX6_back_10 : decode cX6_back 10 = .ok (.aload_n 0, 1) := by decide +kernel
theorem dX6_back_11 : decode cX6_back 11 = .ok (.dup, 1) := by decide +kernel
theorem dX6_back_12 : decode cX6_back 12 = .ok (.getfield 156, 3) := by decide +kernel
theorem dX6_back_15 : decode cX6_back 15 = .ok (.iconst 1, 1) := by decide +kernel
theorem dX6_back_16 : decode cX6_back 16 = .ok (.isub, 1) := by decide +kernel
theorem dX6_back_17 : decode cX6_back 17 = .ok (.putfield 156, 3) := by decide +kernel
theorem dX6_back_20 : decode cX6_back 20 = .ok (.iconst 0, 1) := by decide +kernel
theorem dX6_back_21 : decode cX6_back 21 = .ok (.istore_n 1, 1) := by decide +kernel
theorem dX6_back_22 : decode cX6_back 22 = .ok (.iload_n 1, 1) := by decide +kernel
theorem dX6_back_23 : decode cX6_back 23 = .ok (.bipush 15, 2) := by decide +kernel
theorem dX6_back_25 : decode cX6_back 25 = .ok (.if_icmp .ge 49, 3) := by decide +kernel
theorem dX6_back_28 : decode cX6_back 28 = .ok (.aload_n 0, 1) := by decide +kernel
theorem dX6_back_29 : decode cX6_back 29 = .ok (.getfield 25, 3) := by decide +kernel
theorem dX6_back_32 : decode cX6_back 32 = .ok (.iload_n 1, 1) := by decide +kernel
theorem dX6_back_33 : decode cX6_back 33 = .ok (.aload_n 0, 1) := by decide +kernel
theorem dX6_back_34 : decode cX6_back 34 = .ok (.getfield 74, 3) := by decide +kernel
theorem dX6_back_37 : decode cX6_back 37 = .ok (.bipush 15, 2) := by decide +kernel
theorem dX6_back_39 : decode cX6_back 39 = .ok (.aload_n 0, 1) := by decide +kernel
theorem dX6_back_40 : decode cX6_back 40 = .ok (.getfield 156, 3) := by decide +kernel
theorem dX6_back_43 : decode cX6_back 43 = .ok (.imul, 1) := by decide +kernel
theorem dX6_back_44 : decode cX6_back 44 = .ok (.iload_n 1, 1) := by decide +kernel
theorem dX6_back_45 : decode cX6_back 45 = .ok (.iadd, 1) := by decide +kernel
theorem dX6_back_46 : decode cX6_back 46 = .ok (.iaload, 1) := by decide +kernel
theorem dX6_back_47 : decode cX6_back 47 = .ok (.iastore, 1) := by decide +kernel
theorem dX6_back_48 : decode cX6_back 48 = .ok (.aload_n 0, 1) := by decide +kernel
theorem dX6_back_49 : decode cX6_back 49 = .ok (.getfield 28, 3) := by decide +kernel
theorem dX6_back_52 : decode cX6_back 52 = .ok (.iload_n 1, 1) := by decide +kernel
theorem dX6_back_53 : decode cX6_back 53 = .ok (.aload_n 0, 1) := by decide +kernel
theorem dX6_back_54 : decode cX6_back 54 = .ok (.getfield 77, 3) := by decide +kernel
theorem dX6_back_57 : decode cX6_back 57 = .ok (.bipush 15, 2) := by decide +kernel
theorem dX6_back_59 : decode cX6_back 59 = .ok (.aload_n 0, 1) := by decide +kernel
theorem dX6_back_60 : decode cX6_back 60 = .ok (.getfield 156, 3) := by decide +kernel
theorem dX6_back_63 : decode cX6_back 63 = .ok (.imul, 1) := by decide +kernel
theorem dX6_back_64 : decode cX6_back 64 = .ok (.iload_n 1, 1) := by decide +kernel
theorem dX6_back_65 : decode cX6_back 65 = .ok (.iadd, 1) := by decide +kernel
theorem dX6_back_66 : decode cX6_back 66 = .ok (.baload, 1) := by decide +kernel
theorem dX6_back_67 : decode cX6_back 67 = .ok (.bastore, 1) := by decide +kernel
theorem dX6_back_68 : decode cX6_back 68 = .ok (.iinc 1 1, 3) := by decide +kernel
theorem dX6_back_71 : decode cX6_back 71 = .ok (.goto (-49), 3) := by decide +kernel
theorem dX6_back_74 : decode cX6_back 74 = .ok (.aload_n 0, 1) := by decide +kernel
theorem dX6_back_75 : decode cX6_back 75 = .ok (.iconst (-1), 1) := by decide +kernel
theorem dX6_back_76 : decode cX6_back 76 = .ok (.putfield 80, 3) := by decide +kernel
theorem dX6_back_79 : decode cX6_back 79 = .ok (.aload_n 0, 1) := by decide +kernel
theorem dX6_back_80 : decode cX6_back 80 = .ok (.getfield 156, 3) := by decide +kernel
theorem dX6_back_83 : decode cX6_back 83 = .ok (.ireturn, 1) := by decide +kernel
theorem dX6_say_0 : decode cX6_say 0 = .ok (.iload_n 1, 1) := by decide +kernel
theorem dX6_say_1 : decode cX6_say 1 = .ok (.iconst 0, 1) := by decide +kernel
theorem dX6_say_2 : decode cX6_say 2 = .ok (.bipush 63, 2) := by decide +kernel
theorem dX6_say_4 : decode cX6_say 4 = .ok (.invokestatic 114, 3) := by decide +kernel
theorem dX6_say_7 : decode cX6_say 7 = .ok (.ifCond .ne 5, 3) := by decide +kernel
theorem dX6_say_10 : decode cX6_say 10 = .ok (.iconst (-1), 1) := by decide +kernel
theorem dX6_say_11 : decode cX6_say 11 = .ok (.ireturn, 1) := by decide +kernel
theorem dX6_say_12 : decode cX6_say 12 = .ok (.aload_n 0, 1) := by decide +kernel
theorem dX6_say_13 : decode cX6_say 13 = .ok (.getfield 159, 3) := by decide +kernel
theorem dX6_say_16 : decode cX6_say 16 = .ok (.bipush 8, 2) := by decide +kernel
theorem dX6_say_18 : decode cX6_say 18 = .ok (.if_icmp .ne 6, 3) := by decide +kernel
theorem dX6_say_21 : decode cX6_say 21 = .ok (.bipush (-4), 2) := by decide +kernel
theorem dX6_say_23 : decode cX6_say 23 = .ok (.ireturn, 1) := by decide +kernel
theorem dX6_say_24 : decode cX6_say 24 = .ok (.aload_n 0, 1) := by decide +kernel
theorem dX6_say_25 : decode cX6_say 25 = .ok (.getfield 84, 3) := by decide +kernel
theorem dX6_say_28 : decode cX6_say 28 = .ok (.aload_n 0, 1) := by decide +kernel
theorem dX6_say_29 : decode cX6_say 29 = .ok (.getfield 159, 3) := by decide +kernel
theorem dX6_say_32 : decode cX6_say 32 = .ok (.iload_n 1, 1) := by decide +kernel
theorem dX6_say_33 : decode cX6_say 33 = .ok (.iastore, 1) := by decide +kernel
theorem dX6_say_34 : decode cX6_say 34 = .ok (.aload_n 0, 1) := by decide +kernel
theorem dX6_say_35 : decode cX6_say 35 = .ok (.dup, 1) := by decide +kernel
theorem dX6_say_36 : decode cX6_say 36 = .ok (.getfield 159, 3) := by decide +kernel
theorem dX6_say_39 : decode cX6_say 39 = .ok (.iconst 1, 1) := by decide +kernel
theorem dX6_say_40 : decode cX6_say 40 = .ok (.iadd, 1) := by decide +kernel
theorem dX6_say_41 : decode cX6_say 41 = .ok (.putfield 159, 3) := by decide +kernel
theorem dX6_say_44 : decode cX6_say 44 = .ok (.aload_n 0, 1) := by decide +kernel
theorem dX6_say_45 : decode cX6_say 45 = .ok (.getfield 159, 3) := by decide +kernel
theorem dX6_say_48 : decode cX6_say 48 = .ok (.ireturn, 1) := by decide +kernel
theorem dX6_fits_0 : decode cX6_fits 0 = .ok (.aload_n 0, 1) := by decide +kernel
theorem dX6_fits_1 : decode cX6_fits 1 = .ok (.getfield 53, 3) := by decide +kernel
theorem dX6_fits_4 : decode cX6_fits 4 = .ok (.iload_n 1, 1) := by decide +kernel
theorem dX6_fits_5 : decode cX6_fits 5 = .ok (.iaload, 1) := by decide +kernel
theorem dX6_fits_6 : decode cX6_fits 6 = .ok (.iload_n 3, 1) := by decide +kernel
theorem dX6_fits_7 : decode cX6_fits 7 = .ok (.if_icmp .ne 18, 3) := by decide +kernel
theorem dX6_fits_10 : decode cX6_fits 10 = .ok (.iload_n 2, 1) := by decide +kernel
theorem dX6_fits_11 : decode cX6_fits 11 = .ok (.aload_n 0, 1) := by decide +kernel
theorem dX6_fits_12 : decode cX6_fits 12 = .ok (.getfield 62, 3) := by decide +kernel
theorem dX6_fits_15 : decode cX6_fits 15 = .ok (.iload_n 1, 1) := by decide +kernel
theorem dX6_fits_16 : decode cX6_fits 16 = .ok (.iaload, 1) := by decide +kernel
theorem dX6_fits_17 : decode cX6_fits 17 = .ok (.iadd, 1) := by decide +kernel
theorem dX6_fits_18 : decode cX6_fits 18 = .ok (.aload_n 0, 1) := by decide +kernel
theorem dX6_fits_19 : decode cX6_fits 19 = .ok (.getfield 159, 3) := by decide +kernel
theorem dX6_fits_22 : decode cX6_fits 22 = .ok (.if_icmp .le 5, 3) := by decide +kernel
theorem dX6_fits_25 : decode cX6_fits 25 = .ok (.iconst 0, 1) := by decide +kernel
theorem dX6_fits_26 : decode cX6_fits 26 = .ok (.ireturn, 1) := by decide +kernel
theorem dX6_fits_27 : decode cX6_fits 27 = .ok (.iconst 0, 1) := by decide +kernel
theorem dX6_fits_28 : decode cX6_fits 28 = .ok (.istore 4, 2) := by decide +kernel
theorem dX6_fits_30 : decode cX6_fits 30 = .ok (.iload 4, 2) := by decide +kernel
theorem dX6_fits_32 : decode cX6_fits 32 = .ok (.aload_n 0, 1) := by decide +kernel
theorem dX6_fits_33 : decode cX6_fits 33 = .ok (.getfield 62, 3) := by decide +kernel
theorem dX6_fits_36 : decode cX6_fits 36 = .ok (.iload_n 1, 1) := by decide +kernel
theorem dX6_fits_37 : decode cX6_fits 37 = .ok (.iaload, 1) := by decide +kernel
theorem dX6_fits_38 : decode cX6_fits 38 = .ok (.if_icmp .ge 100, 3) := by decide +kernel
theorem dX6_fits_41 : decode cX6_fits 41 = .ok (.aload_n 0, 1) := by decide +kernel
theorem dX6_fits_42 : decode cX6_fits 42 = .ok (.getfield 65, 3) := by decide +kernel
theorem dX6_fits_45 : decode cX6_fits 45 = .ok (.iconst 4, 1) := by decide +kernel
theorem dX6_fits_46 : decode cX6_fits 46 = .ok (.iload_n 1, 1) := by decide +kernel
theorem dX6_fits_47 : decode cX6_fits 47 = .ok (.imul, 1) := by decide +kernel
theorem dX6_fits_48 : decode cX6_fits 48 = .ok (.iload 4, 2) := by decide +kernel
theorem dX6_fits_50 : decode cX6_fits 50 = .ok (.iadd, 1) := by decide +kernel
theorem dX6_fits_51 : decode cX6_fits 51 = .ok (.iaload, 1) := by decide +kernel
theorem dX6_fits_52 : decode cX6_fits 52 = .ok (.istore 5, 2) := by decide +kernel
theorem dX6_fits_54 : decode cX6_fits 54 = .ok (.aload_n 0, 1) := by decide +kernel
theorem dX6_fits_55 : decode cX6_fits 55 = .ok (.getfield 84, 3) := by decide +kernel
theorem dX6_fits_58 : decode cX6_fits 58 = .ok (.iload_n 2, 1) := by decide +kernel
theorem dX6_fits_59 : decode cX6_fits 59 = .ok (.iload 4, 2) := by decide +kernel
theorem dX6_fits_61 : decode cX6_fits 61 = .ok (.iadd, 1) := by decide +kernel
theorem dX6_fits_62 : decode cX6_fits 62 = .ok (.iaload, 1) := by decide +kernel
theorem dX6_fits_63 : decode cX6_fits 63 = .ok (.istore 6, 2) := by decide +kernel
theorem dX6_fits_65 : decode cX6_fits 65 = .ok (.aload_n 0, 1) := by decide +kernel
theorem dX6_fits_66 : decode cX6_fits 66 = .ok (.getfield 50, 3) := by decide +kernel
theorem dX6_fits_69 : decode cX6_fits 69 = .ok (.bipush 64, 2) := by decide +kernel
theorem dX6_fits_71 : decode cX6_fits 71 = .ok (.iload_n 3, 1) := by decide +kernel
theorem dX6_fits_72 : decode cX6_fits 72 = .ok (.imul, 1) := by decide +kernel
theorem dX6_fits_73 : decode cX6_fits 73 = .ok (.iload 6, 2) := by decide +kernel
theorem dX6_fits_75 : decode cX6_fits 75 = .ok (.iadd, 1) := by decide +kernel
theorem dX6_fits_76 : decode cX6_fits 76 = .ok (.iaload, 1) := by decide +kernel
theorem dX6_fits_77 : decode cX6_fits 77 = .ok (.istore 7, 2) := by decide +kernel
theorem dX6_fits_79 : decode cX6_fits 79 = .ok (.iload 5, 2) := by decide +kernel
end
section
theorem dX6_fits_81 : decode cX6_fits 81 = .ok (.ifCond .ne 19, 3) := by decide +kernel
theorem dX6_fits_84 : decode cX6_fits 84 = .ok (.aload_n 0, 1) := by decide +kernel
theorem dX6_fits_85 : decode cX6_fits 85 = .ok (.getfield 68, 3) := by decide +kernel
theorem dX6_fits_88 : decode cX6_fits 88 = .ok (.iconst 4, 1) := by decide +kernel
theorem dX6_fits_89 : decode cX6_fits 89 = .ok (.iload_n 1, 1) := by decide +kernel
theorem dX6_fits_90 : decode cX6_fits 90 = .ok (.imul, 1) := by decide +kernel
theorem dX6_fits_91 : decode cX6_fits 91 = .ok (.iload 4, 2) := by decide +kernel
theorem dX6_fits_93 : decode cX6_fits 93 = .ok (.iadd, 1) := by decide +kernel
theorem dX6_fits_94 : decode cX6_fits 94 = .ok (.iaload, 1) := by decide +kernel
theorem dX6_fits_95 : decode cX6_fits 95 = .ok (.iload 6, 2) := by decide +kernel
theorem dX6_fits_97 : decode cX6_fits 97 = .ok (.if_icmp .ne 33, 3) := by decide +kernel
theorem dX6_fits_100 : decode cX6_fits 100 = .ok (.iload 5, 2) := by decide +kernel
theorem dX6_fits_102 : decode cX6_fits 102 = .ok (.iconst 1, 1) := by decide +kernel
theorem dX6_fits_103 : decode cX6_fits 103 = .ok (.if_icmp .ne 29, 3) := by decide +kernel
theorem dX6_fits_106 : decode cX6_fits 106 = .ok (.iload 7, 2) := by decide +kernel
theorem dX6_fits_108 : decode cX6_fits 108 = .ok (.iconst (-1), 1) := by decide +kernel
theorem dX6_fits_109 : decode cX6_fits 109 = .ok (.if_icmp .eq 21, 3) := by decide +kernel
theorem dX6_fits_112 : decode cX6_fits 112 = .ok (.iload 7, 2) := by decide +kernel
theorem dX6_fits_114 : decode cX6_fits 114 = .ok (.iconst 4, 1) := by decide +kernel
theorem dX6_fits_115 : decode cX6_fits 115 = .ok (.idiv, 1) := by decide +kernel
theorem dX6_fits_116 : decode cX6_fits 116 = .ok (.aload_n 0, 1) := by decide +kernel
theorem dX6_fits_117 : decode cX6_fits 117 = .ok (.getfield 68, 3) := by decide +kernel
theorem dX6_fits_120 : decode cX6_fits 120 = .ok (.iconst 4, 1) := by decide +kernel
theorem dX6_fits_121 : decode cX6_fits 121 = .ok (.iload_n 1, 1) := by decide +kernel
theorem dX6_fits_122 : decode cX6_fits 122 = .ok (.imul, 1) := by decide +kernel
theorem dX6_fits_123 : decode cX6_fits 123 = .ok (.iload 4, 2) := by decide +kernel
theorem dX6_fits_125 : decode cX6_fits 125 = .ok (.iadd, 1) := by decide +kernel
theorem dX6_fits_126 : decode cX6_fits 126 = .ok (.iaload, 1) := by decide +kernel
theorem dX6_fits_127 : decode cX6_fits 127 = .ok (.if_icmp .eq 5, 3) := by decide +kernel
theorem dX6_fits_130 : decode cX6_fits 130 = .ok (.iconst 0, 1) := by decide +kernel
theorem dX6_fits_131 : decode cX6_fits 131 = .ok (.ireturn, 1) := by decide +kernel
theorem dX6_fits_132 : decode cX6_fits 132 = .ok (.iinc 4 1, 3) := by decide +kernel
theorem dX6_fits_135 : decode cX6_fits 135 = .ok (.goto (-105), 3) := by decide +kernel
theorem dX6_fits_138 : decode cX6_fits 138 = .ok (.iconst 1, 1) := by decide +kernel
theorem dX6_fits_139 : decode cX6_fits 139 = .ok (.ireturn, 1) := by decide +kernel
theorem dX6_isLeast_0 : decode cX6_isLeast 0 = .ok (.aload_n 0, 1) := by decide +kernel
theorem dX6_isLeast_1 : decode cX6_isLeast 1 = .ok (.iload_n 1, 1) := by decide +kernel
theorem dX6_isLeast_2 : decode cX6_isLeast 2 = .ok (.iload_n 2, 1) := by decide +kernel
theorem dX6_isLeast_3 : decode cX6_isLeast 3 = .ok (.iload_n 3, 1) := by decide +kernel
theorem dX6_isLeast_4 : decode cX6_isLeast 4 = .ok (.invokevirtual 162, 3) := by decide +kernel
theorem dX6_isLeast_7 : decode cX6_isLeast 7 = .ok (.ifCond .eq 36, 3) := by decide +kernel
theorem dX6_isLeast_10 : decode cX6_isLeast 10 = .ok (.aload_n 0, 1) := by decide +kernel
theorem dX6_isLeast_11 : decode cX6_isLeast 11 = .ok (.getfield 56, 3) := by decide +kernel
theorem dX6_isLeast_14 : decode cX6_isLeast 14 = .ok (.iload_n 1, 1) := by decide +kernel
theorem dX6_isLeast_15 : decode cX6_isLeast 15 = .ok (.iaload, 1) := by decide +kernel
theorem dX6_isLeast_16 : decode cX6_isLeast 16 = .ok (.aload_n 0, 1) := by decide +kernel
theorem dX6_isLeast_17 : decode cX6_isLeast 17 = .ok (.getfield 87, 3) := by decide +kernel
theorem dX6_isLeast_20 : decode cX6_isLeast 20 = .ok (.iload_n 2, 1) := by decide +kernel
theorem dX6_isLeast_21 : decode cX6_isLeast 21 = .ok (.aload_n 0, 1) := by decide +kernel
theorem dX6_isLeast_22 : decode cX6_isLeast 22 = .ok (.getfield 62, 3) := by decide +kernel
theorem dX6_isLeast_25 : decode cX6_isLeast 25 = .ok (.iload_n 1, 1) := by decide +kernel
theorem dX6_isLeast_26 : decode cX6_isLeast 26 = .ok (.iaload, 1) := by decide +kernel
theorem dX6_isLeast_27 : decode cX6_isLeast 27 = .ok (.iadd, 1) := by decide +kernel
theorem dX6_isLeast_28 : decode cX6_isLeast 28 = .ok (.iaload, 1) := by decide +kernel
theorem dX6_isLeast_29 : decode cX6_isLeast 29 = .ok (.iadd, 1) := by decide +kernel
theorem dX6_isLeast_30 : decode cX6_isLeast 30 = .ok (.aload_n 0, 1) := by decide +kernel
theorem dX6_isLeast_31 : decode cX6_isLeast 31 = .ok (.getfield 87, 3) := by decide +kernel
theorem dX6_isLeast_34 : decode cX6_isLeast 34 = .ok (.iload_n 2, 1) := by decide +kernel
theorem dX6_isLeast_35 : decode cX6_isLeast 35 = .ok (.iaload, 1) := by decide +kernel
theorem dX6_isLeast_36 : decode cX6_isLeast 36 = .ok (.if_icmp .ne 7, 3) := by decide +kernel
theorem dX6_isLeast_39 : decode cX6_isLeast 39 = .ok (.iconst 1, 1) := by decide +kernel
theorem dX6_isLeast_40 : decode cX6_isLeast 40 = .ok (.goto 4, 3) := by decide +kernel
theorem dX6_isLeast_43 : decode cX6_isLeast 43 = .ok (.iconst 0, 1) := by decide +kernel
theorem dX6_isLeast_44 : decode cX6_isLeast 44 = .ok (.ireturn, 1) := by decide +kernel
theorem dX6_mayPass_0 : decode cX6_mayPass 0 = .ok (.aload_n 0, 1) := by decide +kernel
theorem dX6_mayPass_1 : decode cX6_mayPass 1 = .ok (.getfield 87, 3) := by decide +kernel
theorem dX6_mayPass_4 : decode cX6_mayPass 4 = .ok (.iload_n 1, 1) := by decide +kernel
theorem dX6_mayPass_5 : decode cX6_mayPass 5 = .ok (.iconst 1, 1) := by decide +kernel
theorem dX6_mayPass_6 : decode cX6_mayPass 6 = .ok (.iadd, 1) := by decide +kernel
theorem dX6_mayPass_7 : decode cX6_mayPass 7 = .ok (.iaload, 1) := by decide +kernel
theorem dX6_mayPass_8 : decode cX6_mayPass 8 = .ok (.bipush 6, 2) := by decide +kernel
theorem dX6_mayPass_10 : decode cX6_mayPass 10 = .ok (.iadd, 1) := by decide +kernel
theorem dX6_mayPass_11 : decode cX6_mayPass 11 = .ok (.aload_n 0, 1) := by decide +kernel
theorem dX6_mayPass_12 : decode cX6_mayPass 12 = .ok (.getfield 87, 3) := by decide +kernel
theorem dX6_mayPass_15 : decode cX6_mayPass 15 = .ok (.iload_n 1, 1) := by decide +kernel
theorem dX6_mayPass_16 : decode cX6_mayPass 16 = .ok (.iaload, 1) := by decide +kernel
theorem dX6_mayPass_17 : decode cX6_mayPass 17 = .ok (.if_icmp .ne 7, 3) := by decide +kernel
theorem dX6_mayPass_20 : decode cX6_mayPass 20 = .ok (.iconst 1, 1) := by decide +kernel
theorem dX6_mayPass_21 : decode cX6_mayPass 21 = .ok (.goto 4, 3) := by decide +kernel
theorem dX6_mayPass_24 : decode cX6_mayPass 24 = .ok (.iconst 0, 1) := by decide +kernel
theorem dX6_mayPass_25 : decode cX6_mayPass 25 = .ok (.ireturn, 1) := by decide +kernel
theorem dX6_work_0 : decode cX6_work 0 = .ok (.aload_n 0, 1) := by decide +kernel
theorem dX6_work_1 : decode cX6_work 1 = .ok (.getfield 87, 3) := by decide +kernel
theorem dX6_work_4 : decode cX6_work 4 = .ok (.aload_n 0, 1) := by decide +kernel
theorem dX6_work_5 : decode cX6_work 5 = .ok (.getfield 159, 3) := by decide +kernel
theorem dX6_work_8 : decode cX6_work 8 = .ok (.iconst 0, 1) := by decide +kernel
theorem dX6_work_9 : decode cX6_work 9 = .ok (.iastore, 1) := by decide +kernel
theorem dX6_work_10 : decode cX6_work 10 = .ok (.aload_n 0, 1) := by decide +kernel
theorem dX6_work_11 : decode cX6_work 11 = .ok (.getfield 90, 3) := by decide +kernel
theorem dX6_work_14 : decode cX6_work 14 = .ok (.aload_n 0, 1) := by decide +kernel
theorem dX6_work_15 : decode cX6_work 15 = .ok (.getfield 159, 3) := by decide +kernel
theorem dX6_work_18 : decode cX6_work 18 = .ok (.iconst 1, 1) := by decide +kernel
theorem dX6_work_19 : decode cX6_work 19 = .ok (.iastore, 1) := by decide +kernel
theorem dX6_work_20 : decode cX6_work 20 = .ok (.aload_n 0, 1) := by decide +kernel
theorem dX6_work_21 : decode cX6_work 21 = .ok (.getfield 93, 3) := by decide +kernel
theorem dX6_work_24 : decode cX6_work 24 = .ok (.aload_n 0, 1) := by decide +kernel
theorem dX6_work_25 : decode cX6_work 25 = .ok (.getfield 159, 3) := by decide +kernel
theorem dX6_work_28 : decode cX6_work 28 = .ok (.iconst 0, 1) := by decide +kernel
theorem dX6_work_29 : decode cX6_work 29 = .ok (.iastore, 1) := by decide +kernel
theorem dX6_work_30 : decode cX6_work 30 = .ok (.aload_n 0, 1) := by decide +kernel
theorem dX6_work_31 : decode cX6_work 31 = .ok (.getfield 96, 3) := by decide +kernel
theorem dX6_work_34 : decode cX6_work 34 = .ok (.aload_n 0, 1) := by decide +kernel
theorem dX6_work_35 : decode cX6_work 35 = .ok (.getfield 159, 3) := by decide +kernel
theorem dX6_work_38 : decode cX6_work 38 = .ok (.iconst 0, 1) := by decide +kernel
theorem dX6_work_39 : decode cX6_work 39 = .ok (.bastore, 1) := by decide +kernel
theorem dX6_work_40 : decode cX6_work 40 = .ok (.aload_n 0, 1) := by decide +kernel
theorem dX6_work_41 : decode cX6_work 41 = .ok (.getfield 159, 3) := by decide +kernel
theorem dX6_work_44 : decode cX6_work 44 = .ok (.iconst 1, 1) := by decide +kernel
theorem dX6_work_45 : decode cX6_work 45 = .ok (.isub, 1) := by decide +kernel
theorem dX6_work_46 : decode cX6_work 46 = .ok (.istore_n 2, 1) := by decide +kernel
theorem dX6_work_47 : decode cX6_work 47 = .ok (.iload_n 2, 1) := by decide +kernel
theorem dX6_work_48 : decode cX6_work 48 = .ok (.ifCond .lt 319, 3) := by decide +kernel
theorem dX6_work_51 : decode cX6_work 51 = .ok (.aload_n 0, 1) := by decide +kernel
theorem dX6_work_52 : decode cX6_work 52 = .ok (.getfield 87, 3) := by decide +kernel
theorem dX6_work_55 : decode cX6_work 55 = .ok (.iload_n 2, 1) := by decide +kernel
theorem dX6_work_56 : decode cX6_work 56 = .ok (.aload_n 0, 1) := by decide +kernel
theorem dX6_work_57 : decode cX6_work 57 = .ok (.getfield 87, 3) := by decide +kernel
theorem dX6_work_60 : decode cX6_work 60 = .ok (.iload_n 2, 1) := by decide +kernel
theorem dX6_work_61 : decode cX6_work 61 = .ok (.iconst 1, 1) := by decide +kernel
theorem dX6_work_62 : decode cX6_work 62 = .ok (.iadd, 1) := by decide +kernel
theorem dX6_work_63 : decode cX6_work 63 = .ok (.iaload, 1) := by decide +kernel
theorem dX6_work_64 : decode cX6_work 64 = .ok (.bipush 6, 2) := by decide +kernel
theorem dX6_work_66 : decode cX6_work 66 = .ok (.iadd, 1) := by decide +kernel
theorem dX6_work_67 : decode cX6_work 67 = .ok (.iastore, 1) := by decide +kernel
theorem dX6_work_68 : decode cX6_work 68 = .ok (.iconst 0, 1) := by decide +kernel
theorem dX6_work_69 : decode cX6_work 69 = .ok (.istore_n 3, 1) := by decide +kernel
theorem dX6_work_70 : decode cX6_work 70 = .ok (.iload_n 3, 1) := by decide +kernel
theorem dX6_work_71 : decode cX6_work 71 = .ok (.aload_n 0, 1) := by decide +kernel
theorem dX6_work_72 : decode cX6_work 72 = .ok (.getfield 146, 3) := by decide +kernel
theorem dX6_work_75 : decode cX6_work 75 = .ok (.if_icmp .ge 74, 3) := by decide +kernel
theorem dX6_work_78 : decode cX6_work 78 = .ok (.aload_n 0, 1) := by decide +kernel
theorem dX6_work_79 : decode cX6_work 79 = .ok (.iload_n 3, 1) := by decide +kernel
theorem dX6_work_80 : decode cX6_work 80 = .ok (.iload_n 2, 1) := by decide +kernel
theorem dX6_work_81 : decode cX6_work 81 = .ok (.iload_n 1, 1) := by decide +kernel
theorem dX6_work_82 : decode cX6_work 82 = .ok (.invokevirtual 162, 3) := by decide +kernel
theorem dX6_work_85 : decode cX6_work 85 = .ok (.ifCond .eq 58, 3) := by decide +kernel
theorem dX6_work_88 : decode cX6_work 88 = .ok (.aload_n 0, 1) := by decide +kernel
theorem dX6_work_89 : decode cX6_work 89 = .ok (.getfield 56, 3) := by decide +kernel
theorem dX6_work_92 : decode cX6_work 92 = .ok (.iload_n 3, 1) := by decide +kernel
theorem dX6_work_93 : decode cX6_work 93 = .ok (.iaload, 1) := by decide +kernel
theorem dX6_work_94 : decode cX6_work 94 = .ok (.aload_n 0, 1) := by decide +kernel
theorem dX6_work_95 : decode cX6_work 95 = .ok (.getfield 87, 3) := by decide +kernel
theorem dX6_work_98 : decode cX6_work 98 = .ok (.iload_n 2, 1) := by decide +kernel
theorem dX6_work_99 : decode cX6_work 99 = .ok (.aload_n 0, 1) := by decide +kernel
theorem dX6_work_100 : decode cX6_work 100 = .ok (.getfield 62, 3) := by decide +kernel
theorem dX6_work_103 : decode cX6_work 103 = .ok (.iload_n 3, 1) := by decide +kernel
theorem dX6_work_104 : decode cX6_work 104 = .ok (.iaload, 1) := by decide +kernel
theorem dX6_work_105 : decode cX6_work 105 = .ok (.iadd, 1) := by decide +kernel
theorem dX6_work_106 : decode cX6_work 106 = .ok (.iaload, 1) := by decide +kernel
theorem dX6_work_107 : decode cX6_work 107 = .ok (.iadd, 1) := by decide +kernel
theorem dX6_work_108 : decode cX6_work 108 = .ok (.aload_n 0, 1) := by decide +kernel
theorem dX6_work_109 : decode cX6_work 109 = .ok (.getfield 87, 3) := by decide +kernel
theorem dX6_work_112 : decode cX6_work 112 = .ok (.iload_n 2, 1) := by decide +kernel
theorem dX6_work_113 : decode cX6_work 113 = .ok (.iaload, 1) := by decide +kernel
theorem dX6_work_114 : decode cX6_work 114 = .ok (.if_icmp .ge 29, 3) := by decide +kernel
theorem dX6_work_117 : decode cX6_work 117 = .ok (.aload_n 0, 1) := by decide +kernel
theorem dX6_work_118 : decode cX6_work 118 = .ok (.getfield 87, 3) := by decide +kernel
theorem dX6_work_121 : decode cX6_work 121 = .ok (.iload_n 2, 1) := by decide +kernel
theorem dX6_work_122 : decode cX6_work 122 = .ok (.aload_n 0, 1) := by decide +kernel
theorem dX6_work_123 : decode cX6_work 123 = .ok (.getfield 56, 3) := by decide +kernel
theorem dX6_work_126 : decode cX6_work 126 = .ok (.iload_n 3, 1) := by decide +kernel
theorem dX6_work_127 : decode cX6_work 127 = .ok (.iaload, 1) := by decide +kernel
theorem dX6_work_128 : decode cX6_work 128 = .ok (.aload_n 0, 1) := by decide +kernel
theorem dX6_work_129 : decode cX6_work 129 = .ok (.getfield 87, 3) := by decide +kernel
theorem dX6_work_132 : decode cX6_work 132 = .ok (.iload_n 2, 1) := by decide +kernel
theorem dX6_work_133 : decode cX6_work 133 = .ok (.aload_n 0, 1) := by decide +kernel
theorem dX6_work_134 : decode cX6_work 134 = .ok (.getfield 62, 3) := by decide +kernel
theorem dX6_work_137 : decode cX6_work 137 = .ok (.iload_n 3, 1) := by decide +kernel
theorem dX6_work_138 : decode cX6_work 138 = .ok (.iaload, 1) := by decide +kernel
theorem dX6_work_139 : decode cX6_work 139 = .ok (.iadd, 1) := by decide +kernel
theorem dX6_work_140 : decode cX6_work 140 = .ok (.iaload, 1) := by decide +kernel
theorem dX6_work_141 : decode cX6_work 141 = .ok (.iadd, 1) := by decide +kernel
theorem dX6_work_142 : decode cX6_work 142 = .ok (.iastore, 1) := by decide +kernel
theorem dX6_work_143 : decode cX6_work 143 = .ok (.iinc 3 1, 3) := by decide +kernel
theorem dX6_work_146 : decode cX6_work 146 = .ok (.goto (-76), 3) := by decide +kernel
theorem dX6_work_149 : decode cX6_work 149 = .ok (.aload_n 0, 1) := by decide +kernel
theorem dX6_work_150 : decode cX6_work 150 = .ok (.getfield 90, 3) := by decide +kernel
theorem dX6_work_153 : decode cX6_work 153 = .ok (.iload_n 2, 1) := by decide +kernel
theorem dX6_work_154 : decode cX6_work 154 = .ok (.aload_n 0, 1) := by decide +kernel
theorem dX6_work_155 : decode cX6_work 155 = .ok (.iload_n 2, 1) := by decide +kernel
theorem dX6_work_156 : decode cX6_work 156 = .ok (.invokevirtual 165, 3) := by decide +kernel
theorem dX6_work_159 : decode cX6_work 159 = .ok (.ifCond .eq 14, 3) := by decide +kernel
theorem dX6_work_162 : decode cX6_work 162 = .ok (.aload_n 0, 1) := by decide +kernel
theorem dX6_work_163 : decode cX6_work 163 = .ok (.getfield 90, 3) := by decide +kernel
theorem dX6_work_166 : decode cX6_work 166 = .ok (.iload_n 2, 1) := by decide +kernel
theorem dX6_work_167 : decode cX6_work 167 = .ok (.iconst 1, 1) := by decide +kernel
theorem dX6_work_168 : decode cX6_work 168 = .ok (.iadd, 1) := by decide +kernel
theorem dX6_work_169 : decode cX6_work 169 = .ok (.iaload, 1) := by decide +kernel
theorem dX6_work_170 : decode cX6_work 170 = .ok (.goto 4, 3) := by decide +kernel
theorem dX6_work_173 : decode cX6_work 173 = .ok (.iconst 0, 1) := by decide +kernel
theorem dX6_work_174 : decode cX6_work 174 = .ok (.iastore, 1) := by decide +kernel
theorem dX6_work_175 : decode cX6_work 175 = .ok (.aload_n 0, 1) := by decide +kernel
theorem dX6_work_176 : decode cX6_work 176 = .ok (.getfield 93, 3) := by decide +kernel
theorem dX6_work_179 : decode cX6_work 179 = .ok (.iload_n 2, 1) := by decide +kernel
theorem dX6_work_180 : decode cX6_work 180 = .ok (.aload_n 0, 1) := by decide +kernel
theorem dX6_work_181 : decode cX6_work 181 = .ok (.iload_n 2, 1) := by decide +kernel
theorem dX6_work_182 : decode cX6_work 182 = .ok (.invokevirtual 165, 3) := by decide +kernel
theorem dX6_work_185 : decode cX6_work 185 = .ok (.ifCond .eq 16, 3) := by decide +kernel
theorem dX6_work_188 : decode cX6_work 188 = .ok (.aload_n 0, 1) := by decide +kernel
theorem dX6_work_189 : decode cX6_work 189 = .ok (.getfield 93, 3) := by decide +kernel
theorem dX6_work_192 : decode cX6_work 192 = .ok (.iload_n 2, 1) := by decide +kernel
theorem dX6_work_193 : decode cX6_work 193 = .ok (.iconst 1, 1) := by decide +kernel
theorem dX6_work_194 : decode cX6_work 194 = .ok (.iadd, 1) := by decide +kernel
theorem dX6_work_195 : decode cX6_work 195 = .ok (.iaload, 1) := by decide +kernel
theorem dX6_work_196 : decode cX6_work 196 = .ok (.iconst 1, 1) := by decide +kernel
theorem dX6_work_197 : decode cX6_work 197 = .ok (.iadd, 1) := by decide +kernel
theorem dX6_work_198 : decode cX6_work 198 = .ok (.goto 4, 3) := by decide +kernel
theorem dX6_work_201 : decode cX6_work 201 = .ok (.iconst 0, 1) := by decide +kernel
theorem dX6_work_202 : decode cX6_work 202 = .ok (.iastore, 1) := by decide +kernel
theorem dX6_work_203 : decode cX6_work 203 = .ok (.aload_n 0, 1) := by decide +kernel
theorem dX6_work_204 : decode cX6_work 204 = .ok (.getfield 96, 3) := by decide +kernel
theorem dX6_work_207 : decode cX6_work 207 = .ok (.iload_n 2, 1) := by decide +kernel
theorem dX6_work_208 : decode cX6_work 208 = .ok (.aload_n 0, 1) := by decide +kernel
theorem dX6_work_209 : decode cX6_work 209 = .ok (.iload_n 2, 1) := by decide +kernel
theorem dX6_work_210 : decode cX6_work 210 = .ok (.invokevirtual 165, 3) := by decide +kernel
theorem dX6_work_213 : decode cX6_work 213 = .ok (.ifCond .eq 18, 3) := by decide +kernel
theorem dX6_work_216 : decode cX6_work 216 = .ok (.aload_n 0, 1) := by decide +kernel
theorem dX6_work_217 : decode cX6_work 217 = .ok (.getfield 96, 3) := by decide +kernel
theorem dX6_work_220 : decode cX6_work 220 = .ok (.iload_n 2, 1) := by decide +kernel
theorem dX6_work_221 : decode cX6_work 221 = .ok (.iconst 1, 1) := by decide +kernel
theorem dX6_work_222 : decode cX6_work 222 = .ok (.iadd, 1) := by decide +kernel
theorem dX6_work_223 : decode cX6_work 223 = .ok (.baload, 1) := by decide +kernel
theorem dX6_work_224 : decode cX6_work 224 = .ok (.ifCond .eq 7, 3) := by decide +kernel
theorem dX6_work_227 : decode cX6_work 227 = .ok (.iconst 1, 1) := by decide +kernel
theorem dX6_work_228 : decode cX6_work 228 = .ok (.goto 4, 3) := by decide +kernel
theorem dX6_work_231 : decode cX6_work 231 = .ok (.iconst 0, 1) := by decide +kernel
theorem dX6_work_232 : decode cX6_work 232 = .ok (.bastore, 1) := by decide +kernel
theorem dX6_work_233 : decode cX6_work 233 = .ok (.iconst 0, 1) := by decide +kernel
theorem dX6_work_234 : decode cX6_work 234 = .ok (.istore_n 3, 1) := by decide +kernel
theorem dX6_work_235 : decode cX6_work 235 = .ok (.iload_n 3, 1) := by decide +kernel
theorem dX6_work_236 : decode cX6_work 236 = .ok (.aload_n 0, 1) := by decide +kernel
theorem dX6_work_237 : decode cX6_work 237 = .ok (.getfield 146, 3) := by decide +kernel
theorem dX6_work_240 : decode cX6_work 240 = .ok (.if_icmp .ge 121, 3) := by decide +kernel
theorem dX6_work_243 : decode cX6_work 243 = .ok (.aload_n 0, 1) := by decide +kernel
theorem dX6_work_244 : decode cX6_work 244 = .ok (.iload_n 3, 1) := by decide +kernel
theorem dX6_work_245 : decode cX6_work 245 = .ok (.iload_n 2, 1) := by decide +kernel
theorem dX6_work_246 : decode cX6_work 246 = .ok (.iload_n 1, 1) := by decide +kernel
theorem dX6_work_247 : decode cX6_work 247 = .ok (.invokevirtual 168, 3) := by decide +kernel
theorem dX6_work_250 : decode cX6_work 250 = .ok (.ifCond .ne 6, 3) := by decide +kernel
theorem dX6_work_253 : decode cX6_work 253 = .ok (.goto 102, 3) := by decide +kernel
theorem dX6_work_256 : decode cX6_work 256 = .ok (.iload_n 2, 1) := by decide +kernel
theorem dX6_work_257 : decode cX6_work 257 = .ok (.aload_n 0, 1) := by decide +kernel
theorem dX6_work_258 : decode cX6_work 258 = .ok (.getfield 62, 3) := by decide +kernel
theorem dX6_work_261 : decode cX6_work 261 = .ok (.iload_n 3, 1) := by decide +kernel
theorem dX6_work_262 : decode cX6_work 262 = .ok (.iaload, 1) := by decide +kernel
theorem dX6_work_263 : decode cX6_work 263 = .ok (.iadd, 1) := by decide +kernel
theorem dX6_work_264 : decode cX6_work 264 = .ok (.istore 4, 2) := by decide +kernel
theorem dX6_work_266 : decode cX6_work 266 = .ok (.aload_n 0, 1) := by decide +kernel
theorem dX6_work_267 : decode cX6_work 267 = .ok (.getfield 90, 3) := by decide +kernel
theorem dX6_work_270 : decode cX6_work 270 = .ok (.iload_n 2, 1) := by decide +kernel
theorem dX6_work_271 : decode cX6_work 271 = .ok (.dup2, 1) := by decide +kernel
theorem dX6_work_272 : decode cX6_work 272 = .ok (.iaload, 1) := by decide +kernel
theorem dX6_work_273 : decode cX6_work 273 = .ok (.aload_n 0, 1) := by decide +kernel
theorem dX6_work_274 : decode cX6_work 274 = .ok (.getfield 90, 3) := by decide +kernel
theorem dX6_work_277 : decode cX6_work 277 = .ok (.iload 4, 2) := by decide +kernel
theorem dX6_work_279 : decode cX6_work 279 = .ok (.iaload, 1) := by decide +kernel
theorem dX6_work_280 : decode cX6_work 280 = .ok (.iadd, 1) := by decide +kernel
theorem dX6_work_281 : decode cX6_work 281 = .ok (.iastore, 1) := by decide +kernel
theorem dX6_work_282 : decode cX6_work 282 = .ok (.aload_n 0, 1) := by decide +kernel
theorem dX6_work_283 : decode cX6_work 283 = .ok (.getfield 90, 3) := by decide +kernel
theorem dX6_work_286 : decode cX6_work 286 = .ok (.iload_n 2, 1) := by decide +kernel
theorem dX6_work_287 : decode cX6_work 287 = .ok (.aload_n 0, 1) := by decide +kernel
theorem dX6_work_288 : decode cX6_work 288 = .ok (.getfield 90, 3) := by decide +kernel
theorem dX6_work_291 : decode cX6_work 291 = .ok (.iload_n 2, 1) := by decide +kernel
theorem dX6_work_292 : decode cX6_work 292 = .ok (.iaload, 1) := by decide +kernel
theorem dX6_work_293 : decode cX6_work 293 = .ok (.ldc 171, 2) := by decide +kernel
theorem dX6_work_295 : decode cX6_work 295 = .ok (.if_icmp .le 8, 3) := by decide +kernel
theorem dX6_work_298 : decode cX6_work 298 = .ok (.ldc 171, 2) := by decide +kernel
theorem dX6_work_300 : decode cX6_work 300 = .ok (.goto 9, 3) := by decide +kernel
theorem dX6_work_303 : decode cX6_work 303 = .ok (.aload_n 0, 1) := by decide +kernel
theorem dX6_work_304 : decode cX6_work 304 = .ok (.getfield 90, 3) := by decide +kernel
theorem dX6_work_307 : decode cX6_work 307 = .ok (.iload_n 2, 1) := by decide +kernel
theorem dX6_work_308 : decode cX6_work 308 = .ok (.iaload, 1) := by decide +kernel
theorem dX6_work_309 : decode cX6_work 309 = .ok (.iastore, 1) := by decide +kernel
theorem dX6_work_310 : decode cX6_work 310 = .ok (.aload_n 0, 1) := by decide +kernel
theorem dX6_work_311 : decode cX6_work 311 = .ok (.getfield 93, 3) := by decide +kernel
theorem dX6_work_314 : decode cX6_work 314 = .ok (.iload_n 2, 1) := by decide +kernel
theorem dX6_work_315 : decode cX6_work 315 = .ok (.aload_n 0, 1) := by decide +kernel
theorem dX6_work_316 : decode cX6_work 316 = .ok (.getfield 93, 3) := by decide +kernel
theorem dX6_work_319 : decode cX6_work 319 = .ok (.iload 4, 2) := by decide +kernel
theorem dX6_work_321 : decode cX6_work 321 = .ok (.iaload, 1) := by decide +kernel
theorem dX6_work_322 : decode cX6_work 322 = .ok (.aload_n 0, 1) := by decide +kernel
theorem dX6_work_323 : decode cX6_work 323 = .ok (.getfield 93, 3) := by decide +kernel
theorem dX6_work_326 : decode cX6_work 326 = .ok (.iload_n 2, 1) := by decide +kernel
theorem dX6_work_327 : decode cX6_work 327 = .ok (.iaload, 1) := by decide +kernel
theorem dX6_work_328 : decode cX6_work 328 = .ok (.if_icmp .le 13, 3) := by decide +kernel
theorem dX6_work_331 : decode cX6_work 331 = .ok (.aload_n 0, 1) := by decide +kernel
theorem dX6_work_332 : decode cX6_work 332 = .ok (.getfield 93, 3) := by decide +kernel
theorem dX6_work_335 : decode cX6_work 335 = .ok (.iload 4, 2) := by decide +kernel
theorem dX6_work_337 : decode cX6_work 337 = .ok (.iaload, 1) := by decide +kernel
theorem dX6_work_338 : decode cX6_work 338 = .ok (.goto 9, 3) := by decide +kernel
theorem dX6_work_341 : decode cX6_work 341 = .ok (.aload_n 0, 1) := by decide +kernel
theorem dX6_work_342 : decode cX6_work 342 = .ok (.getfield 93, 3) := by decide +kernel
theorem dX6_work_345 : decode cX6_work 345 = .ok (.iload_n 2, 1) := by decide +kernel
theorem dX6_work_346 : decode cX6_work 346 = .ok (.iaload, 1) := by decide +kernel
theorem dX6_work_347 : decode cX6_work 347 = .ok (.iastore, 1) := by decide +kernel
theorem dX6_work_348 : decode cX6_work 348 = .ok (.aload_n 0, 1) := by decide +kernel
theorem dX6_work_349 : decode cX6_work 349 = .ok (.getfield 96, 3) := by decide +kernel
theorem dX6_work_352 : decode cX6_work 352 = .ok (.iload_n 2, 1) := by decide +kernel
theorem dX6_work_353 : decode cX6_work 353 = .ok (.iconst 1, 1) := by decide +kernel
theorem dX6_work_354 : decode cX6_work 354 = .ok (.bastore, 1) := by decide +kernel
theorem dX6_work_355 : decode cX6_work 355 = .ok (.iinc 3 1, 3) := by decide +kernel
theorem dX6_work_358 : decode cX6_work 358 = .ok (.goto (-123), 3) := by decide +kernel
theorem dX6_work_361 : decode cX6_work 361 = .ok (.iinc 2 (-1), 3) := by decide +kernel
theorem dX6_work_364 : decode cX6_work 364 = .ok (.goto (-317), 3) := by decide +kernel
theorem dX6_work_367 : decode cX6_work 367 = .ok (.return_, 1) := by decide +kernel
theorem dX6_filled_0 : decode cX6_filled 0 = .ok (.bipush 16, 2) := by decide +kernel
theorem dX6_filled_2 : decode cX6_filled 2 = .ok (.istore 6, 2) := by decide +kernel
theorem dX6_filled_4 : decode cX6_filled 4 = .ok (.iconst 0, 1) := by decide +kernel
theorem dX6_filled_5 : decode cX6_filled 5 = .ok (.istore 7, 2) := by decide +kernel
theorem dX6_filled_7 : decode cX6_filled 7 = .ok (.iload 7, 2) := by decide +kernel
theorem dX6_filled_9 : decode cX6_filled 9 = .ok (.aload_n 0, 1) := by decide +kernel
theorem dX6_filled_10 : decode cX6_filled 10 = .ok (.getfield 62, 3) := by decide +kernel
theorem dX6_filled_13 : decode cX6_filled 13 = .ok (.iload_n 1, 1) := by decide +kernel
theorem dX6_filled_14 : decode cX6_filled 14 = .ok (.iaload, 1) := by decide +kernel
theorem dX6_filled_15 : decode cX6_filled 15 = .ok (.if_icmp .ge 65, 3) := by decide +kernel
theorem dX6_filled_18 : decode cX6_filled 18 = .ok (.aload_n 0, 1) := by decide +kernel
theorem dX6_filled_19 : decode cX6_filled 19 = .ok (.getfield 65, 3) := by decide +kernel
theorem dX6_filled_22 : decode cX6_filled 22 = .ok (.iconst 4, 1) := by decide +kernel
theorem dX6_filled_23 : decode cX6_filled 23 = .ok (.iload_n 1, 1) := by decide +kernel
theorem dX6_filled_24 : decode cX6_filled 24 = .ok (.imul, 1) := by decide +kernel
theorem dX6_filled_25 : decode cX6_filled 25 = .ok (.iload 7, 2) := by decide +kernel
theorem dX6_filled_27 : decode cX6_filled 27 = .ok (.iadd, 1) := by decide +kernel
theorem dX6_filled_28 : decode cX6_filled 28 = .ok (.iaload, 1) := by decide +kernel
theorem dX6_filled_29 : decode cX6_filled 29 = .ok (.iconst 1, 1) := by decide +kernel
theorem dX6_filled_30 : decode cX6_filled 30 = .ok (.if_icmp .ne 44, 3) := by decide +kernel
theorem dX6_filled_33 : decode cX6_filled 33 = .ok (.aload_n 0, 1) := by decide +kernel
theorem dX6_filled_34 : decode cX6_filled 34 = .ok (.getfield 68, 3) := by decide +kernel
theorem dX6_filled_37 : decode cX6_filled 37 = .ok (.iconst 4, 1) := by decide +kernel
theorem dX6_filled_38 : decode cX6_filled 38 = .ok (.iload_n 1, 1) := by decide +kernel
theorem dX6_filled_39 : decode cX6_filled 39 = .ok (.imul, 1) := by decide +kernel
theorem dX6_filled_40 : decode cX6_filled 40 = .ok (.iload 7, 2) := by decide +kernel
theorem dX6_filled_42 : decode cX6_filled 42 = .ok (.iadd, 1) := by decide +kernel
theorem dX6_filled_43 : decode cX6_filled 43 = .ok (.iaload, 1) := by decide +kernel
theorem dX6_filled_44 : decode cX6_filled 44 = .ok (.iload 4, 2) := by decide +kernel
theorem dX6_filled_46 : decode cX6_filled 46 = .ok (.if_icmp .ne 28, 3) := by decide +kernel
theorem dX6_filled_49 : decode cX6_filled 49 = .ok (.iconst 1, 1) := by decide +kernel
theorem dX6_filled_50 : decode cX6_filled 50 = .ok (.aload_n 0, 1) := by decide +kernel
theorem dX6_filled_51 : decode cX6_filled 51 = .ok (.getfield 50, 3) := by decide +kernel
theorem dX6_filled_54 : decode cX6_filled 54 = .ok (.bipush 64, 2) := by decide +kernel
theorem dX6_filled_56 : decode cX6_filled 56 = .ok (.iload_n 3, 1) := by decide +kernel
theorem dX6_filled_57 : decode cX6_filled 57 = .ok (.imul, 1) := by decide +kernel
theorem dX6_filled_58 : decode cX6_filled 58 = .ok (.aload_n 0, 1) := by decide +kernel
theorem dX6_filled_59 : decode cX6_filled 59 = .ok (.getfield 84, 3) := by decide +kernel
theorem dX6_filled_62 : decode cX6_filled 62 = .ok (.iload_n 2, 1) := by decide +kernel
theorem dX6_filled_63 : decode cX6_filled 63 = .ok (.iload 7, 2) := by decide +kernel
theorem dX6_filled_65 : decode cX6_filled 65 = .ok (.iadd, 1) := by decide +kernel
theorem dX6_filled_66 : decode cX6_filled 66 = .ok (.iaload, 1) := by decide +kernel
theorem dX6_filled_67 : decode cX6_filled 67 = .ok (.iadd, 1) := by decide +kernel
theorem dX6_filled_68 : decode cX6_filled 68 = .ok (.iaload, 1) := by decide +kernel
theorem dX6_filled_69 : decode cX6_filled 69 = .ok (.iconst 4, 1) := by decide +kernel
theorem dX6_filled_70 : decode cX6_filled 70 = .ok (.irem, 1) := by decide +kernel
theorem dX6_filled_71 : decode cX6_filled 71 = .ok (.ishl, 1) := by decide +kernel
theorem dX6_filled_72 : decode cX6_filled 72 = .ok (.istore 6, 2) := by decide +kernel
theorem dX6_filled_74 : decode cX6_filled 74 = .ok (.iinc 7 1, 3) := by decide +kernel
theorem dX6_filled_77 : decode cX6_filled 77 = .ok (.goto (-70), 3) := by decide +kernel
theorem dX6_filled_80 : decode cX6_filled 80 = .ok (.iload 5, 2) := by decide +kernel
theorem dX6_filled_82 : decode cX6_filled 82 = .ok (.bipush 16, 2) := by decide +kernel
theorem dX6_filled_84 : decode cX6_filled 84 = .ok (.iand, 1) := by decide +kernel
theorem dX6_filled_85 : decode cX6_filled 85 = .ok (.ifCond .ne 8, 3) := by decide +kernel
theorem dX6_filled_88 : decode cX6_filled 88 = .ok (.iload 5, 2) := by decide +kernel
theorem dX6_filled_90 : decode cX6_filled 90 = .ok (.goto 11, 3) := by decide +kernel
theorem dX6_filled_93 : decode cX6_filled 93 = .ok (.iload 5, 2) := by decide +kernel
theorem dX6_filled_95 : decode cX6_filled 95 = .ok (.bipush (-17), 2) := by decide +kernel
theorem dX6_filled_97 : decode cX6_filled 97 = .ok (.iand, 1) := by decide +kernel
theorem dX6_filled_98 : decode cX6_filled 98 = .ok (.iload 6, 2) := by decide +kernel
theorem dX6_filled_100 : decode cX6_filled 100 = .ok (.ior, 1) := by decide +kernel
theorem dX6_filled_101 : decode cX6_filled 101 = .ok (.ireturn, 1) := by decide +kernel
theorem dX6_outcomes_0 : decode cX6_outcomes 0 = .ok (.aload_n 0, 1) := by decide +kernel
theorem dX6_outcomes_1 : decode cX6_outcomes 1 = .ok (.getfield 99, 3) := by decide +kernel
theorem dX6_outcomes_4 : decode cX6_outcomes 4 = .ok (.aload_n 0, 1) := by decide +kernel
theorem dX6_outcomes_5 : decode cX6_outcomes 5 = .ok (.getfield 159, 3) := by decide +kernel
theorem dX6_outcomes_8 : decode cX6_outcomes 8 = .ok (.bipush 16, 2) := by decide +kernel
theorem dX6_outcomes_10 : decode cX6_outcomes 10 = .ok (.iastore, 1) := by decide +kernel
theorem dX6_outcomes_11 : decode cX6_outcomes 11 = .ok (.aload_n 0, 1) := by decide +kernel
theorem dX6_outcomes_12 : decode cX6_outcomes 12 = .ok (.getfield 159, 3) := by decide +kernel
theorem dX6_outcomes_15 : decode cX6_outcomes 15 = .ok (.iconst 1, 1) := by decide +kernel
theorem dX6_outcomes_16 : decode cX6_outcomes 16 = .ok (.isub, 1) := by decide +kernel
theorem dX6_outcomes_17 : decode cX6_outcomes 17 = .ok (.istore_n 3, 1) := by decide +kernel
theorem dX6_outcomes_18 : decode cX6_outcomes 18 = .ok (.iload_n 3, 1) := by decide +kernel
theorem dX6_outcomes_19 : decode cX6_outcomes 19 = .ok (.ifCond .lt 96, 3) := by decide +kernel
theorem dX6_outcomes_22 : decode cX6_outcomes 22 = .ok (.aload_n 0, 1) := by decide +kernel
theorem dX6_outcomes_23 : decode cX6_outcomes 23 = .ok (.getfield 99, 3) := by decide +kernel
theorem dX6_outcomes_26 : decode cX6_outcomes 26 = .ok (.iload_n 3, 1) := by decide +kernel
theorem dX6_outcomes_27 : decode cX6_outcomes 27 = .ok (.aload_n 0, 1) := by decide +kernel
theorem dX6_outcomes_28 : decode cX6_outcomes 28 = .ok (.iload_n 3, 1) := by decide +kernel
theorem dX6_outcomes_29 : decode cX6_outcomes 29 = .ok (.invokevirtual 165, 3) := by decide +kernel
theorem dX6_outcomes_32 : decode cX6_outcomes 32 = .ok (.ifCond .eq 14, 3) := by decide +kernel
theorem dX6_outcomes_35 : decode cX6_outcomes 35 = .ok (.aload_n 0, 1) := by decide +kernel
theorem dX6_outcomes_36 : decode cX6_outcomes 36 = .ok (.getfield 99, 3) := by decide +kernel
theorem dX6_outcomes_39 : decode cX6_outcomes 39 = .ok (.iload_n 3, 1) := by decide +kernel
theorem dX6_outcomes_40 : decode cX6_outcomes 40 = .ok (.iconst 1, 1) := by decide +kernel
theorem dX6_outcomes_41 : decode cX6_outcomes 41 = .ok (.iadd, 1) := by decide +kernel
theorem dX6_outcomes_42 : decode cX6_outcomes 42 = .ok (.iaload, 1) := by decide +kernel
theorem dX6_outcomes_43 : decode cX6_outcomes 43 = .ok (.goto 4, 3) := by decide +kernel
theorem dX6_outcomes_46 : decode cX6_outcomes 46 = .ok (.iconst 0, 1) := by decide +kernel
theorem dX6_outcomes_47 : decode cX6_outcomes 47 = .ok (.iastore, 1) := by decide +kernel
theorem dX6_outcomes_48 : decode cX6_outcomes 48 = .ok (.iconst 0, 1) := by decide +kernel
theorem dX6_outcomes_49 : decode cX6_outcomes 49 = .ok (.istore 4, 2) := by decide +kernel
theorem dX6_outcomes_51 : decode cX6_outcomes 51 = .ok (.iload 4, 2) := by decide +kernel
theorem dX6_outcomes_53 : decode cX6_outcomes 53 = .ok (.aload_n 0, 1) := by decide +kernel
theorem dX6_outcomes_54 : decode cX6_outcomes 54 = .ok (.getfield 146, 3) := by decide +kernel
theorem dX6_outcomes_57 : decode cX6_outcomes 57 = .ok (.if_icmp .ge 52, 3) := by decide +kernel
theorem dX6_outcomes_60 : decode cX6_outcomes 60 = .ok (.aload_n 0, 1) := by decide +kernel
theorem dX6_outcomes_61 : decode cX6_outcomes 61 = .ok (.iload 4, 2) := by decide +kernel
theorem dX6_outcomes_63 : decode cX6_outcomes 63 = .ok (.iload_n 3, 1) := by decide +kernel
theorem dX6_outcomes_64 : decode cX6_outcomes 64 = .ok (.iload_n 1, 1) := by decide +kernel
theorem dX6_outcomes_65 : decode cX6_outcomes 65 = .ok (.invokevirtual 168, 3) := by decide +kernel
theorem dX6_outcomes_68 : decode cX6_outcomes 68 = .ok (.ifCond .eq 35, 3) := by decide +kernel
theorem dX6_outcomes_71 : decode cX6_outcomes 71 = .ok (.aload_n 0, 1) := by decide +kernel
theorem dX6_outcomes_72 : decode cX6_outcomes 72 = .ok (.getfield 99, 3) := by decide +kernel
theorem dX6_outcomes_75 : decode cX6_outcomes 75 = .ok (.iload_n 3, 1) := by decide +kernel
theorem dX6_outcomes_76 : decode cX6_outcomes 76 = .ok (.dup2, 1) := by decide +kernel
theorem dX6_outcomes_77 : decode cX6_outcomes 77 = .ok (.iaload, 1) := by decide +kernel
theorem dX6_outcomes_78 : decode cX6_outcomes 78 = .ok (.aload_n 0, 1) := by decide +kernel
theorem dX6_outcomes_79 : decode cX6_outcomes 79 = .ok (.iload 4, 2) := by decide +kernel
theorem dX6_outcomes_81 : decode cX6_outcomes 81 = .ok (.iload_n 3, 1) := by decide +kernel
theorem dX6_outcomes_82 : decode cX6_outcomes 82 = .ok (.iload_n 1, 1) := by decide +kernel
theorem dX6_outcomes_83 : decode cX6_outcomes 83 = .ok (.iload_n 2, 1) := by decide +kernel
theorem dX6_outcomes_84 : decode cX6_outcomes 84 = .ok (.aload_n 0, 1) := by decide +kernel
theorem dX6_outcomes_85 : decode cX6_outcomes 85 = .ok (.getfield 99, 3) := by decide +kernel
theorem dX6_outcomes_88 : decode cX6_outcomes 88 = .ok (.iload_n 3, 1) := by decide +kernel
theorem dX6_outcomes_89 : decode cX6_outcomes 89 = .ok (.aload_n 0, 1) := by decide +kernel
theorem dX6_outcomes_90 : decode cX6_outcomes 90 = .ok (.getfield 62, 3) := by decide +kernel
theorem dX6_outcomes_93 : decode cX6_outcomes 93 = .ok (.iload 4, 2) := by decide +kernel
theorem dX6_outcomes_95 : decode cX6_outcomes 95 = .ok (.iaload, 1) := by decide +kernel
theorem dX6_outcomes_96 : decode cX6_outcomes 96 = .ok (.iadd, 1) := by decide +kernel
theorem dX6_outcomes_97 : decode cX6_outcomes 97 = .ok (.iaload, 1) := by decide +kernel
theorem dX6_outcomes_98 : decode cX6_outcomes 98 = .ok (.invokevirtual 172, 3) := by decide +kernel
theorem dX6_outcomes_101 : decode cX6_outcomes 101 = .ok (.ior, 1) := by decide +kernel
theorem dX6_outcomes_102 : decode cX6_outcomes 102 = .ok (.iastore, 1) := by decide +kernel
theorem dX6_outcomes_103 : decode cX6_outcomes 103 = .ok (.iinc 4 1, 3) := by decide +kernel
theorem dX6_outcomes_106 : decode cX6_outcomes 106 = .ok (.goto (-55), 3) := by decide +kernel
theorem dX6_outcomes_109 : decode cX6_outcomes 109 = .ok (.iinc 3 (-1), 3) := by decide +kernel
theorem dX6_outcomes_112 : decode cX6_outcomes 112 = .ok (.goto (-94), 3) := by decide +kernel
theorem dX6_outcomes_115 : decode cX6_outcomes 115 = .ok (.aload_n 0, 1) := by decide +kernel
theorem dX6_outcomes_116 : decode cX6_outcomes 116 = .ok (.getfield 99, 3) := by decide +kernel
theorem dX6_outcomes_119 : decode cX6_outcomes 119 = .ok (.iconst 0, 1) := by decide +kernel
theorem dX6_outcomes_120 : decode cX6_outcomes 120 = .ok (.iaload, 1) := by decide +kernel
theorem dX6_outcomes_121 : decode cX6_outcomes 121 = .ok (.ireturn, 1) := by decide +kernel
theorem dX6_isOne_0 : decode cX6_isOne 0 = .ok (.iload_n 0, 1) := by decide +kernel
theorem dX6_isOne_1 : decode cX6_isOne 1 = .ok (.ifCond .eq 15, 3) := by decide +kernel
theorem dX6_isOne_4 : decode cX6_isOne 4 = .ok (.iload_n 0, 1) := by decide +kernel
theorem dX6_isOne_5 : decode cX6_isOne 5 = .ok (.iload_n 0, 1) := by decide +kernel
theorem dX6_isOne_6 : decode cX6_isOne 6 = .ok (.iconst 1, 1) := by decide +kernel
theorem dX6_isOne_7 : decode cX6_isOne 7 = .ok (.isub, 1) := by decide +kernel
theorem dX6_isOne_8 : decode cX6_isOne 8 = .ok (.iand, 1) := by decide +kernel
theorem dX6_isOne_9 : decode cX6_isOne 9 = .ok (.ifCond .ne 7, 3) := by decide +kernel
theorem dX6_isOne_12 : decode cX6_isOne 12 = .ok (.iconst 1, 1) := by decide +kernel
theorem dX6_isOne_13 : decode cX6_isOne 13 = .ok (.goto 4, 3) := by decide +kernel
theorem dX6_isOne_16 : decode cX6_isOne 16 = .ok (.iconst 0, 1) := by decide +kernel
theorem dX6_isOne_17 : decode cX6_isOne 17 = .ok (.ireturn, 1) := by decide +kernel
theorem dX6_fills_0 : decode cX6_fills 0 = .ok (.iconst 0, 1) := by decide +kernel
theorem dX6_fills_1 : decode cX6_fills 1 = .ok (.istore_n 2, 1) := by decide +kernel
theorem dX6_fills_2 : decode cX6_fills 2 = .ok (.iload_n 2, 1) := by decide +kernel
theorem dX6_fills_3 : decode cX6_fills 3 = .ok (.aload_n 0, 1) := by decide +kernel
theorem dX6_fills_4 : decode cX6_fills 4 = .ok (.getfield 7, 3) := by decide +kernel
theorem dX6_fills_7 : decode cX6_fills 7 = .ok (.iload_n 1, 1) := by decide +kernel
theorem dX6_fills_8 : decode cX6_fills 8 = .ok (.iaload, 1) := by decide +kernel
theorem dX6_fills_9 : decode cX6_fills 9 = .ok (.if_icmp .ge 139, 3) := by decide +kernel
theorem dX6_fills_12 : decode cX6_fills 12 = .ok (.iconst 5, 1) := by decide +kernel
theorem dX6_fills_13 : decode cX6_fills 13 = .ok (.iload_n 1, 1) := by decide +kernel
theorem dX6_fills_14 : decode cX6_fills 14 = .ok (.imul, 1) := by decide +kernel
theorem dX6_fills_15 : decode cX6_fills 15 = .ok (.iload_n 2, 1) := by decide +kernel
theorem dX6_fills_16 : decode cX6_fills 16 = .ok (.iadd, 1) := by decide +kernel
theorem dX6_fills_17 : decode cX6_fills 17 = .ok (.istore_n 3, 1) := by decide +kernel
theorem dX6_fills_18 : decode cX6_fills 18 = .ok (.aload_n 0, 1) := by decide +kernel
theorem dX6_fills_19 : decode cX6_fills 19 = .ok (.getfield 13, 3) := by decide +kernel
theorem dX6_fills_22 : decode cX6_fills 22 = .ok (.iload_n 3, 1) := by decide +kernel
theorem dX6_fills_23 : decode cX6_fills 23 = .ok (.iaload, 1) := by decide +kernel
theorem dX6_fills_24 : decode cX6_fills 24 = .ok (.iconst 1, 1) := by decide +kernel
theorem dX6_fills_25 : decode cX6_fills 25 = .ok (.if_icmp .ne 8, 3) := by decide +kernel
theorem dX6_fills_28 : decode cX6_fills 28 = .ok (.bipush 16, 2) := by decide +kernel
theorem dX6_fills_30 : decode cX6_fills 30 = .ok (.goto 9, 3) := by decide +kernel
theorem dX6_fills_33 : decode cX6_fills 33 = .ok (.aload_n 0, 1) := by decide +kernel
theorem dX6_fills_34 : decode cX6_fills 34 = .ok (.iload_n 1, 1) := by decide +kernel
theorem dX6_fills_35 : decode cX6_fills 35 = .ok (.iload_n 2, 1) := by decide +kernel
theorem dX6_fills_36 : decode cX6_fills 36 = .ok (.invokevirtual 176, 3) := by decide +kernel
theorem dX6_fills_39 : decode cX6_fills 39 = .ok (.istore 4, 2) := by decide +kernel
theorem dX6_fills_41 : decode cX6_fills 41 = .ok (.iload 4, 2) := by decide +kernel
theorem dX6_fills_43 : decode cX6_fills 43 = .ok (.bipush 15, 2) := by decide +kernel
theorem dX6_fills_45 : decode cX6_fills 45 = .ok (.iand, 1) := by decide +kernel
theorem dX6_fills_46 : decode cX6_fills 46 = .ok (.istore 5, 2) := by decide +kernel
theorem dX6_fills_48 : decode cX6_fills 48 = .ok (.iload 5, 2) := by decide +kernel
theorem dX6_fills_50 : decode cX6_fills 50 = .ok (.ifCond .ne 6, 3) := by decide +kernel
theorem dX6_fills_53 : decode cX6_fills 53 = .ok (.goto 89, 3) := by decide +kernel
theorem dX6_fills_56 : decode cX6_fills 56 = .ok (.aload_n 0, 1) := by decide +kernel
theorem dX6_fills_57 : decode cX6_fills 57 = .ok (.getfield 25, 3) := by decide +kernel
theorem dX6_fills_60 : decode cX6_fills 60 = .ok (.iload_n 3, 1) := by decide +kernel
theorem dX6_fills_61 : decode cX6_fills 61 = .ok (.iaload, 1) := by decide +kernel
theorem dX6_fills_62 : decode cX6_fills 62 = .ok (.istore 6, 2) := by decide +kernel
theorem dX6_fills_64 : decode cX6_fills 64 = .ok (.aload_n 0, 1) := by decide +kernel
theorem dX6_fills_65 : decode cX6_fills 65 = .ok (.getfield 28, 3) := by decide +kernel
theorem dX6_fills_68 : decode cX6_fills 68 = .ok (.iload_n 3, 1) := by decide +kernel
theorem dX6_fills_69 : decode cX6_fills 69 = .ok (.baload, 1) := by decide +kernel
theorem dX6_fills_70 : decode cX6_fills 70 = .ok (.istore 7, 2) := by decide +kernel
theorem dX6_fills_72 : decode cX6_fills 72 = .ok (.aload_n 0, 1) := by decide +kernel
theorem dX6_fills_73 : decode cX6_fills 73 = .ok (.getfield 28, 3) := by decide +kernel
theorem dX6_fills_76 : decode cX6_fills 76 = .ok (.iload_n 3, 1) := by decide +kernel
theorem dX6_fills_77 : decode cX6_fills 77 = .ok (.iload 5, 2) := by decide +kernel
theorem dX6_fills_79 : decode cX6_fills 79 = .ok (.invokestatic 180, 3) := by decide +kernel
theorem dX6_fills_82 : decode cX6_fills 82 = .ok (.ifCond .eq 15, 3) := by decide +kernel
theorem dX6_fills_85 : decode cX6_fills 85 = .ok (.iload 4, 2) := by decide +kernel
theorem dX6_fills_87 : decode cX6_fills 87 = .ok (.bipush 16, 2) := by decide +kernel
theorem dX6_fills_89 : decode cX6_fills 89 = .ok (.iand, 1) := by decide +kernel
theorem dX6_fills_90 : decode cX6_fills 90 = .ok (.ifCond .ne 7, 3) := by decide +kernel
theorem dX6_fills_93 : decode cX6_fills 93 = .ok (.iconst 1, 1) := by decide +kernel
theorem dX6_fills_94 : decode cX6_fills 94 = .ok (.goto 4, 3) := by decide +kernel
theorem dX6_fills_97 : decode cX6_fills 97 = .ok (.iconst 0, 1) := by decide +kernel
theorem dX6_fills_98 : decode cX6_fills 98 = .ok (.bastore, 1) := by decide +kernel
theorem dX6_fills_99 : decode cX6_fills 99 = .ok (.aload_n 0, 1) := by decide +kernel
theorem dX6_fills_100 : decode cX6_fills 100 = .ok (.getfield 25, 3) := by decide +kernel
theorem dX6_fills_103 : decode cX6_fills 103 = .ok (.iload_n 3, 1) := by decide +kernel
theorem dX6_fills_104 : decode cX6_fills 104 = .ok (.aload_n 0, 1) := by decide +kernel
theorem dX6_fills_105 : decode cX6_fills 105 = .ok (.getfield 28, 3) := by decide +kernel
theorem dX6_fills_108 : decode cX6_fills 108 = .ok (.iload_n 3, 1) := by decide +kernel
theorem dX6_fills_109 : decode cX6_fills 109 = .ok (.baload, 1) := by decide +kernel
theorem dX6_fills_110 : decode cX6_fills 110 = .ok (.ifCond .ne 11, 3) := by decide +kernel
theorem dX6_fills_113 : decode cX6_fills 113 = .ok (.iload 4, 2) := by decide +kernel
theorem dX6_fills_115 : decode cX6_fills 115 = .ok (.bipush 16, 2) := by decide +kernel
theorem dX6_fills_117 : decode cX6_fills 117 = .ok (.iand, 1) := by decide +kernel
theorem dX6_fills_118 : decode cX6_fills 118 = .ok (.ifCond .ne 8, 3) := by decide +kernel
theorem dX6_fills_121 : decode cX6_fills 121 = .ok (.iload 5, 2) := by decide +kernel
theorem dX6_fills_123 : decode cX6_fills 123 = .ok (.goto 8, 3) := by decide +kernel
theorem dX6_fills_126 : decode cX6_fills 126 = .ok (.iload 5, 2) := by decide +kernel
theorem dX6_fills_128 : decode cX6_fills 128 = .ok (.iload 6, 2) := by decide +kernel
theorem dX6_fills_130 : decode cX6_fills 130 = .ok (.ior, 1) := by decide +kernel
theorem dX6_fills_131 : decode cX6_fills 131 = .ok (.iastore, 1) := by decide +kernel
theorem dX6_fills_132 : decode cX6_fills 132 = .ok (.aload_n 0, 1) := by decide +kernel
theorem dX6_fills_133 : decode cX6_fills 133 = .ok (.iload_n 1, 1) := by decide +kernel
theorem dX6_fills_134 : decode cX6_fills 134 = .ok (.iload_n 3, 1) := by decide +kernel
theorem dX6_fills_135 : decode cX6_fills 135 = .ok (.iload 6, 2) := by decide +kernel
theorem dX6_fills_137 : decode cX6_fills 137 = .ok (.iload 7, 2) := by decide +kernel
theorem dX6_fills_139 : decode cX6_fills 139 = .ok (.invokevirtual 183, 3) := by decide +kernel
theorem dX6_fills_142 : decode cX6_fills 142 = .ok (.iinc 2 1, 3) := by decide +kernel
theorem dX6_fills_145 : decode cX6_fills 145 = .ok (.goto (-143), 3) := by decide +kernel
theorem dX6_fills_148 : decode cX6_fills 148 = .ok (.return_, 1) := by decide +kernel
theorem dX6_reverts_0 : decode cX6_reverts 0 = .ok (.aload_n 0, 1) := by decide +kernel
theorem dX6_reverts_1 : decode cX6_reverts 1 = .ok (.iload_n 1, 1) := by decide +kernel
theorem dX6_reverts_2 : decode cX6_reverts 2 = .ok (.invokevirtual 187, 3) := by decide +kernel
theorem dX6_reverts_5 : decode cX6_reverts 5 = .ok (.istore 5, 2) := by decide +kernel
theorem dX6_reverts_7 : decode cX6_reverts 7 = .ok (.iload 5, 2) := by decide +kernel
theorem dX6_reverts_9 : decode cX6_reverts 9 = .ok (.iconst (-1), 1) := by decide +kernel
theorem dX6_reverts_10 : decode cX6_reverts 10 = .ok (.if_icmp .ne 4, 3) := by decide +kernel
theorem dX6_reverts_13 : decode cX6_reverts 13 = .ok (.return_, 1) := by decide +kernel
theorem dX6_reverts_14 : decode cX6_reverts 14 = .ok (.aload_n 0, 1) := by decide +kernel
theorem dX6_reverts_15 : decode cX6_reverts 15 = .ok (.aload_n 0, 1) := by decide +kernel
theorem dX6_reverts_16 : decode cX6_reverts 16 = .ok (.getfield 102, 3) := by decide +kernel
theorem dX6_reverts_19 : decode cX6_reverts 19 = .ok (.iconst (-1), 1) := by decide +kernel
theorem dX6_reverts_20 : decode cX6_reverts 20 = .ok (.if_icmp .ne 8, 3) := by decide +kernel
theorem dX6_reverts_23 : decode cX6_reverts 23 = .ok (.iload 5, 2) := by decide +kernel
theorem dX6_reverts_25 : decode cX6_reverts 25 = .ok (.goto 7, 3) := by decide +kernel
theorem dX6_reverts_28 : decode cX6_reverts 28 = .ok (.aload_n 0, 1) := by decide +kernel
theorem dX6_reverts_29 : decode cX6_reverts 29 = .ok (.getfield 102, 3) := by decide +kernel
theorem dX6_reverts_32 : decode cX6_reverts 32 = .ok (.putfield 102, 3) := by decide +kernel
theorem dX6_reverts_35 : decode cX6_reverts 35 = .ok (.aload_n 0, 1) := by decide +kernel
theorem dX6_reverts_36 : decode cX6_reverts 36 = .ok (.getfield 25, 3) := by decide +kernel
theorem dX6_reverts_39 : decode cX6_reverts 39 = .ok (.iload_n 2, 1) := by decide +kernel
theorem dX6_reverts_40 : decode cX6_reverts 40 = .ok (.iload_n 3, 1) := by decide +kernel
theorem dX6_reverts_41 : decode cX6_reverts 41 = .ok (.iastore, 1) := by decide +kernel
theorem dX6_reverts_42 : decode cX6_reverts 42 = .ok (.aload_n 0, 1) := by decide +kernel
theorem dX6_reverts_43 : decode cX6_reverts 43 = .ok (.getfield 28, 3) := by decide +kernel
theorem dX6_reverts_46 : decode cX6_reverts 46 = .ok (.iload_n 2, 1) := by decide +kernel
theorem dX6_reverts_47 : decode cX6_reverts 47 = .ok (.iload 4, 2) := by decide +kernel
theorem dX6_reverts_49 : decode cX6_reverts 49 = .ok (.bastore, 1) := by decide +kernel
theorem dX6_reverts_50 : decode cX6_reverts 50 = .ok (.return_, 1) := by decide +kernel
theorem dX6_isAll_0 : decode cX6_isAll 0 = .ok (.iconst 0, 1) := by decide +kernel
theorem dX6_isAll_1 : decode cX6_isAll 1 = .ok (.istore_n 3, 1) := by decide +kernel
theorem dX6_isAll_2 : decode cX6_isAll 2 = .ok (.iconst 0, 1) := by decide +kernel
theorem dX6_isAll_3 : decode cX6_isAll 3 = .ok (.istore 4, 2) := by decide +kernel
theorem dX6_isAll_5 : decode cX6_isAll 5 = .ok (.iload 4, 2) := by decide +kernel
theorem dX6_isAll_7 : decode cX6_isAll 7 = .ok (.aload_n 0, 1) := by decide +kernel
theorem dX6_isAll_8 : decode cX6_isAll 8 = .ok (.getfield 146, 3) := by decide +kernel
theorem dX6_isAll_11 : decode cX6_isAll 11 = .ok (.if_icmp .ge 53, 3) := by decide +kernel
theorem dX6_isAll_14 : decode cX6_isAll 14 = .ok (.iload_n 3, 1) := by decide +kernel
theorem dX6_isAll_15 : decode cX6_isAll 15 = .ok (.aload_n 0, 1) := by decide +kernel
theorem dX6_isAll_16 : decode cX6_isAll 16 = .ok (.getfield 62, 3) := by decide +kernel
theorem dX6_isAll_19 : decode cX6_isAll 19 = .ok (.iload 4, 2) := by decide +kernel
theorem dX6_isAll_21 : decode cX6_isAll 21 = .ok (.iaload, 1) := by decide +kernel
theorem dX6_isAll_22 : decode cX6_isAll 22 = .ok (.aload_n 0, 1) := by decide +kernel
theorem dX6_isAll_23 : decode cX6_isAll 23 = .ok (.getfield 159, 3) := by decide +kernel
theorem dX6_isAll_26 : decode cX6_isAll 26 = .ok (.if_icmp .ne 29, 3) := by decide +kernel
theorem dX6_isAll_29 : decode cX6_isAll 29 = .ok (.aload_n 0, 1) := by decide +kernel
theorem dX6_isAll_30 : decode cX6_isAll 30 = .ok (.iload 4, 2) := by decide +kernel
theorem dX6_isAll_32 : decode cX6_isAll 32 = .ok (.iconst 0, 1) := by decide +kernel
theorem dX6_isAll_33 : decode cX6_isAll 33 = .ok (.iload_n 1, 1) := by decide +kernel
theorem dX6_isAll_34 : decode cX6_isAll 34 = .ok (.invokevirtual 168, 3) := by decide +kernel
theorem dX6_isAll_37 : decode cX6_isAll 37 = .ok (.ifCond .eq 18, 3) := by decide +kernel
theorem dX6_isAll_40 : decode cX6_isAll 40 = .ok (.aload_n 0, 1) := by decide +kernel
theorem dX6_isAll_41 : decode cX6_isAll 41 = .ok (.getfield 59, 3) := by decide +kernel
theorem dX6_isAll_44 : decode cX6_isAll 44 = .ok (.iload 4, 2) := by decide +kernel
theorem dX6_isAll_46 : decode cX6_isAll 46 = .ok (.iaload, 1) := by decide +kernel
theorem dX6_isAll_47 : decode cX6_isAll 47 = .ok (.iload_n 2, 1) := by decide +kernel
theorem dX6_isAll_48 : decode cX6_isAll 48 = .ok (.if_icmp .ne 7, 3) := by decide +kernel
theorem dX6_isAll_51 : decode cX6_isAll 51 = .ok (.iconst 1, 1) := by decide +kernel
theorem dX6_isAll_52 : decode cX6_isAll 52 = .ok (.goto 4, 3) := by decide +kernel
theorem dX6_isAll_55 : decode cX6_isAll 55 = .ok (.iconst 0, 1) := by decide +kernel
theorem dX6_isAll_56 : decode cX6_isAll 56 = .ok (.iadd, 1) := by decide +kernel
theorem dX6_isAll_57 : decode cX6_isAll 57 = .ok (.istore_n 3, 1) := by decide +kernel
theorem dX6_isAll_58 : decode cX6_isAll 58 = .ok (.iinc 4 1, 3) := by decide +kernel
theorem dX6_isAll_61 : decode cX6_isAll 61 = .ok (.goto (-56), 3) := by decide +kernel
theorem dX6_isAll_64 : decode cX6_isAll 64 = .ok (.iload_n 3, 1) := by decide +kernel
theorem dX6_isAll_65 : decode cX6_isAll 65 = .ok (.ifCond .le 17, 3) := by decide +kernel
theorem dX6_isAll_68 : decode cX6_isAll 68 = .ok (.iload_n 3, 1) := by decide +kernel
theorem dX6_isAll_69 : decode cX6_isAll 69 = .ok (.aload_n 0, 1) := by decide +kernel
theorem dX6_isAll_70 : decode cX6_isAll 70 = .ok (.getfield 90, 3) := by decide +kernel
theorem dX6_isAll_73 : decode cX6_isAll 73 = .ok (.iconst 0, 1) := by decide +kernel
theorem dX6_isAll_74 : decode cX6_isAll 74 = .ok (.iaload, 1) := by decide +kernel
theorem dX6_isAll_75 : decode cX6_isAll 75 = .ok (.if_icmp .ne 7, 3) := by decide +kernel
theorem dX6_isAll_78 : decode cX6_isAll 78 = .ok (.iconst 1, 1) := by decide +kernel
theorem dX6_isAll_79 : decode cX6_isAll 79 = .ok (.goto 4, 3) := by decide +kernel
theorem dX6_isAll_82 : decode cX6_isAll 82 = .ok (.iconst 0, 1) := by decide +kernel
theorem dX6_isAll_83 : decode cX6_isAll 83 = .ok (.ireturn, 1) := by decide +kernel
theorem dX6_answers_0 : decode cX6_answers 0 = .ok (.iconst 5, 1) := by decide +kernel
theorem dX6_answers_1 : decode cX6_answers 1 = .ok (.iload_n 1, 1) := by decide +kernel
theorem dX6_answers_2 : decode cX6_answers 2 = .ok (.imul, 1) := by decide +kernel
theorem dX6_answers_3 : decode cX6_answers 3 = .ok (.aload_n 0, 1) := by decide +kernel
theorem dX6_answers_4 : decode cX6_answers 4 = .ok (.getfield 80, 3) := by decide +kernel
theorem dX6_answers_7 : decode cX6_answers 7 = .ok (.iadd, 1) := by decide +kernel
theorem dX6_answers_8 : decode cX6_answers 8 = .ok (.istore_n 2, 1) := by decide +kernel
theorem dX6_answers_9 : decode cX6_answers 9 = .ok (.aload_n 0, 1) := by decide +kernel
theorem dX6_answers_10 : decode cX6_answers 10 = .ok (.getfield 25, 3) := by decide +kernel
theorem dX6_answers_13 : decode cX6_answers 13 = .ok (.iload_n 2, 1) := by decide +kernel
theorem dX6_answers_14 : decode cX6_answers 14 = .ok (.iaload, 1) := by decide +kernel
theorem dX6_answers_15 : decode cX6_answers 15 = .ok (.istore_n 3, 1) := by decide +kernel
theorem dX6_answers_16 : decode cX6_answers 16 = .ok (.aload_n 0, 1) := by decide +kernel
theorem dX6_answers_17 : decode cX6_answers 17 = .ok (.iload_n 1, 1) := by decide +kernel
theorem dX6_answers_18 : decode cX6_answers 18 = .ok (.iconst 1, 1) := by decide +kernel
theorem dX6_answers_19 : decode cX6_answers 19 = .ok (.invokevirtual 190, 3) := by decide +kernel
theorem dX6_answers_22 : decode cX6_answers 22 = .ok (.ifCond .eq 33, 3) := by decide +kernel
theorem dX6_answers_25 : decode cX6_answers 25 = .ok (.aload_n 0, 1) := by decide +kernel
theorem dX6_answers_26 : decode cX6_answers 26 = .ok (.getfield 25, 3) := by decide +kernel
theorem dX6_answers_29 : decode cX6_answers 29 = .ok (.iload_n 2, 1) := by decide +kernel
theorem dX6_answers_30 : decode cX6_answers 30 = .ok (.iconst 1, 1) := by decide +kernel
theorem dX6_answers_31 : decode cX6_answers 31 = .ok (.aload_n 0, 1) := by decide +kernel
theorem dX6_answers_32 : decode cX6_answers 32 = .ok (.getfield 193, 3) := by decide +kernel
theorem dX6_answers_35 : decode cX6_answers 35 = .ok (.ishl, 1) := by decide +kernel
theorem dX6_answers_36 : decode cX6_answers 36 = .ok (.iastore, 1) := by decide +kernel
theorem dX6_answers_37 : decode cX6_answers 37 = .ok (.aload_n 0, 1) := by decide +kernel
theorem dX6_answers_38 : decode cX6_answers 38 = .ok (.getfield 28, 3) := by decide +kernel
theorem dX6_answers_41 : decode cX6_answers 41 = .ok (.iload_n 2, 1) := by decide +kernel
theorem dX6_answers_42 : decode cX6_answers 42 = .ok (.iconst 1, 1) := by decide +kernel
theorem dX6_answers_43 : decode cX6_answers 43 = .ok (.bastore, 1) := by decide +kernel
theorem dX6_answers_44 : decode cX6_answers 44 = .ok (.aload_n 0, 1) := by decide +kernel
theorem dX6_answers_45 : decode cX6_answers 45 = .ok (.iload_n 1, 1) := by decide +kernel
theorem dX6_answers_46 : decode cX6_answers 46 = .ok (.iload_n 2, 1) := by decide +kernel
theorem dX6_answers_47 : decode cX6_answers 47 = .ok (.iload_n 3, 1) := by decide +kernel
theorem dX6_answers_48 : decode cX6_answers 48 = .ok (.iconst 0, 1) := by decide +kernel
theorem dX6_answers_49 : decode cX6_answers 49 = .ok (.invokevirtual 183, 3) := by decide +kernel
theorem dX6_answers_52 : decode cX6_answers 52 = .ok (.goto 29, 3) := by decide +kernel
theorem dX6_answers_55 : decode cX6_answers 55 = .ok (.aload_n 0, 1) := by decide +kernel
theorem dX6_answers_56 : decode cX6_answers 56 = .ok (.iload_n 1, 1) := by decide +kernel
theorem dX6_answers_57 : decode cX6_answers 57 = .ok (.iconst 2, 1) := by decide +kernel
theorem dX6_answers_58 : decode cX6_answers 58 = .ok (.invokevirtual 190, 3) := by decide +kernel
theorem dX6_answers_61 : decode cX6_answers 61 = .ok (.ifCond .eq 20, 3) := by decide +kernel
theorem dX6_answers_64 : decode cX6_answers 64 = .ok (.aload_n 0, 1) := by decide +kernel
theorem dX6_answers_65 : decode cX6_answers 65 = .ok (.getfield 25, 3) := by decide +kernel
theorem dX6_answers_68 : decode cX6_answers 68 = .ok (.iload_n 2, 1) := by decide +kernel
theorem dX6_answers_69 : decode cX6_answers 69 = .ok (.dup2, 1) := by decide +kernel
theorem dX6_answers_70 : decode cX6_answers 70 = .ok (.iaload, 1) := by decide +kernel
theorem dX6_answers_71 : decode cX6_answers 71 = .ok (.iconst 1, 1) := by decide +kernel
theorem dX6_answers_72 : decode cX6_answers 72 = .ok (.aload_n 0, 1) := by decide +kernel
theorem dX6_answers_73 : decode cX6_answers 73 = .ok (.getfield 193, 3) := by decide +kernel
theorem dX6_answers_76 : decode cX6_answers 76 = .ok (.ishl, 1) := by decide +kernel
theorem dX6_answers_77 : decode cX6_answers 77 = .ok (.iconst (-1), 1) := by decide +kernel
theorem dX6_answers_78 : decode cX6_answers 78 = .ok (.ixor, 1) := by decide +kernel
theorem dX6_answers_79 : decode cX6_answers 79 = .ok (.iand, 1) := by decide +kernel
theorem dX6_answers_80 : decode cX6_answers 80 = .ok (.iastore, 1) := by decide +kernel
theorem dX6_answers_81 : decode cX6_answers 81 = .ok (.return_, 1) := by decide +kernel
theorem dX6_hear_0 : decode cX6_hear 0 = .ok (.aload_n 0, 1) := by decide +kernel
theorem dX6_hear_1 : decode cX6_hear 1 = .ok (.getfield 159, 3) := by decide +kernel
theorem dX6_hear_4 : decode cX6_hear 4 = .ok (.ifCond .eq 10, 3) := by decide +kernel
theorem dX6_hear_7 : decode cX6_hear 7 = .ok (.aload_n 0, 1) := by decide +kernel
theorem dX6_hear_8 : decode cX6_hear 8 = .ok (.getfield 126, 3) := by decide +kernel
theorem dX6_hear_11 : decode cX6_hear 11 = .ok (.ifCond .ne 6, 3) := by decide +kernel
theorem dX6_hear_14 : decode cX6_hear 14 = .ok (.bipush (-3), 2) := by decide +kernel
theorem dX6_hear_16 : decode cX6_hear 16 = .ok (.ireturn, 1) := by decide +kernel
theorem dX6_hear_17 : decode cX6_hear 17 = .ok (.aload_n 0, 1) := by decide +kernel
theorem dX6_hear_18 : decode cX6_hear 18 = .ok (.getfield 71, 3) := by decide +kernel
theorem dX6_hear_21 : decode cX6_hear 21 = .ok (.aload_n 0, 1) := by decide +kernel
theorem dX6_hear_22 : decode cX6_hear 22 = .ok (.getfield 126, 3) := by decide +kernel
theorem dX6_hear_25 : decode cX6_hear 25 = .ok (.iconst 1, 1) := by decide +kernel
theorem dX6_hear_26 : decode cX6_hear 26 = .ok (.isub, 1) := by decide +kernel
theorem dX6_hear_27 : decode cX6_hear 27 = .ok (.iaload, 1) := by decide +kernel
theorem dX6_hear_28 : decode cX6_hear 28 = .ok (.istore_n 1, 1) := by decide +kernel
theorem dX6_hear_29 : decode cX6_hear 29 = .ok (.aload_n 0, 1) := by decide +kernel
theorem dX6_hear_30 : decode cX6_hear 30 = .ok (.iload_n 1, 1) := by decide +kernel
theorem dX6_hear_31 : decode cX6_hear 31 = .ok (.invokevirtual 196, 3) := by decide +kernel
theorem dX6_hear_34 : decode cX6_hear 34 = .ok (.aload_n 0, 1) := by decide +kernel
theorem dX6_hear_35 : decode cX6_hear 35 = .ok (.aload_n 0, 1) := by decide +kernel
theorem dX6_hear_36 : decode cX6_hear 36 = .ok (.getfield 87, 3) := by decide +kernel
theorem dX6_hear_39 : decode cX6_hear 39 = .ok (.iconst 0, 1) := by decide +kernel
theorem dX6_hear_40 : decode cX6_hear 40 = .ok (.iaload, 1) := by decide +kernel
theorem dX6_hear_41 : decode cX6_hear 41 = .ok (.putfield 200, 3) := by decide +kernel
theorem dX6_hear_44 : decode cX6_hear 44 = .ok (.aload_n 0, 1) := by decide +kernel
theorem dX6_hear_45 : decode cX6_hear 45 = .ok (.aload_n 0, 1) := by decide +kernel
theorem dX6_hear_46 : decode cX6_hear 46 = .ok (.getfield 96, 3) := by decide +kernel
theorem dX6_hear_49 : decode cX6_hear 49 = .ok (.iconst 0, 1) := by decide +kernel
theorem dX6_hear_50 : decode cX6_hear 50 = .ok (.baload, 1) := by decide +kernel
theorem dX6_hear_51 : decode cX6_hear 51 = .ok (.ifCond .eq 7, 3) := by decide +kernel
theorem dX6_hear_54 : decode cX6_hear 54 = .ok (.iconst 1, 1) := by decide +kernel
theorem dX6_hear_55 : decode cX6_hear 55 = .ok (.goto 4, 3) := by decide +kernel
theorem dX6_hear_58 : decode cX6_hear 58 = .ok (.iconst 0, 1) := by decide +kernel
theorem dX6_hear_59 : decode cX6_hear 59 = .ok (.putfield 203, 3) := by decide +kernel
theorem dX6_hear_62 : decode cX6_hear 62 = .ok (.aload_n 0, 1) := by decide +kernel
theorem dX6_hear_63 : decode cX6_hear 63 = .ok (.aload_n 0, 1) := by decide +kernel
theorem dX6_hear_64 : decode cX6_hear 64 = .ok (.getfield 93, 3) := by decide +kernel
theorem dX6_hear_67 : decode cX6_hear 67 = .ok (.iconst 0, 1) := by decide +kernel
theorem dX6_hear_68 : decode cX6_hear 68 = .ok (.iaload, 1) := by decide +kernel
theorem dX6_hear_69 : decode cX6_hear 69 = .ok (.putfield 206, 3) := by decide +kernel
theorem dX6_hear_72 : decode cX6_hear 72 = .ok (.aload_n 0, 1) := by decide +kernel
theorem dX6_hear_73 : decode cX6_hear 73 = .ok (.aload_n 0, 1) := by decide +kernel
theorem dX6_hear_74 : decode cX6_hear 74 = .ok (.getfield 90, 3) := by decide +kernel
theorem dX6_hear_77 : decode cX6_hear 77 = .ok (.iconst 0, 1) := by decide +kernel
theorem dX6_hear_78 : decode cX6_hear 78 = .ok (.iaload, 1) := by decide +kernel
theorem dX6_hear_79 : decode cX6_hear 79 = .ok (.putfield 209, 3) := by decide +kernel
theorem dX6_hear_82 : decode cX6_hear 82 = .ok (.aload_n 0, 1) := by decide +kernel
theorem dX6_hear_83 : decode cX6_hear 83 = .ok (.iconst (-1), 1) := by decide +kernel
theorem dX6_hear_84 : decode cX6_hear 84 = .ok (.putfield 102, 3) := by decide +kernel
theorem dX6_hear_87 : decode cX6_hear 87 = .ok (.aload_n 0, 1) := by decide +kernel
theorem dX6_hear_88 : decode cX6_hear 88 = .ok (.getfield 96, 3) := by decide +kernel
theorem dX6_hear_91 : decode cX6_hear 91 = .ok (.iconst 0, 1) := by decide +kernel
theorem dX6_hear_92 : decode cX6_hear 92 = .ok (.baload, 1) := by decide +kernel
theorem dX6_hear_93 : decode cX6_hear 93 = .ok (.ifCond .eq 38, 3) := by decide +kernel
theorem dX6_hear_96 : decode cX6_hear 96 = .ok (.aload_n 0, 1) := by decide +kernel
theorem dX6_hear_97 : decode cX6_hear 97 = .ok (.invokevirtual 212, 3) := by decide +kernel
theorem dX6_hear_100 : decode cX6_hear 100 = .ok (.aload_n 0, 1) := by decide +kernel
theorem dX6_hear_101 : decode cX6_hear 101 = .ok (.iconst 0, 1) := by decide +kernel
theorem dX6_hear_102 : decode cX6_hear 102 = .ok (.putfield 215, 3) := by decide +kernel
theorem dX6_hear_105 : decode cX6_hear 105 = .ok (.aload_n 0, 1) := by decide +kernel
theorem dX6_hear_106 : decode cX6_hear 106 = .ok (.iload_n 1, 1) := by decide +kernel
theorem dX6_hear_107 : decode cX6_hear 107 = .ok (.invokevirtual 218, 3) := by decide +kernel
theorem dX6_hear_110 : decode cX6_hear 110 = .ok (.aload_n 0, 1) := by decide +kernel
theorem dX6_hear_111 : decode cX6_hear 111 = .ok (.getfield 80, 3) := by decide +kernel
theorem dX6_hear_114 : decode cX6_hear 114 = .ok (.iconst (-1), 1) := by decide +kernel
theorem dX6_hear_115 : decode cX6_hear 115 = .ok (.if_icmp .eq 8, 3) := by decide +kernel
theorem dX6_hear_118 : decode cX6_hear 118 = .ok (.aload_n 0, 1) := by decide +kernel
theorem dX6_hear_119 : decode cX6_hear 119 = .ok (.iload_n 1, 1) := by decide +kernel
theorem dX6_hear_120 : decode cX6_hear 120 = .ok (.invokevirtual 221, 3) := by decide +kernel
theorem dX6_hear_123 : decode cX6_hear 123 = .ok (.aload_n 0, 1) := by decide +kernel
theorem dX6_hear_124 : decode cX6_hear 124 = .ok (.iconst (-1), 1) := by decide +kernel
theorem dX6_hear_125 : decode cX6_hear 125 = .ok (.putfield 80, 3) := by decide +kernel
theorem dX6_hear_128 : decode cX6_hear 128 = .ok (.goto 13, 3) := by decide +kernel
theorem dX6_hear_131 : decode cX6_hear 131 = .ok (.aload_n 0, 1) := by decide +kernel
theorem dX6_hear_132 : decode cX6_hear 132 = .ok (.dup, 1) := by decide +kernel
theorem dX6_hear_133 : decode cX6_hear 133 = .ok (.getfield 215, 3) := by decide +kernel
theorem dX6_hear_136 : decode cX6_hear 136 = .ok (.iconst 1, 1) := by decide +kernel
theorem dX6_hear_137 : decode cX6_hear 137 = .ok (.iadd, 1) := by decide +kernel
theorem dX6_hear_138 : decode cX6_hear 138 = .ok (.putfield 215, 3) := by decide +kernel
theorem dX6_hear_141 : decode cX6_hear 141 = .ok (.aload_n 0, 1) := by decide +kernel
theorem dX6_hear_142 : decode cX6_hear 142 = .ok (.iconst 0, 1) := by decide +kernel
theorem dX6_hear_143 : decode cX6_hear 143 = .ok (.putfield 159, 3) := by decide +kernel
theorem dX6_hear_146 : decode cX6_hear 146 = .ok (.aload_n 0, 1) := by decide +kernel
theorem dX6_hear_147 : decode cX6_hear 147 = .ok (.getfield 96, 3) := by decide +kernel
theorem dX6_hear_150 : decode cX6_hear 150 = .ok (.iconst 0, 1) := by decide +kernel
theorem dX6_hear_151 : decode cX6_hear 151 = .ok (.baload, 1) := by decide +kernel
theorem dX6_hear_152 : decode cX6_hear 152 = .ok (.ifCond .eq 10, 3) := by decide +kernel
theorem dX6_hear_155 : decode cX6_hear 155 = .ok (.aload_n 0, 1) := by decide +kernel
theorem dX6_hear_156 : decode cX6_hear 156 = .ok (.getfield 200, 3) := by decide +kernel
theorem dX6_hear_159 : decode cX6_hear 159 = .ok (.goto 10, 3) := by decide +kernel
theorem dX6_hear_162 : decode cX6_hear 162 = .ok (.bipush 100, 2) := by decide +kernel
theorem dX6_hear_164 : decode cX6_hear 164 = .ok (.aload_n 0, 1) := by decide +kernel
theorem dX6_hear_165 : decode cX6_hear 165 = .ok (.getfield 200, 3) := by decide +kernel
theorem dX6_hear_168 : decode cX6_hear 168 = .ok (.iadd, 1) := by decide +kernel
theorem dX6_hear_169 : decode cX6_hear 169 = .ok (.ireturn, 1) := by decide +kernel
theorem dX6_state_0 : decode cX6_state 0 = .ok (.iconst 0, 1) := by decide +kernel
theorem dX6_state_1 : decode cX6_state 1 = .ok (.istore_n 2, 1) := by decide +kernel
theorem dX6_state_2 : decode cX6_state 2 = .ok (.iconst 4, 1) := by decide +kernel
theorem dX6_state_3 : decode cX6_state 3 = .ok (.istore_n 3, 1) := by decide +kernel
theorem dX6_state_4 : decode cX6_state 4 = .ok (.iload_n 3, 1) := by decide +kernel
theorem dX6_state_5 : decode cX6_state 5 = .ok (.ifCond .lt 57, 3) := by decide +kernel
theorem dX6_state_8 : decode cX6_state 8 = .ok (.iload_n 3, 1) := by decide +kernel
theorem dX6_state_9 : decode cX6_state 9 = .ok (.aload_n 0, 1) := by decide +kernel
theorem dX6_state_10 : decode cX6_state 10 = .ok (.getfield 7, 3) := by decide +kernel
theorem dX6_state_13 : decode cX6_state 13 = .ok (.iload_n 1, 1) := by decide +kernel
theorem dX6_state_14 : decode cX6_state 14 = .ok (.iaload, 1) := by decide +kernel
theorem dX6_state_15 : decode cX6_state 15 = .ok (.if_icmp .ge 29, 3) := by decide +kernel
theorem dX6_state_18 : decode cX6_state 18 = .ok (.aload_n 0, 1) := by decide +kernel
theorem dX6_state_19 : decode cX6_state 19 = .ok (.getfield 13, 3) := by decide +kernel
theorem dX6_state_22 : decode cX6_state 22 = .ok (.iconst 5, 1) := by decide +kernel
theorem dX6_state_23 : decode cX6_state 23 = .ok (.iload_n 1, 1) := by decide +kernel
theorem dX6_state_24 : decode cX6_state 24 = .ok (.imul, 1) := by decide +kernel
theorem dX6_state_25 : decode cX6_state 25 = .ok (.iload_n 3, 1) := by decide +kernel
theorem dX6_state_26 : decode cX6_state 26 = .ok (.iadd, 1) := by decide +kernel
theorem dX6_state_27 : decode cX6_state 27 = .ok (.iaload, 1) := by decide +kernel
theorem dX6_state_28 : decode cX6_state 28 = .ok (.iconst 1, 1) := by decide +kernel
theorem dX6_state_29 : decode cX6_state 29 = .ok (.if_icmp .eq 15, 3) := by decide +kernel
theorem dX6_state_32 : decode cX6_state 32 = .ok (.aload_n 0, 1) := by decide +kernel
theorem dX6_state_33 : decode cX6_state 33 = .ok (.iconst 5, 1) := by decide +kernel
theorem dX6_state_34 : decode cX6_state 34 = .ok (.iload_n 1, 1) := by decide +kernel
theorem dX6_state_35 : decode cX6_state 35 = .ok (.imul, 1) := by decide +kernel
theorem dX6_state_36 : decode cX6_state 36 = .ok (.iload_n 3, 1) := by decide +kernel
theorem dX6_state_37 : decode cX6_state 37 = .ok (.iadd, 1) := by decide +kernel
theorem dX6_state_38 : decode cX6_state 38 = .ok (.invokevirtual 153, 3) := by decide +kernel
theorem dX6_state_41 : decode cX6_state 41 = .ok (.goto 4, 3) := by decide +kernel
theorem dX6_state_44 : decode cX6_state 44 = .ok (.iconst (-1), 1) := by decide +kernel
theorem dX6_state_45 : decode cX6_state 45 = .ok (.istore 4, 2) := by decide +kernel
theorem dX6_state_47 : decode cX6_state 47 = .ok (.iconst 5, 1) := by decide +kernel
theorem dX6_state_48 : decode cX6_state 48 = .ok (.iload_n 2, 1) := by decide +kernel
theorem dX6_state_49 : decode cX6_state 49 = .ok (.imul, 1) := by decide +kernel
theorem dX6_state_50 : decode cX6_state 50 = .ok (.iload 4, 2) := by decide +kernel
theorem dX6_state_52 : decode cX6_state 52 = .ok (.iadd, 1) := by decide +kernel
theorem dX6_state_53 : decode cX6_state 53 = .ok (.iconst 1, 1) := by decide +kernel
theorem dX6_state_54 : decode cX6_state 54 = .ok (.iadd, 1) := by decide +kernel
theorem dX6_state_55 : decode cX6_state 55 = .ok (.istore_n 2, 1) := by decide +kernel
theorem dX6_state_56 : decode cX6_state 56 = .ok (.iinc 3 (-1), 3) := by decide +kernel
theorem dX6_state_59 : decode cX6_state 59 = .ok (.goto (-55), 3) := by decide +kernel
theorem dX6_state_62 : decode cX6_state 62 = .ok (.iload_n 2, 1) := by decide +kernel
theorem dX6_state_63 : decode cX6_state 63 = .ok (.ireturn, 1) := by decide +kernel
theorem dX6_worstBy_0 : decode cX6_worstBy 0 = .ok (.iconst 5, 1) := by decide +kernel
theorem dX6_worstBy_1 : decode cX6_worstBy 1 = .ok (.iload_n 1, 1) := by decide +kernel
theorem dX6_worstBy_2 : decode cX6_worstBy 2 = .ok (.imul, 1) := by decide +kernel
theorem dX6_worstBy_3 : decode cX6_worstBy 3 = .ok (.iload_n 2, 1) := by decide +kernel
theorem dX6_worstBy_4 : decode cX6_worstBy 4 = .ok (.iadd, 1) := by decide +kernel
theorem dX6_worstBy_5 : decode cX6_worstBy 5 = .ok (.istore_n 3, 1) := by decide +kernel
theorem dX6_worstBy_6 : decode cX6_worstBy 6 = .ok (.aload_n 0, 1) := by decide +kernel
theorem dX6_worstBy_7 : decode cX6_worstBy 7 = .ok (.getfield 25, 3) := by decide +kernel
theorem dX6_worstBy_10 : decode cX6_worstBy 10 = .ok (.iload_n 3, 1) := by decide +kernel
theorem dX6_worstBy_11 : decode cX6_worstBy 11 = .ok (.iaload, 1) := by decide +kernel
theorem dX6_worstBy_12 : decode cX6_worstBy 12 = .ok (.istore 4, 2) := by decide +kernel
theorem dX6_worstBy_14 : decode cX6_worstBy 14 = .ok (.iconst (-1), 1) := by decide +kernel
theorem dX6_worstBy_15 : decode cX6_worstBy 15 = .ok (.istore 5, 2) := by decide +kernel
theorem dX6_worstBy_17 : decode cX6_worstBy 17 = .ok (.iconst 0, 1) := by decide +kernel
theorem dX6_worstBy_18 : decode cX6_worstBy 18 = .ok (.istore 6, 2) := by decide +kernel
theorem dX6_worstBy_20 : decode cX6_worstBy 20 = .ok (.iload 6, 2) := by decide +kernel
theorem dX6_worstBy_22 : decode cX6_worstBy 22 = .ok (.aload_n 0, 1) := by decide +kernel
theorem dX6_worstBy_23 : decode cX6_worstBy 23 = .ok (.getfield 16, 3) := by decide +kernel
theorem dX6_worstBy_26 : decode cX6_worstBy 26 = .ok (.iload_n 3, 1) := by decide +kernel
theorem dX6_worstBy_27 : decode cX6_worstBy 27 = .ok (.iaload, 1) := by decide +kernel
theorem dX6_worstBy_28 : decode cX6_worstBy 28 = .ok (.if_icmp .ge 60, 3) := by decide +kernel
theorem dX6_worstBy_31 : decode cX6_worstBy 31 = .ok (.aload_n 0, 1) := by decide +kernel
theorem dX6_worstBy_32 : decode cX6_worstBy 32 = .ok (.getfield 25, 3) := by decide +kernel
theorem dX6_worstBy_35 : decode cX6_worstBy 35 = .ok (.iload_n 3, 1) := by decide +kernel
theorem dX6_worstBy_36 : decode cX6_worstBy 36 = .ok (.iconst 1, 1) := by decide +kernel
theorem dX6_worstBy_37 : decode cX6_worstBy 37 = .ok (.iload 6, 2) := by decide +kernel
theorem dX6_worstBy_39 : decode cX6_worstBy 39 = .ok (.ishl, 1) := by decide +kernel
theorem dX6_worstBy_40 : decode cX6_worstBy 40 = .ok (.iastore, 1) := by decide +kernel
theorem dX6_worstBy_41 : decode cX6_worstBy 41 = .ok (.aload_n 0, 1) := by decide +kernel
theorem dX6_worstBy_42 : decode cX6_worstBy 42 = .ok (.getfield 28, 3) := by decide +kernel
theorem dX6_worstBy_45 : decode cX6_worstBy 45 = .ok (.iload_n 3, 1) := by decide +kernel
theorem dX6_worstBy_46 : decode cX6_worstBy 46 = .ok (.iconst 1, 1) := by decide +kernel
theorem dX6_worstBy_47 : decode cX6_worstBy 47 = .ok (.bastore, 1) := by decide +kernel
theorem dX6_worstBy_48 : decode cX6_worstBy 48 = .ok (.aload_n 0, 1) := by decide +kernel
theorem dX6_worstBy_49 : decode cX6_worstBy 49 = .ok (.iload_n 1, 1) := by decide +kernel
theorem dX6_worstBy_50 : decode cX6_worstBy 50 = .ok (.invokevirtual 187, 3) := by decide +kernel
theorem dX6_worstBy_53 : decode cX6_worstBy 53 = .ok (.iconst (-1), 1) := by decide +kernel
theorem dX6_worstBy_54 : decode cX6_worstBy 54 = .ok (.if_icmp .ne 28, 3) := by decide +kernel
theorem dX6_worstBy_57 : decode cX6_worstBy 57 = .ok (.iconst 1, 1) := by decide +kernel
theorem dX6_worstBy_58 : decode cX6_worstBy 58 = .ok (.aload_n 0, 1) := by decide +kernel
theorem dX6_worstBy_59 : decode cX6_worstBy 59 = .ok (.iload_n 1, 1) := by decide +kernel
theorem dX6_worstBy_60 : decode cX6_worstBy 60 = .ok (.invokevirtual 224, 3) := by decide +kernel
theorem dX6_worstBy_63 : decode cX6_worstBy 63 = .ok (.iadd, 1) := by decide +kernel
theorem dX6_worstBy_64 : decode cX6_worstBy 64 = .ok (.istore 7, 2) := by decide +kernel
theorem dX6_worstBy_66 : decode cX6_worstBy 66 = .ok (.iload 7, 2) := by decide +kernel
theorem dX6_worstBy_68 : decode cX6_worstBy 68 = .ok (.iload 5, 2) := by decide +kernel
theorem dX6_worstBy_70 : decode cX6_worstBy 70 = .ok (.if_icmp .le 8, 3) := by decide +kernel
theorem dX6_worstBy_73 : decode cX6_worstBy 73 = .ok (.iload 7, 2) := by decide +kernel
theorem dX6_worstBy_75 : decode cX6_worstBy 75 = .ok (.goto 5, 3) := by decide +kernel
theorem dX6_worstBy_78 : decode cX6_worstBy 78 = .ok (.iload 5, 2) := by decide +kernel
theorem dX6_worstBy_80 : decode cX6_worstBy 80 = .ok (.istore 5, 2) := by decide +kernel
theorem dX6_worstBy_82 : decode cX6_worstBy 82 = .ok (.iinc 6 1, 3) := by decide +kernel
theorem dX6_worstBy_85 : decode cX6_worstBy 85 = .ok (.goto (-65), 3) := by decide +kernel
theorem dX6_worstBy_88 : decode cX6_worstBy 88 = .ok (.aload_n 0, 1) := by decide +kernel
theorem dX6_worstBy_89 : decode cX6_worstBy 89 = .ok (.getfield 25, 3) := by decide +kernel
theorem dX6_worstBy_92 : decode cX6_worstBy 92 = .ok (.iload_n 3, 1) := by decide +kernel
theorem dX6_worstBy_93 : decode cX6_worstBy 93 = .ok (.iload 4, 2) := by decide +kernel
theorem dX6_worstBy_95 : decode cX6_worstBy 95 = .ok (.iastore, 1) := by decide +kernel
theorem dX6_worstBy_96 : decode cX6_worstBy 96 = .ok (.aload_n 0, 1) := by decide +kernel
theorem dX6_worstBy_97 : decode cX6_worstBy 97 = .ok (.getfield 28, 3) := by decide +kernel
theorem dX6_worstBy_100 : decode cX6_worstBy 100 = .ok (.iload_n 3, 1) := by decide +kernel
theorem dX6_worstBy_101 : decode cX6_worstBy 101 = .ok (.iconst 0, 1) := by decide +kernel
theorem dX6_worstBy_102 : decode cX6_worstBy 102 = .ok (.bastore, 1) := by decide +kernel
theorem dX6_worstBy_103 : decode cX6_worstBy 103 = .ok (.iload 5, 2) := by decide +kernel
theorem dX6_worstBy_105 : decode cX6_worstBy 105 = .ok (.iconst (-1), 1) := by decide +kernel
theorem dX6_worstBy_106 : decode cX6_worstBy 106 = .ok (.if_icmp .eq 10, 3) := by decide +kernel
theorem dX6_worstBy_109 : decode cX6_worstBy 109 = .ok (.iload 5, 2) := by decide +kernel
theorem dX6_worstBy_111 : decode cX6_worstBy 111 = .ok (.bipush 100, 2) := by decide +kernel
theorem dX6_worstBy_113 : decode cX6_worstBy 113 = .ok (.if_icmp .le 8, 3) := by decide +kernel
theorem dX6_worstBy_116 : decode cX6_worstBy 116 = .ok (.bipush 100, 2) := by decide +kernel
theorem dX6_worstBy_118 : decode cX6_worstBy 118 = .ok (.goto 5, 3) := by decide +kernel
theorem dX6_worstBy_121 : decode cX6_worstBy 121 = .ok (.iload 5, 2) := by decide +kernel
theorem dX6_worstBy_123 : decode cX6_worstBy 123 = .ok (.ireturn, 1) := by decide +kernel
theorem dX6_worstOf_0 : decode cX6_worstOf 0 = .ok (.aload_n 0, 1) := by decide +kernel
theorem dX6_worstOf_1 : decode cX6_worstOf 1 = .ok (.iload_n 1, 1) := by decide +kernel
theorem dX6_worstOf_2 : decode cX6_worstOf 2 = .ok (.invokevirtual 227, 3) := by decide +kernel
theorem dX6_worstOf_5 : decode cX6_worstOf 5 = .ok (.istore_n 2, 1) := by decide +kernel
theorem dX6_worstOf_6 : decode cX6_worstOf 6 = .ok (.aload_n 0, 1) := by decide +kernel
theorem dX6_worstOf_7 : decode cX6_worstOf 7 = .ok (.getfield 105, 3) := by decide +kernel
theorem dX6_worstOf_10 : decode cX6_worstOf 10 = .ok (.iload_n 2, 1) := by decide +kernel
theorem dX6_worstOf_11 : decode cX6_worstOf 11 = .ok (.iaload, 1) := by decide +kernel
theorem dX6_worstOf_12 : decode cX6_worstOf 12 = .ok (.iconst (-1), 1) := by decide +kernel
theorem dX6_worstOf_13 : decode cX6_worstOf 13 = .ok (.if_icmp .eq 10, 3) := by decide +kernel
theorem dX6_worstOf_16 : decode cX6_worstOf 16 = .ok (.aload_n 0, 1) := by decide +kernel
theorem dX6_worstOf_17 : decode cX6_worstOf 17 = .ok (.getfield 105, 3) := by decide +kernel
theorem dX6_worstOf_20 : decode cX6_worstOf 20 = .ok (.iload_n 2, 1) := by decide +kernel
theorem dX6_worstOf_21 : decode cX6_worstOf 21 = .ok (.iaload, 1) := by decide +kernel
theorem dX6_worstOf_22 : decode cX6_worstOf 22 = .ok (.ireturn, 1) := by decide +kernel
theorem dX6_worstOf_23 : decode cX6_worstOf 23 = .ok (.bipush 100, 2) := by decide +kernel
theorem dX6_worstOf_25 : decode cX6_worstOf 25 = .ok (.istore_n 3, 1) := by decide +kernel
theorem dX6_worstOf_26 : decode cX6_worstOf 26 = .ok (.iconst 0, 1) := by decide +kernel
theorem dX6_worstOf_27 : decode cX6_worstOf 27 = .ok (.istore 4, 2) := by decide +kernel
theorem dX6_worstOf_29 : decode cX6_worstOf 29 = .ok (.iconst 0, 1) := by decide +kernel
theorem dX6_worstOf_30 : decode cX6_worstOf 30 = .ok (.istore 5, 2) := by decide +kernel
theorem dX6_worstOf_32 : decode cX6_worstOf 32 = .ok (.iload 5, 2) := by decide +kernel
theorem dX6_worstOf_34 : decode cX6_worstOf 34 = .ok (.aload_n 0, 1) := by decide +kernel
theorem dX6_worstOf_35 : decode cX6_worstOf 35 = .ok (.getfield 7, 3) := by decide +kernel
theorem dX6_worstOf_38 : decode cX6_worstOf 38 = .ok (.iload_n 1, 1) := by decide +kernel
theorem dX6_worstOf_39 : decode cX6_worstOf 39 = .ok (.iaload, 1) := by decide +kernel
theorem dX6_worstOf_40 : decode cX6_worstOf 40 = .ok (.if_icmp .ge 61, 3) := by decide +kernel
theorem dX6_worstOf_43 : decode cX6_worstOf 43 = .ok (.aload_n 0, 1) := by decide +kernel
theorem dX6_worstOf_44 : decode cX6_worstOf 44 = .ok (.iload_n 1, 1) := by decide +kernel
theorem dX6_worstOf_45 : decode cX6_worstOf 45 = .ok (.iload 5, 2) := by decide +kernel
theorem dX6_worstOf_47 : decode cX6_worstOf 47 = .ok (.invokevirtual 230, 3) := by decide +kernel
theorem dX6_worstOf_50 : decode cX6_worstOf 50 = .ok (.ifCond .eq 45, 3) := by decide +kernel
theorem dX6_worstOf_53 : decode cX6_worstOf 53 = .ok (.aload_n 0, 1) := by decide +kernel
theorem dX6_worstOf_54 : decode cX6_worstOf 54 = .ok (.getfield 28, 3) := by decide +kernel
theorem dX6_worstOf_57 : decode cX6_worstOf 57 = .ok (.iconst 5, 1) := by decide +kernel
theorem dX6_worstOf_58 : decode cX6_worstOf 58 = .ok (.iload_n 1, 1) := by decide +kernel
theorem dX6_worstOf_59 : decode cX6_worstOf 59 = .ok (.imul, 1) := by decide +kernel
theorem dX6_worstOf_60 : decode cX6_worstOf 60 = .ok (.iload 5, 2) := by decide +kernel
theorem dX6_worstOf_62 : decode cX6_worstOf 62 = .ok (.iadd, 1) := by decide +kernel
theorem dX6_worstOf_63 : decode cX6_worstOf 63 = .ok (.baload, 1) := by decide +kernel
theorem dX6_worstOf_64 : decode cX6_worstOf 64 = .ok (.ifCond .eq 6, 3) := by decide +kernel
theorem dX6_worstOf_67 : decode cX6_worstOf 67 = .ok (.goto 28, 3) := by decide +kernel
theorem dX6_worstOf_70 : decode cX6_worstOf 70 = .ok (.iconst 1, 1) := by decide +kernel
theorem dX6_worstOf_71 : decode cX6_worstOf 71 = .ok (.istore 4, 2) := by decide +kernel
theorem dX6_worstOf_73 : decode cX6_worstOf 73 = .ok (.aload_n 0, 1) := by decide +kernel
theorem dX6_worstOf_74 : decode cX6_worstOf 74 = .ok (.iload_n 1, 1) := by decide +kernel
theorem dX6_worstOf_75 : decode cX6_worstOf 75 = .ok (.iload 5, 2) := by decide +kernel
theorem dX6_worstOf_77 : decode cX6_worstOf 77 = .ok (.invokevirtual 233, 3) := by decide +kernel
theorem dX6_worstOf_80 : decode cX6_worstOf 80 = .ok (.istore 6, 2) := by decide +kernel
theorem dX6_worstOf_82 : decode cX6_worstOf 82 = .ok (.iload 6, 2) := by decide +kernel
theorem dX6_worstOf_84 : decode cX6_worstOf 84 = .ok (.iload_n 3, 1) := by decide +kernel
theorem dX6_worstOf_85 : decode cX6_worstOf 85 = .ok (.if_icmp .ge 8, 3) := by decide +kernel
theorem dX6_worstOf_88 : decode cX6_worstOf 88 = .ok (.iload 6, 2) := by decide +kernel
theorem dX6_worstOf_90 : decode cX6_worstOf 90 = .ok (.goto 4, 3) := by decide +kernel
theorem dX6_worstOf_93 : decode cX6_worstOf 93 = .ok (.iload_n 3, 1) := by decide +kernel
theorem dX6_worstOf_94 : decode cX6_worstOf 94 = .ok (.istore_n 3, 1) := by decide +kernel
theorem dX6_worstOf_95 : decode cX6_worstOf 95 = .ok (.iinc 5 1, 3) := by decide +kernel
theorem dX6_worstOf_98 : decode cX6_worstOf 98 = .ok (.goto (-66), 3) := by decide +kernel
theorem dX6_worstOf_101 : decode cX6_worstOf 101 = .ok (.aload_n 0, 1) := by decide +kernel
theorem dX6_worstOf_102 : decode cX6_worstOf 102 = .ok (.getfield 105, 3) := by decide +kernel
theorem dX6_worstOf_105 : decode cX6_worstOf 105 = .ok (.iload_n 2, 1) := by decide +kernel
theorem dX6_worstOf_106 : decode cX6_worstOf 106 = .ok (.iload 4, 2) := by decide +kernel
theorem dX6_worstOf_108 : decode cX6_worstOf 108 = .ok (.ifCond .eq 7, 3) := by decide +kernel
theorem dX6_worstOf_111 : decode cX6_worstOf 111 = .ok (.iload_n 3, 1) := by decide +kernel
theorem dX6_worstOf_112 : decode cX6_worstOf 112 = .ok (.goto 4, 3) := by decide +kernel
theorem dX6_worstOf_115 : decode cX6_worstOf 115 = .ok (.iconst 0, 1) := by decide +kernel
theorem dX6_worstOf_116 : decode cX6_worstOf 116 = .ok (.iastore, 1) := by decide +kernel
theorem dX6_worstOf_117 : decode cX6_worstOf 117 = .ok (.aload_n 0, 1) := by decide +kernel
theorem dX6_worstOf_118 : decode cX6_worstOf 118 = .ok (.getfield 105, 3) := by decide +kernel
theorem dX6_worstOf_121 : decode cX6_worstOf 121 = .ok (.iload_n 2, 1) := by decide +kernel
theorem dX6_worstOf_122 : decode cX6_worstOf 122 = .ok (.iaload, 1) := by decide +kernel
theorem dX6_worstOf_123 : decode cX6_worstOf 123 = .ok (.ireturn, 1) := by decide +kernel
theorem dX6_forget_0 : decode cX6_forget 0 = .ok (.iconst 0, 1) := by decide +kernel
theorem dX6_forget_1 : decode cX6_forget 1 = .ok (.istore_n 1, 1) := by decide +kernel
theorem dX6_forget_2 : decode cX6_forget 2 = .ok (.iload_n 1, 1) := by decide +kernel
theorem dX6_forget_3 : decode cX6_forget 3 = .ok (.sipush 3125, 3) := by decide +kernel
theorem dX6_forget_6 : decode cX6_forget 6 = .ok (.if_icmp .ge 16, 3) := by decide +kernel
theorem dX6_forget_9 : decode cX6_forget 9 = .ok (.aload_n 0, 1) := by decide +kernel
theorem dX6_forget_10 : decode cX6_forget 10 = .ok (.getfield 105, 3) := by decide +kernel
theorem dX6_forget_13 : decode cX6_forget 13 = .ok (.iload_n 1, 1) := by decide +kernel
theorem dX6_forget_14 : decode cX6_forget 14 = .ok (.iconst (-1), 1) := by decide +kernel
theorem dX6_forget_15 : decode cX6_forget 15 = .ok (.iastore, 1) := by decide +kernel
theorem dX6_forget_16 : decode cX6_forget 16 = .ok (.iinc 1 1, 3) := by decide +kernel
theorem dX6_forget_19 : decode cX6_forget 19 = .ok (.goto (-17), 3) := by decide +kernel
theorem dX6_forget_22 : decode cX6_forget 22 = .ok (.return_, 1) := by decide +kernel
theorem dX6_worst_0 : decode cX6_worst 0 = .ok (.aload_n 0, 1) := by decide +kernel
theorem dX6_worst_1 : decode cX6_worst 1 = .ok (.getfield 126, 3) := by decide +kernel
theorem dX6_worst_4 : decode cX6_worst 4 = .ok (.ifCond .ne 6, 3) := by decide +kernel
theorem dX6_worst_7 : decode cX6_worst 7 = .ok (.bipush (-3), 2) := by decide +kernel
theorem dX6_worst_9 : decode cX6_worst 9 = .ok (.ireturn, 1) := by decide +kernel
theorem dX6_worst_10 : decode cX6_worst 10 = .ok (.aload_n 0, 1) := by decide +kernel
theorem dX6_worst_11 : decode cX6_worst 11 = .ok (.invokevirtual 236, 3) := by decide +kernel
theorem dX6_worst_14 : decode cX6_worst 14 = .ok (.aload_n 0, 1) := by decide +kernel
theorem dX6_worst_15 : decode cX6_worst 15 = .ok (.aload_n 0, 1) := by decide +kernel
theorem dX6_worst_16 : decode cX6_worst 16 = .ok (.getfield 71, 3) := by decide +kernel
theorem dX6_worst_19 : decode cX6_worst 19 = .ok (.aload_n 0, 1) := by decide +kernel
theorem dX6_worst_20 : decode cX6_worst 20 = .ok (.getfield 126, 3) := by decide +kernel
theorem dX6_worst_23 : decode cX6_worst 23 = .ok (.iconst 1, 1) := by decide +kernel
theorem dX6_worst_24 : decode cX6_worst 24 = .ok (.isub, 1) := by decide +kernel
theorem dX6_worst_25 : decode cX6_worst 25 = .ok (.iaload, 1) := by decide +kernel
theorem dX6_worst_26 : decode cX6_worst 26 = .ok (.invokevirtual 224, 3) := by decide +kernel
theorem dX6_worst_29 : decode cX6_worst 29 = .ok (.ireturn, 1) := by decide +kernel
theorem dX6_act_0 : decode cX6_act 0 = .ok (.aload_n 0, 1) := by decide +kernel
theorem dX6_act_1 : decode cX6_act 1 = .ok (.getfield 126, 3) := by decide +kernel
theorem dX6_act_4 : decode cX6_act 4 = .ok (.ifCond .ne 6, 3) := by decide +kernel
theorem dX6_act_7 : decode cX6_act 7 = .ok (.bipush (-3), 2) := by decide +kernel
theorem dX6_act_9 : decode cX6_act 9 = .ok (.ireturn, 1) := by decide +kernel
theorem dX6_act_10 : decode cX6_act 10 = .ok (.aload_n 0, 1) := by decide +kernel
theorem dX6_act_11 : decode cX6_act 11 = .ok (.getfield 71, 3) := by decide +kernel
theorem dX6_act_14 : decode cX6_act 14 = .ok (.aload_n 0, 1) := by decide +kernel
theorem dX6_act_15 : decode cX6_act 15 = .ok (.getfield 126, 3) := by decide +kernel
theorem dX6_act_18 : decode cX6_act 18 = .ok (.iconst 1, 1) := by decide +kernel
theorem dX6_act_19 : decode cX6_act 19 = .ok (.isub, 1) := by decide +kernel
theorem dX6_act_20 : decode cX6_act 20 = .ok (.iaload, 1) := by decide +kernel
theorem dX6_act_21 : decode cX6_act 21 = .ok (.istore_n 1, 1) := by decide +kernel
theorem dX6_act_22 : decode cX6_act 22 = .ok (.aload_n 0, 1) := by decide +kernel
theorem dX6_act_23 : decode cX6_act 23 = .ok (.iconst (-1), 1) := by decide +kernel
theorem dX6_act_24 : decode cX6_act 24 = .ok (.putfield 80, 3) := by decide +kernel
theorem dX6_act_27 : decode cX6_act 27 = .ok (.iconst 1, 1) := by decide +kernel
theorem dX6_act_28 : decode cX6_act 28 = .ok (.istore_n 2, 1) := by decide +kernel
theorem dX6_act_29 : decode cX6_act 29 = .ok (.iconst 0, 1) := by decide +kernel
theorem dX6_act_30 : decode cX6_act 30 = .ok (.istore_n 3, 1) := by decide +kernel
theorem dX6_act_31 : decode cX6_act 31 = .ok (.iload_n 3, 1) := by decide +kernel
theorem dX6_act_32 : decode cX6_act 32 = .ok (.aload_n 0, 1) := by decide +kernel
theorem dX6_act_33 : decode cX6_act 33 = .ok (.getfield 7, 3) := by decide +kernel
theorem dX6_act_36 : decode cX6_act 36 = .ok (.iload_n 1, 1) := by decide +kernel
theorem dX6_act_37 : decode cX6_act 37 = .ok (.iaload, 1) := by decide +kernel
theorem dX6_act_38 : decode cX6_act 38 = .ok (.if_icmp .ge 101, 3) := by decide +kernel
theorem dX6_act_41 : decode cX6_act 41 = .ok (.aload_n 0, 1) := by decide +kernel
theorem dX6_act_42 : decode cX6_act 42 = .ok (.iload_n 1, 1) := by decide +kernel
theorem dX6_act_43 : decode cX6_act 43 = .ok (.iload_n 3, 1) := by decide +kernel
theorem dX6_act_44 : decode cX6_act 44 = .ok (.invokevirtual 230, 3) := by decide +kernel
theorem dX6_act_47 : decode cX6_act 47 = .ok (.ifCond .eq 86, 3) := by decide +kernel
theorem dX6_act_50 : decode cX6_act 50 = .ok (.aload_n 0, 1) := by decide +kernel
theorem dX6_act_51 : decode cX6_act 51 = .ok (.getfield 28, 3) := by decide +kernel
theorem dX6_act_54 : decode cX6_act 54 = .ok (.iconst 5, 1) := by decide +kernel
theorem dX6_act_55 : decode cX6_act 55 = .ok (.iload_n 1, 1) := by decide +kernel
theorem dX6_act_56 : decode cX6_act 56 = .ok (.imul, 1) := by decide +kernel
theorem dX6_act_57 : decode cX6_act 57 = .ok (.iload_n 3, 1) := by decide +kernel
theorem dX6_act_58 : decode cX6_act 58 = .ok (.iadd, 1) := by decide +kernel
theorem dX6_act_59 : decode cX6_act 59 = .ok (.baload, 1) := by decide +kernel
theorem dX6_act_60 : decode cX6_act 60 = .ok (.ifCond .eq 6, 3) := by decide +kernel
theorem dX6_act_63 : decode cX6_act 63 = .ok (.goto 70, 3) := by decide +kernel
theorem dX6_act_66 : decode cX6_act 66 = .ok (.iconst 0, 1) := by decide +kernel
theorem dX6_act_67 : decode cX6_act 67 = .ok (.istore_n 2, 1) := by decide +kernel
theorem dX6_act_68 : decode cX6_act 68 = .ok (.aload_n 0, 1) := by decide +kernel
theorem dX6_act_69 : decode cX6_act 69 = .ok (.getfield 25, 3) := by decide +kernel
theorem dX6_act_72 : decode cX6_act 72 = .ok (.iconst 5, 1) := by decide +kernel
theorem dX6_act_73 : decode cX6_act 73 = .ok (.iload_n 1, 1) := by decide +kernel
theorem dX6_act_74 : decode cX6_act 74 = .ok (.imul, 1) := by decide +kernel
theorem dX6_act_75 : decode cX6_act 75 = .ok (.iload_n 3, 1) := by decide +kernel
theorem dX6_act_76 : decode cX6_act 76 = .ok (.iadd, 1) := by decide +kernel
theorem dX6_act_77 : decode cX6_act 77 = .ok (.iaload, 1) := by decide +kernel
theorem dX6_act_78 : decode cX6_act 78 = .ok (.ifCond .eq 55, 3) := by decide +kernel
theorem dX6_act_81 : decode cX6_act 81 = .ok (.aload_n 0, 1) := by decide +kernel
theorem dX6_act_82 : decode cX6_act 82 = .ok (.getfield 13, 3) := by decide +kernel
theorem dX6_act_85 : decode cX6_act 85 = .ok (.iconst 5, 1) := by decide +kernel
theorem dX6_act_86 : decode cX6_act 86 = .ok (.iload_n 1, 1) := by decide +kernel
theorem dX6_act_87 : decode cX6_act 87 = .ok (.imul, 1) := by decide +kernel
theorem dX6_act_88 : decode cX6_act 88 = .ok (.iload_n 3, 1) := by decide +kernel
theorem dX6_act_89 : decode cX6_act 89 = .ok (.iadd, 1) := by decide +kernel
theorem dX6_act_90 : decode cX6_act 90 = .ok (.iaload, 1) := by decide +kernel
theorem dX6_act_91 : decode cX6_act 91 = .ok (.iconst 2, 1) := by decide +kernel
theorem dX6_act_92 : decode cX6_act 92 = .ok (.if_icmp .ne 6, 3) := by decide +kernel
theorem dX6_act_95 : decode cX6_act 95 = .ok (.goto 38, 3) := by decide +kernel
theorem dX6_act_98 : decode cX6_act 98 = .ok (.aload_n 0, 1) := by decide +kernel
theorem dX6_act_99 : decode cX6_act 99 = .ok (.iload_n 3, 1) := by decide +kernel
theorem dX6_act_100 : decode cX6_act 100 = .ok (.putfield 80, 3) := by decide +kernel
theorem dX6_act_103 : decode cX6_act 103 = .ok (.aload_n 0, 1) := by decide +kernel
theorem dX6_act_104 : decode cX6_act 104 = .ok (.aload_n 0, 1) := by decide +kernel
theorem dX6_act_105 : decode cX6_act 105 = .ok (.getfield 25, 3) := by decide +kernel
theorem dX6_act_108 : decode cX6_act 108 = .ok (.iconst 5, 1) := by decide +kernel
theorem dX6_act_109 : decode cX6_act 109 = .ok (.iload_n 1, 1) := by decide +kernel
theorem dX6_act_110 : decode cX6_act 110 = .ok (.imul, 1) := by decide +kernel
theorem dX6_act_111 : decode cX6_act 111 = .ok (.iload_n 3, 1) := by decide +kernel
theorem dX6_act_112 : decode cX6_act 112 = .ok (.iadd, 1) := by decide +kernel
theorem dX6_act_113 : decode cX6_act 113 = .ok (.iaload, 1) := by decide +kernel
theorem dX6_act_114 : decode cX6_act 114 = .ok (.invokestatic 149, 3) := by decide +kernel
theorem dX6_act_117 : decode cX6_act 117 = .ok (.putfield 193, 3) := by decide +kernel
theorem dX6_act_120 : decode cX6_act 120 = .ok (.bipush 100, 2) := by decide +kernel
theorem dX6_act_122 : decode cX6_act 122 = .ok (.bipush 10, 2) := by decide +kernel
theorem dX6_act_124 : decode cX6_act 124 = .ok (.iload_n 3, 1) := by decide +kernel
theorem dX6_act_125 : decode cX6_act 125 = .ok (.imul, 1) := by decide +kernel
theorem dX6_act_126 : decode cX6_act 126 = .ok (.iadd, 1) := by decide +kernel
theorem dX6_act_127 : decode cX6_act 127 = .ok (.aload_n 0, 1) := by decide +kernel
theorem dX6_act_128 : decode cX6_act 128 = .ok (.getfield 193, 3) := by decide +kernel
theorem dX6_act_131 : decode cX6_act 131 = .ok (.iadd, 1) := by decide +kernel
theorem dX6_act_132 : decode cX6_act 132 = .ok (.ireturn, 1) := by decide +kernel
theorem dX6_act_133 : decode cX6_act 133 = .ok (.iinc 3 1, 3) := by decide +kernel
theorem dX6_act_136 : decode cX6_act 136 = .ok (.goto (-105), 3) := by decide +kernel
theorem dX6_act_139 : decode cX6_act 139 = .ok (.iload_n 2, 1) := by decide +kernel
theorem dX6_act_140 : decode cX6_act 140 = .ok (.ifCond .eq 5, 3) := by decide +kernel
theorem dX6_act_143 : decode cX6_act 143 = .ok (.iconst 0, 1) := by decide +kernel
theorem dX6_act_144 : decode cX6_act 144 = .ok (.ireturn, 1) := by decide +kernel
theorem dX6_act_145 : decode cX6_act 145 = .ok (.aload_n 0, 1) := by decide +kernel
theorem dX6_act_146 : decode cX6_act 146 = .ok (.invokevirtual 236, 3) := by decide +kernel
theorem dX6_act_149 : decode cX6_act 149 = .ok (.iconst (-1), 1) := by decide +kernel
theorem dX6_act_150 : decode cX6_act 150 = .ok (.istore_n 3, 1) := by decide +kernel
theorem dX6_act_151 : decode cX6_act 151 = .ok (.sipush 10000, 3) := by decide +kernel
theorem dX6_act_154 : decode cX6_act 154 = .ok (.istore 4, 2) := by decide +kernel
theorem dX6_act_156 : decode cX6_act 156 = .ok (.iconst 0, 1) := by decide +kernel
theorem dX6_act_157 : decode cX6_act 157 = .ok (.istore 5, 2) := by decide +kernel
theorem dX6_act_159 : decode cX6_act 159 = .ok (.iload 5, 2) := by decide +kernel
theorem dX6_act_161 : decode cX6_act 161 = .ok (.aload_n 0, 1) := by decide +kernel
theorem dX6_act_162 : decode cX6_act 162 = .ok (.getfield 7, 3) := by decide +kernel
theorem dX6_act_165 : decode cX6_act 165 = .ok (.iload_n 1, 1) := by decide +kernel
theorem dX6_act_166 : decode cX6_act 166 = .ok (.iaload, 1) := by decide +kernel
theorem dX6_act_167 : decode cX6_act 167 = .ok (.if_icmp .ge 62, 3) := by decide +kernel
theorem dX6_act_170 : decode cX6_act 170 = .ok (.aload_n 0, 1) := by decide +kernel
theorem dX6_act_171 : decode cX6_act 171 = .ok (.iload_n 1, 1) := by decide +kernel
theorem dX6_act_172 : decode cX6_act 172 = .ok (.iload 5, 2) := by decide +kernel
theorem dX6_act_174 : decode cX6_act 174 = .ok (.invokevirtual 230, 3) := by decide +kernel
theorem dX6_act_177 : decode cX6_act 177 = .ok (.ifCond .eq 46, 3) := by decide +kernel
theorem dX6_act_180 : decode cX6_act 180 = .ok (.aload_n 0, 1) := by decide +kernel
theorem dX6_act_181 : decode cX6_act 181 = .ok (.getfield 28, 3) := by decide +kernel
theorem dX6_act_184 : decode cX6_act 184 = .ok (.iconst 5, 1) := by decide +kernel
theorem dX6_act_185 : decode cX6_act 185 = .ok (.iload_n 1, 1) := by decide +kernel
theorem dX6_act_186 : decode cX6_act 186 = .ok (.imul, 1) := by decide +kernel
theorem dX6_act_187 : decode cX6_act 187 = .ok (.iload 5, 2) := by decide +kernel
theorem dX6_act_189 : decode cX6_act 189 = .ok (.iadd, 1) := by decide +kernel
theorem dX6_act_190 : decode cX6_act 190 = .ok (.baload, 1) := by decide +kernel
theorem dX6_act_191 : decode cX6_act 191 = .ok (.ifCond .eq 6, 3) := by decide +kernel
theorem dX6_act_194 : decode cX6_act 194 = .ok (.goto 29, 3) := by decide +kernel
theorem dX6_act_197 : decode cX6_act 197 = .ok (.aload_n 0, 1) := by decide +kernel
theorem dX6_act_198 : decode cX6_act 198 = .ok (.iload_n 1, 1) := by decide +kernel
theorem dX6_act_199 : decode cX6_act 199 = .ok (.iload 5, 2) := by decide +kernel
theorem dX6_act_201 : decode cX6_act 201 = .ok (.invokevirtual 233, 3) := by decide +kernel
theorem dX6_act_204 : decode cX6_act 204 = .ok (.istore 6, 2) := by decide +kernel
theorem dX6_act_206 : decode cX6_act 206 = .ok (.iload 6, 2) := by decide +kernel
theorem dX6_act_208 : decode cX6_act 208 = .ok (.iload 4, 2) := by decide +kernel
theorem dX6_act_210 : decode cX6_act 210 = .ok (.if_icmp .lt 6, 3) := by decide +kernel
theorem dX6_act_213 : decode cX6_act 213 = .ok (.goto 10, 3) := by decide +kernel
theorem dX6_act_216 : decode cX6_act 216 = .ok (.iload 5, 2) := by decide +kernel
theorem dX6_act_218 : decode cX6_act 218 = .ok (.istore_n 3, 1) := by decide +kernel
theorem dX6_act_219 : decode cX6_act 219 = .ok (.iload 6, 2) := by decide +kernel
theorem dX6_act_221 : decode cX6_act 221 = .ok (.istore 4, 2) := by decide +kernel
theorem dX6_act_223 : decode cX6_act 223 = .ok (.iinc 5 1, 3) := by decide +kernel
theorem dX6_act_226 : decode cX6_act 226 = .ok (.goto (-67), 3) := by decide +kernel
theorem dX6_act_229 : decode cX6_act 229 = .ok (.sipush 200, 3) := by decide +kernel
theorem dX6_act_232 : decode cX6_act 232 = .ok (.bipush 10, 2) := by decide +kernel
theorem dX6_act_234 : decode cX6_act 234 = .ok (.iload_n 3, 1) := by decide +kernel
theorem dX6_act_235 : decode cX6_act 235 = .ok (.imul, 1) := by decide +kernel
theorem dX6_act_236 : decode cX6_act 236 = .ok (.iadd, 1) := by decide +kernel
theorem dX6_act_237 : decode cX6_act 237 = .ok (.ireturn, 1) := by decide +kernel
theorem dX6_about_0 : decode cX6_about 0 = .ok (.aload_n 0, 1) := by decide +kernel
theorem dX6_about_1 : decode cX6_about 1 = .ok (.iload_n 1, 1) := by decide +kernel
theorem dX6_about_2 : decode cX6_about 2 = .ok (.iload_n 2, 1) := by decide +kernel
theorem dX6_about_3 : decode cX6_about 3 = .ok (.invokevirtual 122, 3) := by decide +kernel
theorem dX6_about_6 : decode cX6_about 6 = .ok (.ifCond .ne 5, 3) := by decide +kernel
theorem dX6_about_9 : decode cX6_about 9 = .ok (.iconst (-1), 1) := by decide +kernel
theorem dX6_about_10 : decode cX6_about 10 = .ok (.ireturn, 1) := by decide +kernel
theorem dX6_about_11 : decode cX6_about 11 = .ok (.iconst 5, 1) := by decide +kernel
theorem dX6_about_12 : decode cX6_about 12 = .ok (.iload_n 1, 1) := by decide +kernel
theorem dX6_about_13 : decode cX6_about 13 = .ok (.imul, 1) := by decide +kernel
theorem dX6_about_14 : decode cX6_about 14 = .ok (.iload_n 2, 1) := by decide +kernel
theorem dX6_about_15 : decode cX6_about 15 = .ok (.iadd, 1) := by decide +kernel
theorem dX6_about_16 : decode cX6_about 16 = .ok (.istore 4, 2) := by decide +kernel
theorem dX6_about_18 : decode cX6_about 18 = .ok (.aload_n 0, 1) := by decide +kernel
theorem dX6_about_19 : decode cX6_about 19 = .ok (.iload 4, 2) := by decide +kernel
theorem dX6_about_21 : decode cX6_about 21 = .ok (.invokevirtual 153, 3) := by decide +kernel
theorem dX6_about_24 : decode cX6_about 24 = .ok (.istore 5, 2) := by decide +kernel
theorem dX6_about_26 : decode cX6_about 26 = .ok (.iload_n 3, 1) := by decide +kernel
theorem dX6_about_27 : decode cX6_about 27 = .ok (.tableswitch 112 0 4 #[33, 69, 81, 96, 104], 33) := by decide +kernel
theorem dX6_about_60 : decode cX6_about 60 = .ok (.aload_n 0, 1) := by decide +kernel
theorem dX6_about_61 : decode cX6_about 61 = .ok (.getfield 13, 3) := by decide +kernel
theorem dX6_about_64 : decode cX6_about 64 = .ok (.iload 4, 2) := by decide +kernel
theorem dX6_about_66 : decode cX6_about 66 = .ok (.iaload, 1) := by decide +kernel
theorem dX6_about_67 : decode cX6_about 67 = .ok (.iconst 1, 1) := by decide +kernel
theorem dX6_about_68 : decode cX6_about 68 = .ok (.if_icmp .eq 13, 3) := by decide +kernel
theorem dX6_about_71 : decode cX6_about 71 = .ok (.aload_n 0, 1) := by decide +kernel
theorem dX6_about_72 : decode cX6_about 72 = .ok (.getfield 25, 3) := by decide +kernel
theorem dX6_about_75 : decode cX6_about 75 = .ok (.iload 4, 2) := by decide +kernel
theorem dX6_about_77 : decode cX6_about 77 = .ok (.iaload, 1) := by decide +kernel
theorem dX6_about_78 : decode cX6_about 78 = .ok (.goto 17, 3) := by decide +kernel
theorem dX6_about_81 : decode cX6_about 81 = .ok (.iload 5, 2) := by decide +kernel
theorem dX6_about_83 : decode cX6_about 83 = .ok (.iconst (-1), 1) := by decide +kernel
theorem dX6_about_84 : decode cX6_about 84 = .ok (.if_icmp .ne 7, 3) := by decide +kernel
theorem dX6_about_87 : decode cX6_about 87 = .ok (.iconst 0, 1) := by decide +kernel
theorem dX6_about_88 : decode cX6_about 88 = .ok (.goto 7, 3) := by decide +kernel
theorem dX6_about_91 : decode cX6_about 91 = .ok (.iconst 1, 1) := by decide +kernel
theorem dX6_about_92 : decode cX6_about 92 = .ok (.iload 5, 2) := by decide +kernel
theorem dX6_about_94 : decode cX6_about 94 = .ok (.ishl, 1) := by decide +kernel
theorem dX6_about_95 : decode cX6_about 95 = .ok (.ireturn, 1) := by decide +kernel
theorem dX6_about_96 : decode cX6_about 96 = .ok (.iload 5, 2) := by decide +kernel
theorem dX6_about_98 : decode cX6_about 98 = .ok (.iconst (-1), 1) := by decide +kernel
theorem dX6_about_99 : decode cX6_about 99 = .ok (.if_icmp .ne 7, 3) := by decide +kernel
theorem dX6_about_102 : decode cX6_about 102 = .ok (.iconst 0, 1) := by decide +kernel
theorem dX6_about_103 : decode cX6_about 103 = .ok (.goto 4, 3) := by decide +kernel
theorem dX6_about_106 : decode cX6_about 106 = .ok (.iconst 1, 1) := by decide +kernel
theorem dX6_about_107 : decode cX6_about 107 = .ok (.ireturn, 1) := by decide +kernel
theorem dX6_about_108 : decode cX6_about 108 = .ok (.aload_n 0, 1) := by decide +kernel
theorem dX6_about_109 : decode cX6_about 109 = .ok (.iload_n 1, 1) := by decide +kernel
theorem dX6_about_110 : decode cX6_about 110 = .ok (.iload_n 2, 1) := by decide +kernel
theorem dX6_about_111 : decode cX6_about 111 = .ok (.invokevirtual 230, 3) := by decide +kernel
theorem dX6_about_114 : decode cX6_about 114 = .ok (.ifCond .eq 7, 3) := by decide +kernel
theorem dX6_about_117 : decode cX6_about 117 = .ok (.iconst 1, 1) := by decide +kernel
theorem dX6_about_118 : decode cX6_about 118 = .ok (.goto 4, 3) := by decide +kernel
theorem dX6_about_121 : decode cX6_about 121 = .ok (.iconst 0, 1) := by decide +kernel
theorem dX6_about_122 : decode cX6_about 122 = .ok (.ireturn, 1) := by decide +kernel
theorem dX6_about_123 : decode cX6_about 123 = .ok (.aload_n 0, 1) := by decide +kernel
theorem dX6_about_124 : decode cX6_about 124 = .ok (.getfield 13, 3) := by decide +kernel
theorem dX6_about_127 : decode cX6_about 127 = .ok (.iload 4, 2) := by decide +kernel
theorem dX6_about_129 : decode cX6_about 129 = .ok (.iaload, 1) := by decide +kernel
theorem dX6_about_130 : decode cX6_about 130 = .ok (.ireturn, 1) := by decide +kernel
theorem dX6_about_131 : decode cX6_about 131 = .ok (.aload_n 0, 1) := by decide +kernel
theorem dX6_about_132 : decode cX6_about 132 = .ok (.getfield 16, 3) := by decide +kernel
theorem dX6_about_135 : decode cX6_about 135 = .ok (.iload 4, 2) := by decide +kernel
theorem dX6_about_137 : decode cX6_about 137 = .ok (.iaload, 1) := by decide +kernel
theorem dX6_about_138 : decode cX6_about 138 = .ok (.ireturn, 1) := by decide +kernel
theorem dX6_about_139 : decode cX6_about 139 = .ok (.iconst (-1), 1) := by decide +kernel
theorem dX6_about_140 : decode cX6_about 140 = .ok (.ireturn, 1) := by decide +kernel
theorem dX6_said_0 : decode cX6_said 0 = .ok (.aload_n 0, 1) := by decide +kernel
theorem dX6_said_1 : decode cX6_said 1 = .ok (.iload_n 1, 1) := by decide +kernel
theorem dX6_said_2 : decode cX6_said 2 = .ok (.iload_n 2, 1) := by decide +kernel
theorem dX6_said_3 : decode cX6_said 3 = .ok (.iload_n 3, 1) := by decide +kernel
theorem dX6_said_4 : decode cX6_said 4 = .ok (.invokevirtual 136, 3) := by decide +kernel
theorem dX6_said_7 : decode cX6_said 7 = .ok (.ifCond .ne 5, 3) := by decide +kernel
theorem dX6_said_10 : decode cX6_said 10 = .ok (.iconst (-1), 1) := by decide +kernel
theorem dX6_said_11 : decode cX6_said 11 = .ok (.ireturn, 1) := by decide +kernel
theorem dX6_said_12 : decode cX6_said 12 = .ok (.iconst 0, 1) := by decide +kernel
theorem dX6_said_13 : decode cX6_said 13 = .ok (.istore 4, 2) := by decide +kernel
theorem dX6_said_15 : decode cX6_said 15 = .ok (.iload 4, 2) := by decide +kernel
theorem dX6_said_17 : decode cX6_said 17 = .ok (.bipush 64, 2) := by decide +kernel
theorem dX6_said_19 : decode cX6_said 19 = .ok (.if_icmp .ge 32, 3) := by decide +kernel
theorem dX6_said_22 : decode cX6_said 22 = .ok (.aload_n 0, 1) := by decide +kernel
theorem dX6_said_23 : decode cX6_said 23 = .ok (.getfield 50, 3) := by decide +kernel
theorem dX6_said_26 : decode cX6_said 26 = .ok (.bipush 64, 2) := by decide +kernel
theorem dX6_said_28 : decode cX6_said 28 = .ok (.iload_n 1, 1) := by decide +kernel
theorem dX6_said_29 : decode cX6_said 29 = .ok (.imul, 1) := by decide +kernel
theorem dX6_said_30 : decode cX6_said 30 = .ok (.iload 4, 2) := by decide +kernel
theorem dX6_said_32 : decode cX6_said 32 = .ok (.iadd, 1) := by decide +kernel
theorem dX6_said_33 : decode cX6_said 33 = .ok (.iaload, 1) := by decide +kernel
theorem dX6_said_34 : decode cX6_said 34 = .ok (.iconst 4, 1) := by decide +kernel
theorem dX6_said_35 : decode cX6_said 35 = .ok (.iload_n 2, 1) := by decide +kernel
theorem dX6_said_36 : decode cX6_said 36 = .ok (.imul, 1) := by decide +kernel
theorem dX6_said_37 : decode cX6_said 37 = .ok (.iload_n 3, 1) := by decide +kernel
theorem dX6_said_38 : decode cX6_said 38 = .ok (.iadd, 1) := by decide +kernel
theorem dX6_said_39 : decode cX6_said 39 = .ok (.if_icmp .ne 6, 3) := by decide +kernel
theorem dX6_said_42 : decode cX6_said 42 = .ok (.iload 4, 2) := by decide +kernel
theorem dX6_said_44 : decode cX6_said 44 = .ok (.ireturn, 1) := by decide +kernel
theorem dX6_said_45 : decode cX6_said 45 = .ok (.iinc 4 1, 3) := by decide +kernel
theorem dX6_said_48 : decode cX6_said 48 = .ok (.goto (-33), 3) := by decide +kernel
theorem dX6_said_51 : decode cX6_said 51 = .ok (.iconst (-1), 1) := by decide +kernel
theorem dX6_said_52 : decode cX6_said 52 = .ok (.ireturn, 1) := by decide +kernel
theorem dX6_heard_0 : decode cX6_heard 0 = .ok (.iload_n 1, 1) := by decide +kernel
theorem dX6_heard_1 : decode cX6_heard 1 = .ok (.tableswitch 60 0 4 #[35, 40, 45, 50, 55], 35) := by decide +kernel
theorem dX6_heard_36 : decode cX6_heard 36 = .ok (.aload_n 0, 1) := by decide +kernel
theorem dX6_heard_37 : decode cX6_heard 37 = .ok (.getfield 200, 3) := by decide +kernel
theorem dX6_heard_40 : decode cX6_heard 40 = .ok (.ireturn, 1) := by decide +kernel
theorem dX6_heard_41 : decode cX6_heard 41 = .ok (.aload_n 0, 1) := by decide +kernel
theorem dX6_heard_42 : decode cX6_heard 42 = .ok (.getfield 203, 3) := by decide +kernel
theorem dX6_heard_45 : decode cX6_heard 45 = .ok (.ireturn, 1) := by decide +kernel
theorem dX6_heard_46 : decode cX6_heard 46 = .ok (.aload_n 0, 1) := by decide +kernel
theorem dX6_heard_47 : decode cX6_heard 47 = .ok (.getfield 206, 3) := by decide +kernel
theorem dX6_heard_50 : decode cX6_heard 50 = .ok (.ireturn, 1) := by decide +kernel
theorem dX6_heard_51 : decode cX6_heard 51 = .ok (.aload_n 0, 1) := by decide +kernel
theorem dX6_heard_52 : decode cX6_heard 52 = .ok (.getfield 209, 3) := by decide +kernel
theorem dX6_heard_55 : decode cX6_heard 55 = .ok (.ireturn, 1) := by decide +kernel
theorem dX6_heard_56 : decode cX6_heard 56 = .ok (.aload_n 0, 1) := by decide +kernel
theorem dX6_heard_57 : decode cX6_heard 57 = .ok (.getfield 102, 3) := by decide +kernel
theorem dX6_heard_60 : decode cX6_heard 60 = .ok (.ireturn, 1) := by decide +kernel
theorem dX6_heard_61 : decode cX6_heard 61 = .ok (.iconst (-1), 1) := by decide +kernel
theorem dX6_heard_62 : decode cX6_heard 62 = .ok (.ireturn, 1) := by decide +kernel
theorem dX6_count_0 : decode cX6_count 0 = .ok (.iload_n 1, 1) := by decide +kernel
theorem dX6_count_1 : decode cX6_count 1 = .ok (.tableswitch 114 0 7 #[47, 52, 75, 89, 94, 99, 104, 109], 47) := by decide +kernel
theorem dX6_count_48 : decode cX6_count 48 = .ok (.aload_n 0, 1) := by decide +kernel
theorem dX6_count_49 : decode cX6_count 49 = .ok (.getfield 126, 3) := by decide +kernel
theorem dX6_count_52 : decode cX6_count 52 = .ok (.ireturn, 1) := by decide +kernel
theorem dX6_count_53 : decode cX6_count 53 = .ok (.aload_n 0, 1) := by decide +kernel
theorem dX6_count_54 : decode cX6_count 54 = .ok (.getfield 126, 3) := by decide +kernel
theorem dX6_count_57 : decode cX6_count 57 = .ok (.ifCond .ne 7, 3) := by decide +kernel
theorem dX6_count_60 : decode cX6_count 60 = .ok (.iconst (-1), 1) := by decide +kernel
theorem dX6_count_61 : decode cX6_count 61 = .ok (.goto 14, 3) := by decide +kernel
theorem dX6_count_64 : decode cX6_count 64 = .ok (.aload_n 0, 1) := by decide +kernel
theorem dX6_count_65 : decode cX6_count 65 = .ok (.getfield 71, 3) := by decide +kernel
theorem dX6_count_68 : decode cX6_count 68 = .ok (.aload_n 0, 1) := by decide +kernel
theorem dX6_count_69 : decode cX6_count 69 = .ok (.getfield 126, 3) := by decide +kernel
theorem dX6_count_72 : decode cX6_count 72 = .ok (.iconst 1, 1) := by decide +kernel
theorem dX6_count_73 : decode cX6_count 73 = .ok (.isub, 1) := by decide +kernel
theorem dX6_count_74 : decode cX6_count 74 = .ok (.iaload, 1) := by decide +kernel
theorem dX6_count_75 : decode cX6_count 75 = .ok (.ireturn, 1) := by decide +kernel
theorem dX6_count_76 : decode cX6_count 76 = .ok (.aload_n 0, 1) := by decide +kernel
theorem dX6_count_77 : decode cX6_count 77 = .ok (.getfield 215, 3) := by decide +kernel
theorem dX6_count_80 : decode cX6_count 80 = .ok (.iconst 3, 1) := by decide +kernel
theorem dX6_count_81 : decode cX6_count 81 = .ok (.if_icmp .lt 7, 3) := by decide +kernel
theorem dX6_count_84 : decode cX6_count 84 = .ok (.iconst 1, 1) := by decide +kernel
theorem dX6_count_85 : decode cX6_count 85 = .ok (.goto 4, 3) := by decide +kernel
theorem dX6_count_88 : decode cX6_count 88 = .ok (.iconst 0, 1) := by decide +kernel
theorem dX6_count_89 : decode cX6_count 89 = .ok (.ireturn, 1) := by decide +kernel
theorem dX6_count_90 : decode cX6_count 90 = .ok (.aload_n 0, 1) := by decide +kernel
theorem dX6_count_91 : decode cX6_count 91 = .ok (.getfield 156, 3) := by decide +kernel
theorem dX6_count_94 : decode cX6_count 94 = .ok (.ireturn, 1) := by decide +kernel
theorem dX6_count_95 : decode cX6_count 95 = .ok (.aload_n 0, 1) := by decide +kernel
theorem dX6_count_96 : decode cX6_count 96 = .ok (.getfield 159, 3) := by decide +kernel
theorem dX6_count_99 : decode cX6_count 99 = .ok (.ireturn, 1) := by decide +kernel
theorem dX6_count_100 : decode cX6_count 100 = .ok (.aload_n 0, 1) := by decide +kernel
theorem dX6_count_101 : decode cX6_count 101 = .ok (.getfield 143, 3) := by decide +kernel
theorem dX6_count_104 : decode cX6_count 104 = .ok (.ireturn, 1) := by decide +kernel
theorem dX6_count_105 : decode cX6_count 105 = .ok (.aload_n 0, 1) := by decide +kernel
theorem dX6_count_106 : decode cX6_count 106 = .ok (.getfield 111, 3) := by decide +kernel
theorem dX6_count_109 : decode cX6_count 109 = .ok (.ireturn, 1) := by decide +kernel
theorem dX6_count_110 : decode cX6_count 110 = .ok (.aload_n 0, 1) := by decide +kernel
theorem dX6_count_111 : decode cX6_count 111 = .ok (.getfield 146, 3) := by decide +kernel
theorem dX6_count_114 : decode cX6_count 114 = .ok (.ireturn, 1) := by decide +kernel
theorem dX6_count_115 : decode cX6_count 115 = .ok (.iconst (-1), 1) := by decide +kernel
theorem dX6_count_116 : decode cX6_count 116 = .ok (.ireturn, 1) := by decide +kernel
end
section
/-! the machine's context of one running method, in one value -/
abbrev kX : Type := Program × Launch × Env × Room × State × MethodId × Array Value × List Frame × Method × Code
abbrev kx_R (X : kX) : Room := X.2.2.2.1
abbrev kx_s (X : kX) : State := X.2.2.2.2.1
abbrev kx_m (X : kX) : MethodId := X.2.2.2.2.2.1
abbrev kx_a (X : kX) : Array Value := X.2.2.2.2.2.2.1
abbrev kx_b (X : kX) : List Frame := X.2.2.2.2.2.2.2.1
abbrev kx_t (X : kX) : Method := X.2.2.2.2.2.2.2.2.1
abbrev kx_c (X : kX) : Code := X.2.2.2.2.2.2.2.2.2
def kW (X : kX) (cs : Nat × Nat) (H : Heap) (locs : List Loc) (Q : State → Prop) (g : JFrame) : Prop := W X.1 X.2.1 X.2.2.1 (kx_R X) (kx_s X) (kx_m X) (kx_a X) (kx_b X) (kx_t X) (kx_c X) H locs cs.1 cs.2 Q g
/-- the world's frame: the first address that is ours, where each cell lies, how many there are, the numbers of the kinds of objects and rows -/
abbrev kG : Type := Nat × (Nat → Nat) × Nat × va_G × ClassId × ClassId × ClassId
abbrev kg_b (G : kG) : Nat := G.1
abbrev kg_ad (G : kG) : Nat → Nat := G.2.1
abbrev kg_N (G : kG) : Nat := G.2.2.1
abbrev kg_D (G : kG) : va_G := G.2.2.2.1
abbrev kg_I (G : kG) : ClassId := G.2.2.2.2.1
abbrev kg_Z (G : kG) : ClassId := G.2.2.2.2.2.1
abbrev kg_F (G : kG) : ClassId := G.2.2.2.2.2.2
abbrev kg_tys (G : kG) : List (ClassId × FieldType) := [(kg_I G, .int), (kg_Z G, .boolean), (kg_F G, .object RX0)]
def kwl (ad : Nat → Nat) (N : Nat) (f : Nat → va_E) : va_W := (List.range N).map (fun d => (ad d, f d))
theorem kwl_get {ad : Nat → Nat} {N : Nat} {f : Nat → va_E} {d : Nat} (h : d < N) : (kwl ad N f)[d]? = some (ad d, f d) := by simp [kwl, h]
theorem kwl_of {ad : Nat → Nat} {N : Nat} {f : Nat → va_E} {d : Nat} {q : Nat × va_E} (h : (kwl ad N f)[d]? = some q) : d < N ∧ q = (ad d, f d) := by
  have hd : d < N := by
    have := (List.getElem?_eq_some_iff.mp h).1
    simpa [kwl] using this
  rw [kwl_get hd] at h
  exact ⟨hd, (Option.some.inj h).symm⟩
theorem kwl_set {ad : Nat → Nat} {N : Nat} {f : Nat → va_E} {d : Nat} {e : va_E} : (kwl ad N f).set d (ad d, e) = kwl ad N (va_up f d e) := by
  apply List.ext_getElem?
  intro i
  rw [List.getElem?_set]
  by_cases hi : i < N
  · rw [kwl_get hi, kwl_get hi]
    by_cases h : d = i
    · subst h
      simp [kwl, hi, va_up]
    · rw [if_neg h, va_up_ne _ _ (fun q => h q.symm)]
  · have e1 : ∀ g : Nat → va_E, (kwl ad N g)[i]? = none := fun g => by simp [kwl]; omega
    rw [e1, e1]
    split
    · rw [if_neg (by simp [kwl]; omega)]
    · rfl
theorem kwl_D {ad : Nat → Nat} {N : Nat} {f : Nat → va_E} {A : Nat → Prop} (h1 : ∀ i j, i < N → j < N → ad i = ad j → i = j) (h2 : ∀ d, d < N → A (ad d)) : va_D A (kwl ad N f) := by
  refine ⟨fun i j p q hp hq hpq => ?_, fun k q hq => ?_⟩
  · obtain ⟨a1, rfl⟩ := kwl_of hp
    obtain ⟨a2, rfl⟩ := kwl_of hq
    exact h1 i j a1 a2 hpq
  · obtain ⟨a1, rfl⟩ := kwl_of hq
    exact h2 k a1
theorem kwl_congr {ad ad' : Nat → Nat} {N : Nat} {f g : Nat → va_E} (h1 : ∀ d, d < N → ad d = ad' d) (h : ∀ d, d < N → f d = g d) : kwl ad N f = kwl ad' N g := by
  apply List.map_congr_left
  intro d hd
  have := List.mem_range.mp hd
  rw [h1 d this, h d this]
theorem kwl_push {ad : Nat → Nat} {N : Nat} {f : Nat → va_E} {q : Nat} {e : va_E} : kwl ad N f ++ [(q, e)] = kwl (va_up ad N q) (N + 1) (va_up f N e) := by
  have h : kwl ad N f = kwl (va_up ad N q) N (va_up f N e) := kwl_congr (fun d hd => (va_up_ne _ _ (Nat.ne_of_lt hd)).symm) (fun d hd => (va_up_ne _ _ (Nat.ne_of_lt hd)).symm)
  rw [h]
  simp [kwl, List.range_succ, va_up]
/-- the words of links between nest mates, which no other word keeps -/
def kNw (s : State) : Prop := va_Nw (.methodLinkNest "TalkKeeper" 21 yX4_init "TalkKeeper") s ∧ va_Nw (.methodLinkNest "TalkKeeper" 41 yX3_init "TalkKeeper") s ∧ va_Nw (.methodLinkNest "TalkKeeper" 48 yX2_init "TalkKeeper") s ∧ va_Nw (.methodLinkNest "TalkKeeper$Form" 68 yX5_isWord "TalkKeeper") s
theorem kNw.warm {s U : State} (hW : s.WarmedH U.vm) (h : kNw s) : kNw U := ⟨va_Nw.warmM hW h.1, va_Nw.warmM hW h.2.1, va_Nw.warmM hW h.2.2.1, va_Nw.warmM hW h.2.2.2⟩
theorem kNw.same {s U : State} (hv : s.vm = U.vm) (h : kNw s) : kNw U := ⟨va_Nw.same rfl hv h.1, va_Nw.same rfl hv h.2.1, va_Nw.same rfl hv h.2.2.1, va_Nw.same rfl hv h.2.2.2⟩
/-- what holds of a running method: the machine, its code, the tables' words, the frame of the world -/
def kF (X : kX) (cc : ByteArray) (own : String) (nL : Nat) (ret : Option FieldType) (G : kG) (R : Room) : Prop :=
  CallFix X.1 (kx_m X) (kx_c X) cc nL (kx_s X) (kx_a X) wsL_law own ∧ va_K (kg_D G) vwCl (kg_tys G) (kx_s X) ∧ kNw (kx_s X) ∧
  (∀ i j, i < kg_N G → j < kg_N G → kg_ad G i = kg_ad G j → i = j) ∧ (∀ d, d < kg_N G → kg_b G ≤ kg_ad G d) ∧ kg_b G ≤ (kx_s X).heap.size ∧ (kx_t X).sig.returnType = ret ∧ (kx_t X).locks = false ∧ kx_R X = R
def kLs (ls : Array Slot) (nL : Nat) (lv : List (Option Value)) : Prop := ls.size = nL ∧ lv_wf ls ∧ ∀ (i : Nat) (v : Value), lv[i]? = some (some v) → ls[i]? = some (.val v) ∧ v.category = 1
/-- one method's frame: context, own name, locals, answer's type, world's frame, room, cells and slots made so far, the end that is sought -/
abbrev kY : Type := kX × String × Nat × Option FieldType × kG × Room × (Nat × Nat) × (State → Prop)
abbrev ky_X (Y : kY) : kX := Y.1
abbrev ky_own (Y : kY) : String := Y.2.1
abbrev ky_nL (Y : kY) : Nat := Y.2.2.1
abbrev ky_ret (Y : kY) : Option FieldType := Y.2.2.2.1
abbrev ky_G (Y : kY) : kG := Y.2.2.2.2.1
abbrev ky_R (Y : kY) : Room := Y.2.2.2.2.2.1
abbrev ky_cs (Y : kY) : Nat × Nat := Y.2.2.2.2.2.2.1
abbrev ky_Q (Y : kY) : State → Prop := Y.2.2.2.2.2.2.2
def kV (Y : kY) (cc : ByteArray) (f : Nat → va_E) (lv : List (Option Value)) (st : List Value) (pc : Nat) : Prop :=
  kF (ky_X Y) cc (ky_own Y) (ky_nL Y) (ky_ret Y) (ky_G Y) (ky_R Y) → ∀ (H : Heap) (locs : List Loc) (ls : Array Slot), va_P (kg_D (ky_G Y)) vwCl (kwl (kg_ad (ky_G Y)) (kg_N (ky_G Y)) f) H → va_S (fun q => kg_b (ky_G Y) ≤ q) (kx_s (ky_X Y)).heap H locs → kLs ls (ky_nL Y) lv →
    kW (ky_X Y) (ky_cs Y) H locs (ky_Q Y) (F0 (kx_m (ky_X Y)) pc ls st)
theorem kF.D {X : kX} {cc : ByteArray} {own : String} {nL : Nat} {ret : Option FieldType} {G : kG} {R : Room} (F : kF X cc own nL ret G R) {f : Nat → va_E} : va_D (fun q => kg_b G ≤ q) (kwl (kg_ad G) (kg_N G) f) := kwl_D F.2.2.2.1 F.2.2.2.2.1
/-- fewer locals -/
def kLe : List (Option Value) → List Bool → List (Option Value)
  | a :: l, true :: b => a :: kLe l b
  | _ :: l, false :: b => none :: kLe l b
  | _, _ => []
theorem kLe_spec : ∀ (l : List (Option Value)) (b : List Bool) (i : Nat) (v : Value), (kLe l b)[i]? = some (some v) → l[i]? = some (some v)
  | a :: l, true :: b, 0, v, h => h
  | a :: l, true :: b, i + 1, v, h => kLe_spec l b i v (by simpa [kLe] using h)
  | a :: l, false :: b, 0, v, h => by simp [kLe] at h
  | a :: l, false :: b, i + 1, v, h => by simpa using kLe_spec l b i v (by simpa [kLe] using h)
  | [], _, i, v, h => by simp [kLe] at h
  | _ :: _, [], i, v, h => by simp [kLe] at h
def kAs (lv : List (Option Value)) : List (Nat × Value) := (List.range lv.length).filterMap (fun i => match lv[i]? with | some (some v) => some (i, v) | _ => none)
theorem kAs_mem {lv : List (Option Value)} {q : Nat × Value} : q ∈ kAs lv ↔ lv[q.1]? = some (some q.2) := by
  unfold kAs
  rw [List.mem_filterMap]
  constructor
  · rintro ⟨i, -, h⟩
    split at h
    · next v hv => cases h; exact hv
    · cases h
  · intro h
    refine ⟨q.1, List.mem_range.mpr (List.getElem?_eq_some_iff.mp h).1, ?_⟩
    rw [h]
theorem kLs.has {ls : Array Slot} {nL : Nat} {lv : List (Option Value)} (h : kLs ls nL lv) : lv_has ls nL (kAs lv) := ⟨h.1, h.2.1, fun q hq => (h.2.2 q.1 q.2 (kAs_mem.mp hq)).1⟩
theorem kLs.stored {ls ls' : Array Slot} {nL i : Nat} {v : Value} {lv : List (Option Value)} (h : kLs ls nL lv) (hc : v.category = 1) (h' : lv_has ls' nL ((i, v) :: (kAs lv).filter (fun q => !(q.1 == i) && !(q.1 + 1 == i && q.2.category == 2)))) : kLs ls' nL (lv.set i (some v)) := by
  refine ⟨h'.1, h'.2.1, fun j w hj => ?_⟩
  rw [List.getElem?_set] at hj
  by_cases e : i = j
  · subst e
    rw [if_pos rfl] at hj
    split at hj
    · cases hj
      exact ⟨h'.2.2 (i, v) List.mem_cons_self, hc⟩
    · cases hj
  · rw [if_neg e] at hj
    have hcat := (h.2.2 j w hj).2
    refine ⟨h'.2.2 (j, w) (List.mem_cons_of_mem _ (List.mem_filter.mpr ⟨kAs_mem.mpr hj, ?_⟩)), hcat⟩
    simp [hcat, Ne.symm e]
section KROWS
variable {Y : kY} {cc : ByteArray} {f : Nat → va_E} {lv : List (Option Value)} {st : List Value} {pc : Nat}
theorem kV_drop (b : List Bool) {lv' : List (Option Value)} (hl : kLe lv b = lv') (kk : kV Y cc f lv' st pc) : kV Y cc f lv st pc :=
  fun F H locs ls hP hS hL => kk F H locs ls hP hS ⟨hL.1, hL.2.1, fun i v h => hL.2.2 i v (by rw [← hl] at h; exact kLe_spec lv b i v h)⟩
theorem kV_iconst {n : Int} {v : Int32} (pc' : Nat) (hd : decode cc pc = .ok (.iconst n, 1)) (hv : Int32.ofInt n = v) (hp : pc + 1 = pc') (kk : kV Y cc f lv (.int v :: st) pc') : kV Y cc f lv st pc :=
  fun F H locs ls hP hS hL => by subst hp; exact lv_iconst F.1.1 F.1.2.1 hd hv (kk F H locs ls hP hS hL)
theorem kV_bipush {n : Int} {v : Int32} (pc' : Nat) (hd : decode cc pc = .ok (.bipush n, 2)) (hv : (Int8.ofInt n).toInt32 = v) (hp : pc + 2 = pc') (kk : kV Y cc f lv (.int v :: st) pc') : kV Y cc f lv st pc :=
  fun F H locs ls hP hS hL => by subst hp; exact lv_bipush F.1.1 F.1.2.1 hd hv (kk F H locs ls hP hS hL)
theorem kV_sipush {n : Int} {v : Int32} (pc' : Nat) (hd : decode cc pc = .ok (.sipush n, 3)) (hv : (Int16.ofInt n).toInt32 = v) (hp : pc + 3 = pc') (kk : kV Y cc f lv (.int v :: st) pc') : kV Y cc f lv st pc :=
  fun F H locs ls hP hS hL => by subst hp; exact lv_sipush F.1.1 F.1.2.1 hd hv (kk F H locs ls hP hS hL)
theorem kV_ldc {index : Nat} {v : Int32} (pc' : Nat) (hd : decode cc pc = .ok (.ldc index, 2)) (hc : Cond.constant (ky_own Y) index v ∈ wsL_law) (hp : pc + 2 = pc') (kk : kV Y cc f lv (.int v :: st) pc') : kV Y cc f lv st pc :=
  fun F H locs ls hP hS hL => by subst hp; exact lv_ldc F.1.1 F.1.2.1 F.1.2.2.2.1 (F.1.2.2.2.2 _ hc) hd (kk F H locs ls hP hS hL)
theorem kV_ldcw {index : Nat} {v : Int32} (pc' : Nat) (hd : decode cc pc = .ok (.ldc_w index, 3)) (hc : Cond.constant (ky_own Y) index v ∈ wsL_law) (hp : pc + 3 = pc') (kk : kV Y cc f lv (.int v :: st) pc') : kV Y cc f lv st pc :=
  fun F H locs ls hP hS hL => by subst hp; exact lv_ldcw F.1.1 F.1.2.1 F.1.2.2.2.1 (F.1.2.2.2.2 _ hc) hd (kk F H locs ls hP hS hL)
theorem kV_iloadn {k : Fin 4} {x : Int32} (pc' : Nat) (hd : decode cc pc = .ok (.iload_n k, 1)) (hl : lv[(k : Nat)]? = some (some (.int x))) (hp : pc + 1 = pc') (kk : kV Y cc f lv (.int x :: st) pc') : kV Y cc f lv st pc :=
  fun F H locs ls hP hS hL => by subst hp; exact lv_iload_n F.1.1 F.1.2.1 hd rfl (hL.2.2 _ _ hl).1 (kk F H locs ls hP hS hL)
theorem kV_iload {k : Nat} {x : Int32} (pc' : Nat) (hd : decode cc pc = .ok (.iload k, 2)) (hl : lv[k]? = some (some (.int x))) (hp : pc + 2 = pc') (kk : kV Y cc f lv (.int x :: st) pc') : kV Y cc f lv st pc :=
  fun F H locs ls hP hS hL => by subst hp; exact lv_iload F.1.1 F.1.2.1 hd (hL.2.2 _ _ hl).1 (kk F H locs ls hP hS hL)
theorem kV_aloadn {k : Fin 4} {x : Nat} (pc' : Nat) (hd : decode cc pc = .ok (.aload_n k, 1)) (hl : lv[(k : Nat)]? = some (some (.ref x))) (hp : pc + 1 = pc') (kk : kV Y cc f lv (.ref x :: st) pc') : kV Y cc f lv st pc :=
  fun F H locs ls hP hS hL => by subst hp; exact lv_aload_n F.1.1 F.1.2.1 hd rfl (hL.2.2 _ _ hl).1 (kk F H locs ls hP hS hL)
theorem kV_aload {k : Nat} {x : Nat} (pc' : Nat) (hd : decode cc pc = .ok (.aload k, 2)) (hl : lv[k]? = some (some (.ref x))) (hp : pc + 2 = pc') (kk : kV Y cc f lv (.ref x :: st) pc') : kV Y cc f lv st pc :=
  fun F H locs ls hP hS hL => by subst hp; exact lv_aload F.1.1 F.1.2.1 hd (hL.2.2 _ _ hl).1 (kk F H locs ls hP hS hL)
theorem kV_aloadnN {k : Fin 4} (pc' : Nat) (hd : decode cc pc = .ok (.aload_n k, 1)) (hl : lv[(k : Nat)]? = some (some .null)) (hp : pc + 1 = pc') (kk : kV Y cc f lv (.null :: st) pc') : kV Y cc f lv st pc :=
  fun F H locs ls hP hS hL => by subst hp; exact lv_aload_nN F.1.1 F.1.2.1 hd rfl (hL.2.2 _ _ hl).1 (kk F H locs ls hP hS hL)
theorem kV_aloadN {k : Nat} (pc' : Nat) (hd : decode cc pc = .ok (.aload k, 2)) (hl : lv[k]? = some (some .null)) (hp : pc + 2 = pc') (kk : kV Y cc f lv (.null :: st) pc') : kV Y cc f lv st pc :=
  fun F H locs ls hP hS hL => by subst hp; exact lv_aloadN F.1.1 F.1.2.1 hd (hL.2.2 _ _ hl).1 (kk F H locs ls hP hS hL)
theorem kV_istoren {k : Fin 4} {x : Int32} (pc' : Nat) (lv' : List (Option Value)) (hd : decode cc pc = .ok (.istore_n k, 1)) (hn : Nat.blt (k : Nat) (ky_nL Y) = true) (hl : lv.set (k : Nat) (some (.int x)) = lv') (hp : pc + 1 = pc') (kk : kV Y cc f lv' st pc') : kV Y cc f lv (.int x :: st) pc :=
  fun F H locs ls hP hS hL => by subst hp; subst hl; exact lv_istore_n F.1.1 F.1.2.1 hd rfl hL.has (Nat.le_of_ble_eq_true hn) rfl (fun ls' h' => kk F H locs ls' hP hS (hL.stored rfl h'))
theorem kV_istore {k : Nat} {x : Int32} (pc' : Nat) (lv' : List (Option Value)) (hd : decode cc pc = .ok (.istore k, 2)) (hn : Nat.blt k (ky_nL Y) = true) (hl : lv.set k (some (.int x)) = lv') (hp : pc + 2 = pc') (kk : kV Y cc f lv' st pc') : kV Y cc f lv (.int x :: st) pc :=
  fun F H locs ls hP hS hL => by subst hp; subst hl; exact lv_istore F.1.1 F.1.2.1 hd hL.has (Nat.le_of_ble_eq_true hn) rfl (fun ls' h' => kk F H locs ls' hP hS (hL.stored rfl h'))
theorem kV_astoren {k : Fin 4} {x : Nat} (pc' : Nat) (lv' : List (Option Value)) (hd : decode cc pc = .ok (.astore_n k, 1)) (hn : Nat.blt (k : Nat) (ky_nL Y) = true) (hl : lv.set (k : Nat) (some (.ref x)) = lv') (hp : pc + 1 = pc') (kk : kV Y cc f lv' st pc') : kV Y cc f lv (.ref x :: st) pc :=
  fun F H locs ls hP hS hL => by subst hp; subst hl; exact lv_astore_n F.1.1 F.1.2.1 hd rfl hL.has (Nat.le_of_ble_eq_true hn) rfl (fun ls' h' => kk F H locs ls' hP hS (hL.stored rfl h'))
theorem kV_astore {k : Nat} {x : Nat} (pc' : Nat) (lv' : List (Option Value)) (hd : decode cc pc = .ok (.astore k, 2)) (hn : Nat.blt k (ky_nL Y) = true) (hl : lv.set k (some (.ref x)) = lv') (hp : pc + 2 = pc') (kk : kV Y cc f lv' st pc') : kV Y cc f lv (.ref x :: st) pc :=
  fun F H locs ls hP hS hL => by subst hp; subst hl; exact lv_astore F.1.1 F.1.2.1 hd hL.has (Nat.le_of_ble_eq_true hn) rfl (fun ls' h' => kk F H locs ls' hP hS (hL.stored rfl h'))
theorem kV_astorenN {k : Fin 4} (pc' : Nat) (lv' : List (Option Value)) (hd : decode cc pc = .ok (.astore_n k, 1)) (hn : Nat.blt (k : Nat) (ky_nL Y) = true) (hl : lv.set (k : Nat) (some .null) = lv') (hp : pc + 1 = pc') (kk : kV Y cc f lv' st pc') : kV Y cc f lv (.null :: st) pc :=
  fun F H locs ls hP hS hL => by subst hp; subst hl; exact lv_astore_nN F.1.1 F.1.2.1 hd rfl hL.has (Nat.le_of_ble_eq_true hn) rfl (fun ls' h' => kk F H locs ls' hP hS (hL.stored rfl h'))
theorem kV_astoreN {k : Nat} (pc' : Nat) (lv' : List (Option Value)) (hd : decode cc pc = .ok (.astore k, 2)) (hn : Nat.blt k (ky_nL Y) = true) (hl : lv.set k (some .null) = lv') (hp : pc + 2 = pc') (kk : kV Y cc f lv' st pc') : kV Y cc f lv (.null :: st) pc :=
  fun F H locs ls hP hS hL => by subst hp; subst hl; exact lv_astoreN F.1.1 F.1.2.1 hd hL.has (Nat.le_of_ble_eq_true hn) rfl (fun ls' h' => kk F H locs ls' hP hS (hL.stored rfl h'))
theorem kV_iinc {k : Nat} {n : Int} {x v : Int32} (pc' : Nat) (lv' : List (Option Value)) (hd : decode cc pc = .ok (.iinc k n, 3)) (hl0 : lv[k]? = some (some (.int x))) (hv : x + Int32.ofInt n = v) (hn : Nat.blt k (ky_nL Y) = true) (hl : lv.set k (some (.int v)) = lv') (hp : pc + 3 = pc') (kk : kV Y cc f lv' st pc') : kV Y cc f lv st pc :=
  fun F H locs ls hP hS hL => by
    subst hp; subst hl
    obtain ⟨j, hj⟩ := List.getElem?_of_mem (kAs_mem (q := (k, Value.int x)).mpr hl0)
    exact lv_iinc F.1.1 F.1.2.1 hd hL.has hj hv (Nat.le_of_ble_eq_true hn) rfl (fun ls' h' => kk F H locs ls' hP hS (hL.stored rfl h'))
theorem kV_dup {v : Value} (pc' : Nat) (hd : decode cc pc = .ok (.dup, 1)) (hv : v.category = 1) (hp : pc + 1 = pc') (kk : kV Y cc f lv (v :: v :: st) pc') : kV Y cc f lv (v :: st) pc :=
  fun F H locs ls hP hS hL => by subst hp; exact lv_dup F.1.1 F.1.2.1 hd hv (kk F H locs ls hP hS hL)
theorem kV_pop {v : Value} (pc' : Nat) (hd : decode cc pc = .ok (.pop, 1)) (hv : v.category = 1) (hp : pc + 1 = pc') (kk : kV Y cc f lv st pc') : kV Y cc f lv (v :: st) pc :=
  fun F H locs ls hP hS hL => by subst hp; exact lv_pop F.1.1 F.1.2.1 hd hv (kk F H locs ls hP hS hL)
theorem kV_dup2 {v w : Value} (pc' : Nat) (hd : decode cc pc = .ok (.dup2, 1)) (hv : v.category = 1) (hw : w.category = 1) (hp : pc + 1 = pc') (kk : kV Y cc f lv (v :: w :: v :: w :: st) pc') : kV Y cc f lv (v :: w :: st) pc :=
  fun F H locs ls hP hS hL => by subst hp; exact lv_dup2_11 F.1.1 F.1.2.1 hd hv hw (kk F H locs ls hP hS hL)
theorem kV_goto {off : Int} (tgt : Nat) (hd : decode cc pc = .ok (.goto off, 3)) (ht : (pc : Int) + off = (tgt : Int)) (kk : kV Y cc f lv st tgt) : kV Y cc f lv st pc :=
  fun F H locs ls hP hS hL => lv_goto F.1.1 F.1.2.1 hd ht (kk F H locs ls hP hS hL)
theorem kV_tableOut {dflt lo hi : Int} {offs : Array Int} {len : Nat} {x : Int32} (tgt : Nat) (hd : decode cc pc = .ok (.tableswitch dflt lo hi offs, len)) (h : x.toInt < lo ∨ hi < x.toInt) (ht : (pc : Int) + dflt = (tgt : Int)) (kk : kV Y cc f lv st tgt) : kV Y cc f lv (.int x :: st) pc :=
  fun F H locs ls hP hS hL => lv_tableOut F.1.1 F.1.2.1 hd h ht (kk F H locs ls hP hS hL)
theorem kV_tableIn {dflt lo hi : Int} {offs : Array Int} {len : Nat} {x : Int32} {off : Int} (tgt : Nat) (hd : decode cc pc = .ok (.tableswitch dflt lo hi offs, len)) (h1 : ¬ x.toInt < lo) (h2 : ¬ hi < x.toInt) (ho : offs[(x.toInt - lo).toNat]? = some off) (ht : (pc : Int) + off = (tgt : Int)) (kk : kV Y cc f lv st tgt) : kV Y cc f lv (.int x :: st) pc :=
  fun F H locs ls hP hS hL => lv_tableIn F.1.1 F.1.2.1 hd h1 h2 ho ht (kk F H locs ls hP hS hL)
theorem kV_nullc (pc' : Nat) (hd : decode cc pc = .ok (.aconst_null, 1)) (hp : pc + 1 = pc') (kk : kV Y cc f lv (.null :: st) pc') : kV Y cc f lv st pc :=
  fun F H locs ls hP hS hL => by subst hp; exact lv_null F.1.1 F.1.2.1 hd (kk F H locs ls hP hS hL)
theorem kV_ifnull {x : Nat} {off : Int} (pc' : Nat) (hd : decode cc pc = .ok (.ifnull off, 3)) (hp : pc + 3 = pc') (kk : kV Y cc f lv st pc') : kV Y cc f lv (.ref x :: st) pc :=
  fun F H locs ls hP hS hL => by subst hp; exact lv_ifnull F.1.1 F.1.2.1 hd (kk F H locs ls hP hS hL)
theorem kV_ifnullN {off : Int} (tgt : Nat) (hd : decode cc pc = .ok (.ifnull off, 3)) (ht : (pc : Int) + off = (tgt : Int)) (kk : kV Y cc f lv st tgt) : kV Y cc f lv (.null :: st) pc :=
  fun F H locs ls hP hS hL => lv_ifnullN F.1.1 F.1.2.1 hd ht (kk F H locs ls hP hS hL)
theorem kV_ifnonnull {x : Nat} {off : Int} (tgt : Nat) (hd : decode cc pc = .ok (.ifnonnull off, 3)) (ht : (pc : Int) + off = (tgt : Int)) (kk : kV Y cc f lv st tgt) : kV Y cc f lv (.ref x :: st) pc :=
  fun F H locs ls hP hS hL => lv_ifnonnull F.1.1 F.1.2.1 hd ht (kk F H locs ls hP hS hL)
theorem kV_ifnonnullN {off : Int} (pc' : Nat) (hd : decode cc pc = .ok (.ifnonnull off, 3)) (hp : pc + 3 = pc') (kk : kV Y cc f lv st pc') : kV Y cc f lv (.null :: st) pc :=
  fun F H locs ls hP hS hL => by subst hp; exact lv_ifnonnullN F.1.1 F.1.2.1 hd (kk F H locs ls hP hS hL)
theorem kV_iadd {x y : Int32} (pc' : Nat) (hd : decode cc pc = .ok (.iadd, 1)) (hp : pc + 1 = pc') (kk : kV Y cc f lv (.int (x + y) :: st) pc') : kV Y cc f lv (.int y :: .int x :: st) pc :=
  fun F H locs ls hP hS hL => by subst hp; exact lv_iadd F.1.1 F.1.2.1 hd (kk F H locs ls hP hS hL)
theorem kV_isub {x y : Int32} (pc' : Nat) (hd : decode cc pc = .ok (.isub, 1)) (hp : pc + 1 = pc') (kk : kV Y cc f lv (.int (x - y) :: st) pc') : kV Y cc f lv (.int y :: .int x :: st) pc :=
  fun F H locs ls hP hS hL => by subst hp; exact lv_isub F.1.1 F.1.2.1 hd (kk F H locs ls hP hS hL)
theorem kV_imul {x y : Int32} (pc' : Nat) (hd : decode cc pc = .ok (.imul, 1)) (hp : pc + 1 = pc') (kk : kV Y cc f lv (.int (x * y) :: st) pc') : kV Y cc f lv (.int y :: .int x :: st) pc :=
  fun F H locs ls hP hS hL => by subst hp; exact lv_imul F.1.1 F.1.2.1 hd (kk F H locs ls hP hS hL)
theorem kV_iand {x y : Int32} (pc' : Nat) (hd : decode cc pc = .ok (.iand, 1)) (hp : pc + 1 = pc') (kk : kV Y cc f lv (.int (x &&& y) :: st) pc') : kV Y cc f lv (.int y :: .int x :: st) pc :=
  fun F H locs ls hP hS hL => by subst hp; exact lv_iand F.1.1 F.1.2.1 hd (kk F H locs ls hP hS hL)
theorem kV_ior {x y : Int32} (pc' : Nat) (hd : decode cc pc = .ok (.ior, 1)) (hp : pc + 1 = pc') (kk : kV Y cc f lv (.int (x ||| y) :: st) pc') : kV Y cc f lv (.int y :: .int x :: st) pc :=
  fun F H locs ls hP hS hL => by subst hp; exact lv_ior F.1.1 F.1.2.1 hd (kk F H locs ls hP hS hL)
theorem kV_ixor {x y : Int32} (pc' : Nat) (hd : decode cc pc = .ok (.ixor, 1)) (hp : pc + 1 = pc') (kk : kV Y cc f lv (.int (x ^^^ y) :: st) pc') : kV Y cc f lv (.int y :: .int x :: st) pc :=
  fun F H locs ls hP hS hL => by subst hp; exact lv_ixor F.1.1 F.1.2.1 hd (kk F H locs ls hP hS hL)
theorem kV_ishl {x y : Int32} (pc' : Nat) (hd : decode cc pc = .ok (.ishl, 1)) (hp : pc + 1 = pc') (kk : kV Y cc f lv (.int (x <<< (y &&& 31)) :: st) pc') : kV Y cc f lv (.int y :: .int x :: st) pc :=
  fun F H locs ls hP hS hL => by subst hp; exact lv_ishl F.1.1 F.1.2.1 hd (kk F H locs ls hP hS hL)
theorem kV_ishr {x y : Int32} (pc' : Nat) (hd : decode cc pc = .ok (.ishr, 1)) (hp : pc + 1 = pc') (kk : kV Y cc f lv (.int (x >>> (y &&& 31)) :: st) pc') : kV Y cc f lv (.int y :: .int x :: st) pc :=
  fun F H locs ls hP hS hL => by subst hp; exact lv_ishr F.1.1 F.1.2.1 hd (kk F H locs ls hP hS hL)
def kus (x y : Int32) : Int32 := (x.toUInt32 >>> (y.toUInt32 &&& Int32.toUInt32 31)).toInt32
theorem kV_iushr {x y : Int32} (pc' : Nat) (hd : decode cc pc = .ok (.iushr, 1)) (hp : pc + 1 = pc') (kk : kV Y cc f lv (.int (kus x y) :: st) pc') : kV Y cc f lv (.int y :: .int x :: st) pc :=
  fun F H locs ls hP hS hL => by subst hp; exact lv_iushr F.1.1 F.1.2.1 hd rfl (kk F H locs ls hP hS hL)
theorem kV_idiv {x y : Int32} (pc' : Nat) (hd : decode cc pc = .ok (.idiv, 1)) (hne : ¬ y = 0) (hp : pc + 1 = pc') (kk : kV Y cc f lv (.int (x / y) :: st) pc') : kV Y cc f lv (.int y :: .int x :: st) pc :=
  fun F H locs ls hP hS hL => by subst hp; exact lv_idiv F.1.1 F.1.2.1 hd hne (kk F H locs ls hP hS hL)
theorem kV_irem {x y : Int32} (pc' : Nat) (hd : decode cc pc = .ok (.irem, 1)) (hne : ¬ y = 0) (hp : pc + 1 = pc') (kk : kV Y cc f lv (.int (x - x / y * y) :: st) pc') : kV Y cc f lv (.int y :: .int x :: st) pc :=
  fun F H locs ls hP hS hL => by subst hp; exact lv_irem F.1.1 F.1.2.1 hd hne (kk F H locs ls hP hS hL)
theorem kV_icmp_eq_t {x y : Int32} {off : Int} (tgt : Nat) (hd : decode cc pc = .ok (.if_icmp .eq off, 3)) (ht : (pc : Int) + off = (tgt : Int)) (hc : x = y) (kk : kV Y cc f lv st tgt) : kV Y cc f lv (.int y :: .int x :: st) pc :=
  fun F H locs ls hP hS hL => lv_icmp_eq F.1.1 F.1.2.1 hd ht (fun _ => kk F H locs ls hP hS hL) (fun h => by first | exact absurd hc h | exact absurd h hc)
theorem kV_icmp_eq_f {x y : Int32} {off : Int} (tgt pc' : Nat) (hd : decode cc pc = .ok (.if_icmp .eq off, 3)) (ht : (pc : Int) + off = (tgt : Int)) (hc : ¬ x = y) (hp : pc + 3 = pc') (kk : kV Y cc f lv st pc') : kV Y cc f lv (.int y :: .int x :: st) pc :=
  fun F H locs ls hP hS hL => by
    subst hp
    exact lv_icmp_eq F.1.1 F.1.2.1 hd ht (fun h => by first | exact absurd hc h | exact absurd h hc) (fun _ => kk F H locs ls hP hS hL)
theorem kV_if_eq_t {x : Int32} {off : Int} (tgt : Nat) (hd : decode cc pc = .ok (.ifCond .eq off, 3)) (ht : (pc : Int) + off = (tgt : Int)) (hc : x = 0) (kk : kV Y cc f lv st tgt) : kV Y cc f lv (.int x :: st) pc :=
  fun F H locs ls hP hS hL => lv_if_eq F.1.1 F.1.2.1 hd ht (fun _ => kk F H locs ls hP hS hL) (fun h => by first | exact absurd hc h | exact absurd h hc)
theorem kV_if_eq_f {x : Int32} {off : Int} (tgt pc' : Nat) (hd : decode cc pc = .ok (.ifCond .eq off, 3)) (ht : (pc : Int) + off = (tgt : Int)) (hc : ¬ x = 0) (hp : pc + 3 = pc') (kk : kV Y cc f lv st pc') : kV Y cc f lv (.int x :: st) pc :=
  fun F H locs ls hP hS hL => by
    subst hp
    exact lv_if_eq F.1.1 F.1.2.1 hd ht (fun h => by first | exact absurd hc h | exact absurd h hc) (fun _ => kk F H locs ls hP hS hL)
theorem kV_icmp_ne_t {x y : Int32} {off : Int} (tgt : Nat) (hd : decode cc pc = .ok (.if_icmp .ne off, 3)) (ht : (pc : Int) + off = (tgt : Int)) (hc : ¬ x = y) (kk : kV Y cc f lv st tgt) : kV Y cc f lv (.int y :: .int x :: st) pc :=
  fun F H locs ls hP hS hL => lv_icmp_ne F.1.1 F.1.2.1 hd ht (fun _ => kk F H locs ls hP hS hL) (fun h => by first | exact absurd hc h | exact absurd h hc)
theorem kV_icmp_ne_f {x y : Int32} {off : Int} (tgt pc' : Nat) (hd : decode cc pc = .ok (.if_icmp .ne off, 3)) (ht : (pc : Int) + off = (tgt : Int)) (hc : x = y) (hp : pc + 3 = pc') (kk : kV Y cc f lv st pc') : kV Y cc f lv (.int y :: .int x :: st) pc :=
  fun F H locs ls hP hS hL => by
    subst hp
    exact lv_icmp_ne F.1.1 F.1.2.1 hd ht (fun h => by first | exact absurd hc h | exact absurd h hc) (fun _ => kk F H locs ls hP hS hL)
theorem kV_if_ne_t {x : Int32} {off : Int} (tgt : Nat) (hd : decode cc pc = .ok (.ifCond .ne off, 3)) (ht : (pc : Int) + off = (tgt : Int)) (hc : ¬ x = 0) (kk : kV Y cc f lv st tgt) : kV Y cc f lv (.int x :: st) pc :=
  fun F H locs ls hP hS hL => lv_if_ne F.1.1 F.1.2.1 hd ht (fun _ => kk F H locs ls hP hS hL) (fun h => by first | exact absurd hc h | exact absurd h hc)
theorem kV_if_ne_f {x : Int32} {off : Int} (tgt pc' : Nat) (hd : decode cc pc = .ok (.ifCond .ne off, 3)) (ht : (pc : Int) + off = (tgt : Int)) (hc : x = 0) (hp : pc + 3 = pc') (kk : kV Y cc f lv st pc') : kV Y cc f lv (.int x :: st) pc :=
  fun F H locs ls hP hS hL => by
    subst hp
    exact lv_if_ne F.1.1 F.1.2.1 hd ht (fun h => by first | exact absurd hc h | exact absurd h hc) (fun _ => kk F H locs ls hP hS hL)
theorem kV_icmp_lt_t {x y : Int32} {off : Int} (tgt : Nat) (hd : decode cc pc = .ok (.if_icmp .lt off, 3)) (ht : (pc : Int) + off = (tgt : Int)) (hc : x < y) (kk : kV Y cc f lv st tgt) : kV Y cc f lv (.int y :: .int x :: st) pc :=
  fun F H locs ls hP hS hL => lv_icmp_lt F.1.1 F.1.2.1 hd ht (fun _ => kk F H locs ls hP hS hL) (fun h => by first | exact absurd hc h | exact absurd h hc)
theorem kV_icmp_lt_f {x y : Int32} {off : Int} (tgt pc' : Nat) (hd : decode cc pc = .ok (.if_icmp .lt off, 3)) (ht : (pc : Int) + off = (tgt : Int)) (hc : ¬ x < y) (hp : pc + 3 = pc') (kk : kV Y cc f lv st pc') : kV Y cc f lv (.int y :: .int x :: st) pc :=
  fun F H locs ls hP hS hL => by
    subst hp
    exact lv_icmp_lt F.1.1 F.1.2.1 hd ht (fun h => by first | exact absurd hc h | exact absurd h hc) (fun _ => kk F H locs ls hP hS hL)
theorem kV_if_lt_t {x : Int32} {off : Int} (tgt : Nat) (hd : decode cc pc = .ok (.ifCond .lt off, 3)) (ht : (pc : Int) + off = (tgt : Int)) (hc : x < 0) (kk : kV Y cc f lv st tgt) : kV Y cc f lv (.int x :: st) pc :=
  fun F H locs ls hP hS hL => lv_if_lt F.1.1 F.1.2.1 hd ht (fun _ => kk F H locs ls hP hS hL) (fun h => by first | exact absurd hc h | exact absurd h hc)
theorem kV_if_lt_f {x : Int32} {off : Int} (tgt pc' : Nat) (hd : decode cc pc = .ok (.ifCond .lt off, 3)) (ht : (pc : Int) + off = (tgt : Int)) (hc : ¬ x < 0) (hp : pc + 3 = pc') (kk : kV Y cc f lv st pc') : kV Y cc f lv (.int x :: st) pc :=
  fun F H locs ls hP hS hL => by
    subst hp
    exact lv_if_lt F.1.1 F.1.2.1 hd ht (fun h => by first | exact absurd hc h | exact absurd h hc) (fun _ => kk F H locs ls hP hS hL)
theorem kV_icmp_ge_t {x y : Int32} {off : Int} (tgt : Nat) (hd : decode cc pc = .ok (.if_icmp .ge off, 3)) (ht : (pc : Int) + off = (tgt : Int)) (hc : y ≤ x) (kk : kV Y cc f lv st tgt) : kV Y cc f lv (.int y :: .int x :: st) pc :=
  fun F H locs ls hP hS hL => lv_icmp_ge F.1.1 F.1.2.1 hd ht (fun _ => kk F H locs ls hP hS hL) (fun h => by first | exact absurd hc h | exact absurd h hc)
theorem kV_icmp_ge_f {x y : Int32} {off : Int} (tgt pc' : Nat) (hd : decode cc pc = .ok (.if_icmp .ge off, 3)) (ht : (pc : Int) + off = (tgt : Int)) (hc : ¬ y ≤ x) (hp : pc + 3 = pc') (kk : kV Y cc f lv st pc') : kV Y cc f lv (.int y :: .int x :: st) pc :=
  fun F H locs ls hP hS hL => by
    subst hp
    exact lv_icmp_ge F.1.1 F.1.2.1 hd ht (fun h => by first | exact absurd hc h | exact absurd h hc) (fun _ => kk F H locs ls hP hS hL)
theorem kV_if_ge_t {x : Int32} {off : Int} (tgt : Nat) (hd : decode cc pc = .ok (.ifCond .ge off, 3)) (ht : (pc : Int) + off = (tgt : Int)) (hc : 0 ≤ x) (kk : kV Y cc f lv st tgt) : kV Y cc f lv (.int x :: st) pc :=
  fun F H locs ls hP hS hL => lv_if_ge F.1.1 F.1.2.1 hd ht (fun _ => kk F H locs ls hP hS hL) (fun h => by first | exact absurd hc h | exact absurd h hc)
theorem kV_if_ge_f {x : Int32} {off : Int} (tgt pc' : Nat) (hd : decode cc pc = .ok (.ifCond .ge off, 3)) (ht : (pc : Int) + off = (tgt : Int)) (hc : ¬ 0 ≤ x) (hp : pc + 3 = pc') (kk : kV Y cc f lv st pc') : kV Y cc f lv (.int x :: st) pc :=
  fun F H locs ls hP hS hL => by
    subst hp
    exact lv_if_ge F.1.1 F.1.2.1 hd ht (fun h => by first | exact absurd hc h | exact absurd h hc) (fun _ => kk F H locs ls hP hS hL)
theorem kV_icmp_gt_t {x y : Int32} {off : Int} (tgt : Nat) (hd : decode cc pc = .ok (.if_icmp .gt off, 3)) (ht : (pc : Int) + off = (tgt : Int)) (hc : y < x) (kk : kV Y cc f lv st tgt) : kV Y cc f lv (.int y :: .int x :: st) pc :=
  fun F H locs ls hP hS hL => lv_icmp_gt F.1.1 F.1.2.1 hd ht (fun _ => kk F H locs ls hP hS hL) (fun h => by first | exact absurd hc h | exact absurd h hc)
theorem kV_icmp_gt_f {x y : Int32} {off : Int} (tgt pc' : Nat) (hd : decode cc pc = .ok (.if_icmp .gt off, 3)) (ht : (pc : Int) + off = (tgt : Int)) (hc : ¬ y < x) (hp : pc + 3 = pc') (kk : kV Y cc f lv st pc') : kV Y cc f lv (.int y :: .int x :: st) pc :=
  fun F H locs ls hP hS hL => by
    subst hp
    exact lv_icmp_gt F.1.1 F.1.2.1 hd ht (fun h => by first | exact absurd hc h | exact absurd h hc) (fun _ => kk F H locs ls hP hS hL)
theorem kV_if_gt_t {x : Int32} {off : Int} (tgt : Nat) (hd : decode cc pc = .ok (.ifCond .gt off, 3)) (ht : (pc : Int) + off = (tgt : Int)) (hc : 0 < x) (kk : kV Y cc f lv st tgt) : kV Y cc f lv (.int x :: st) pc :=
  fun F H locs ls hP hS hL => lv_if_gt F.1.1 F.1.2.1 hd ht (fun _ => kk F H locs ls hP hS hL) (fun h => by first | exact absurd hc h | exact absurd h hc)
theorem kV_if_gt_f {x : Int32} {off : Int} (tgt pc' : Nat) (hd : decode cc pc = .ok (.ifCond .gt off, 3)) (ht : (pc : Int) + off = (tgt : Int)) (hc : ¬ 0 < x) (hp : pc + 3 = pc') (kk : kV Y cc f lv st pc') : kV Y cc f lv (.int x :: st) pc :=
  fun F H locs ls hP hS hL => by
    subst hp
    exact lv_if_gt F.1.1 F.1.2.1 hd ht (fun h => by first | exact absurd hc h | exact absurd h hc) (fun _ => kk F H locs ls hP hS hL)
theorem kV_icmp_le_t {x y : Int32} {off : Int} (tgt : Nat) (hd : decode cc pc = .ok (.if_icmp .le off, 3)) (ht : (pc : Int) + off = (tgt : Int)) (hc : x ≤ y) (kk : kV Y cc f lv st tgt) : kV Y cc f lv (.int y :: .int x :: st) pc :=
  fun F H locs ls hP hS hL => lv_icmp_le F.1.1 F.1.2.1 hd ht (fun _ => kk F H locs ls hP hS hL) (fun h => by first | exact absurd hc h | exact absurd h hc)
theorem kV_icmp_le_f {x y : Int32} {off : Int} (tgt pc' : Nat) (hd : decode cc pc = .ok (.if_icmp .le off, 3)) (ht : (pc : Int) + off = (tgt : Int)) (hc : ¬ x ≤ y) (hp : pc + 3 = pc') (kk : kV Y cc f lv st pc') : kV Y cc f lv (.int y :: .int x :: st) pc :=
  fun F H locs ls hP hS hL => by
    subst hp
    exact lv_icmp_le F.1.1 F.1.2.1 hd ht (fun h => by first | exact absurd hc h | exact absurd h hc) (fun _ => kk F H locs ls hP hS hL)
theorem kV_if_le_t {x : Int32} {off : Int} (tgt : Nat) (hd : decode cc pc = .ok (.ifCond .le off, 3)) (ht : (pc : Int) + off = (tgt : Int)) (hc : x ≤ 0) (kk : kV Y cc f lv st tgt) : kV Y cc f lv (.int x :: st) pc :=
  fun F H locs ls hP hS hL => lv_if_le F.1.1 F.1.2.1 hd ht (fun _ => kk F H locs ls hP hS hL) (fun h => by first | exact absurd hc h | exact absurd h hc)
theorem kV_if_le_f {x : Int32} {off : Int} (tgt pc' : Nat) (hd : decode cc pc = .ok (.ifCond .le off, 3)) (ht : (pc : Int) + off = (tgt : Int)) (hc : ¬ x ≤ 0) (hp : pc + 3 = pc') (kk : kV Y cc f lv st pc') : kV Y cc f lv (.int x :: st) pc :=
  fun F H locs ls hP hS hL => by
    subst hp
    exact lv_if_le F.1.1 F.1.2.1 hd ht (fun h => by first | exact absurd hc h | exact absurd h hc) (fun _ => kk F H locs ls hP hS hL)
/-- an index that lies in a row, as a number that can be counted out -/
def kin (i : Int32) (n : Nat) : Bool := !(decide (i < 0)) && decide (i.toNatClampNeg < n)
theorem kin_vp {i : Int32} {n : Nat} (h : kin i n = true) : vp_in i n := by
  simp only [kin, Bool.and_eq_true, Bool.not_eq_true', decide_eq_false_iff_not, decide_eq_true_eq] at h
  exact fun q => q.elim h.1 (fun z => by omega)
theorem kV_get {own C : String} {T : u_T} {n ci index : Nat} {d : Nat} (k : Nat) {fs : List Value} {v : Value} (pc' : Nat) (hd : decode cc pc = .ok (.getfield index, 3)) (hin : ∀ w ∈ u_ws C T n, w ∈ wsL_law) (hc : vwCl[ci]? = some (C, T, n)) (hk : Nat.blt k n = true) (hown : ky_own Y = own) (hlink : Cond.fieldLink own index (T k).1 (T k).2.1 (T k).2.2.1 ∈ wsL_law)
    (hN : d < kg_N (ky_G Y)) (he : f d = .inr (ci, fs)) (hv : fs[k]? = some v) (hp : pc + 3 = pc') (kk : kV Y cc f lv (v :: st) pc') : kV Y cc f lv (.ref (kg_ad (ky_G Y) d) :: st) pc :=
  fun F H locs ls hP hS hL => by
    subst hp; subst hown
    exact va_get F.1.1 F.1.2.1 F.1.2.2.2.2 hin F.1.2.2.2.1 F.2.1 hP d (by rw [kwl_get hN, he]) hc k (Nat.le_of_ble_eq_true hk) (F.1.2.2.2.2 _ hlink) (fun _ h => h) hv hd (kk F H locs ls hP hS hL)
theorem kV_put {own C : String} {T : u_T} {n ci index : Nat} {d : Nat} (k : Nat) {ty : FieldType} {fs : List Value} {v : Value} (pc' : Nat) (hd : decode cc pc = .ok (.putfield index, 3)) (hin : ∀ w ∈ u_ws C T n, w ∈ wsL_law) (ty0 : Nat → FieldType) (hty : ∀ k, k < n → parseFieldDescriptor (T k).2.2.1 = some (ty0 k)) (hnm : ∀ a, a < n → ∀ b, b < n → a ≠ b → (T a).2.1 ≠ (T b).2.1) (hc : vwCl[ci]? = some (C, T, n)) (hk : Nat.blt k n = true) (hown : ky_own Y = own) (hlink : Cond.fieldLink own index (T k).1 (T k).2.1 (T k).2.2.1 ∈ wsL_law) (hfin : (T k).2.2.2 = false) (ht0 : ty0 k = ty) (hn : narrow ty v = v) (hfit : fits ty v = true)
    (hN : d < kg_N (ky_G Y)) (he : f d = .inr (ci, fs)) (hl : Nat.blt k fs.length = true) (hp : pc + 3 = pc') (kk : kV Y cc (va_up f d (.inr (ci, fs.set k v))) lv st pc') : kV Y cc f lv (v :: .ref (kg_ad (ky_G Y) d) :: st) pc :=
  fun F H locs ls hP hS hL => by
    subst hp; subst hown
    refine va_put F.1.1 F.1.2.1 F.1.2.2.2.2 hin ty0 hty hnm F.1.2.2.2.1 F.2.1 hP F.D hS d (by rw [kwl_get hN, he]) hc k (Nat.le_of_ble_eq_true hk) (F.1.2.2.2.2 _ hlink) (fun _ h => h) hfin (by rw [hty k (Nat.le_of_ble_eq_true hk), ht0]) hn hfit (Nat.le_of_ble_eq_true hl) hd (fun H1 locs1 hP1 _ hS1 => ?_)
    rw [kwl_set] at hP1
    exact kk F H1 locs1 ls hP1 hS1 hL
theorem kV_iald {d n : Nat} {g : Nat → Int32} {i : Int32} (pc' : Nat) (hd : decode cc pc = .ok (.iaload, 1)) (hN : d < kg_N (ky_G Y)) (he : f d = .inl (kg_I (ky_G Y), n, .inl g)) (hi : kin i n = true) (hp : pc + 1 = pc') (kk : kV Y cc f lv (.int (g i.toNatClampNeg) :: st) pc') : kV Y cc f lv (.int i :: .ref (kg_ad (ky_G Y) d) :: st) pc :=
  fun F H locs ls hP hS hL => by
    subst hp
    exact va_iald F.1.1 F.1.2.1 F.2.1 hP d 0 (by rw [kwl_get hN, he]) rfl (kin_vp hi) hd (kk F H locs ls hP hS hL)
theorem kV_zald {d n : Nat} {g : Nat → Int32} {i : Int32} (pc' : Nat) (hd : decode cc pc = .ok (.baload, 1)) (hN : d < kg_N (ky_G Y)) (he : f d = .inl (kg_Z (ky_G Y), n, .inl g)) (hi : kin i n = true) (hp : pc + 1 = pc') (kk : kV Y cc f lv (.int (g i.toNatClampNeg) :: st) pc') : kV Y cc f lv (.int i :: .ref (kg_ad (ky_G Y) d) :: st) pc :=
  fun F H locs ls hP hS hL => by
    subst hp
    exact va_zald F.1.1 F.1.2.1 F.2.1 hP d 1 (by rw [kwl_get hN, he]) rfl (kin_vp hi) hd (kk F H locs ls hP hS hL)
theorem kV_aald {d n : Nat} {g : Nat → Option Nat} {i : Int32} (pc' : Nat) (hd : decode cc pc = .ok (.aaload, 1)) (hN : d < kg_N (ky_G Y)) (he : f d = .inl (kg_F (ky_G Y), n, .inr (.inr (.inr (.inr g))))) (hi : kin i n = true) (hp : pc + 1 = pc') (kk : kV Y cc f lv (va_rf (g i.toNatClampNeg) :: st) pc') : kV Y cc f lv (.int i :: .ref (kg_ad (ky_G Y) d) :: st) pc :=
  fun F H locs ls hP hS hL => by
    subst hp
    exact va_aldq F.1.1 F.1.2.1 F.2.1 hP d 2 (by rw [kwl_get hN, he]) rfl (kin_vp hi) hd (kk F H locs ls hP hS hL)
theorem kV_alen {d : Nat} {x : vp_A} {t0 : Nat} {cA : ClassId} {ty : FieldType} {v : Int32} (pc' : Nat) (hd : decode cc pc = .ok (.arraylength, 1)) (hN : d < kg_N (ky_G Y)) (he : f d = .inl (cA, x)) (ht : (kg_tys (ky_G Y))[t0]? = some (cA, ty)) (hv : Int32.ofNat x.1 = v) (hp : pc + 1 = pc') (kk : kV Y cc f lv (.int v :: st) pc') : kV Y cc f lv (.ref (kg_ad (ky_G Y) d) :: st) pc :=
  fun F H locs ls hP hS hL => by
    subst hp; subst hv
    exact va_alen F.1.1 F.1.2.1 F.2.1 hP d t0 (by rw [kwl_get hN, he]) ht rfl hd (kk F H locs ls hP hS hL)
theorem kV_iast {d n : Nat} {g : Nat → Int32} {i x : Int32} (pc' : Nat) (hd : decode cc pc = .ok (.iastore, 1)) (hN : d < kg_N (ky_G Y)) (he : f d = .inl (kg_I (ky_G Y), n, .inl g)) (hi : kin i n = true) (hp : pc + 1 = pc') (kk : kV Y cc (va_up f d (.inl (kg_I (ky_G Y), n, .inl (upd g i.toNatClampNeg x)))) lv st pc') : kV Y cc f lv (.int x :: .int i :: .ref (kg_ad (ky_G Y) d) :: st) pc :=
  fun F H locs ls hP hS hL => by
    subst hp
    refine va_iast F.1.1 F.1.2.1 F.2.1 hP F.D hS d 0 (by rw [kwl_get hN, he]) rfl (kin_vp hi) hd (fun H1 locs1 hP1 _ hS1 => ?_)
    rw [kwl_set] at hP1
    exact kk F H1 locs1 ls hP1 hS1 hL
theorem kV_zast {d n : Nat} {g : Nat → Int32} {i x : Int32} (pc' : Nat) (hd : decode cc pc = .ok (.bastore, 1)) (hN : d < kg_N (ky_G Y)) (he : f d = .inl (kg_Z (ky_G Y), n, .inl g)) (hi : kin i n = true) (hp : pc + 1 = pc') (kk : kV Y cc (va_up f d (.inl (kg_Z (ky_G Y), n, .inl (upd g i.toNatClampNeg (x &&& 1))))) lv st pc') : kV Y cc f lv (.int x :: .int i :: .ref (kg_ad (ky_G Y) d) :: st) pc :=
  fun F H locs ls hP hS hL => by
    subst hp
    refine va_zast F.1.1 F.1.2.1 F.2.1 hP F.D hS d 1 (by rw [kwl_get hN, he]) rfl (kin_vp hi) hd (fun H1 locs1 hP1 _ hS1 => ?_)
    rw [kwl_set] at hP1
    exact kk F H1 locs1 ls hP1 hS1 hL
theorem kV_mmax {index : Nat} {x y : Int32} (pc' : Nat) (hd : decode cc pc = .ok (.invokestatic index, 3)) (hlink : Cond.methodLink (ky_own Y) index Lib.Math.max.name ∈ wsL_law) (hst : Nat.ble ((st.map fun v => v.category).sum) 8 = true) (hr : 1 ≤ (ky_R Y).frames ∧ 40 ≤ (ky_R Y).locals ∧ (ky_cs Y).1 ≤ (ky_R Y).cells ∧ (ky_cs Y).2 ≤ (ky_R Y).slots)
    (hst2 : Cond.static Lib.Math.max.name ∈ wsL_law) (hini : Cond.initialized "java/lang/Math" ∈ wsL_law) (hcode : Cond.code Lib.Math.max.name Lib.Math.max.code 2 (some .int) ∈ wsL_law) (hp : pc + 3 = pc') (kk : kV Y cc f lv (.int (if x < y then y else x) :: st) pc') : kV Y cc f lv (.int y :: .int x :: st) pc :=
  fun F H locs ls hP hS hL => by
    subst hp
    have hR : kx_R (ky_X Y) = ky_R Y := F.2.2.2.2.2.2.2.2
    have h8 := Nat.le_of_ble_eq_true hst
    exact va_mmax F.1.1 F.1.2.1 (F.1.2.2.1.trans hL.1.symm) F.1.2.2.2.1 (F.1.2.2.2.2 _ hlink) (F.1.2.2.2.2 _ hst2) (F.1.2.2.2.2 _ hini) (F.1.2.2.2.2 _ hcode) (by rw [hR]; exact hr.1) (by rw [hR]; have := hr.2.1; omega) (by rw [hR]; exact hr.2.2.1) (by rw [hR]; exact hr.2.2.2) hd (kk F H locs ls hP hS hL)
theorem kV_mmin {index : Nat} {x y : Int32} (pc' : Nat) (hd : decode cc pc = .ok (.invokestatic index, 3)) (hlink : Cond.methodLink (ky_own Y) index Lib.Math.min.name ∈ wsL_law) (hst : Nat.ble ((st.map fun v => v.category).sum) 8 = true) (hr : 1 ≤ (ky_R Y).frames ∧ 40 ≤ (ky_R Y).locals ∧ (ky_cs Y).1 ≤ (ky_R Y).cells ∧ (ky_cs Y).2 ≤ (ky_R Y).slots)
    (hst2 : Cond.static Lib.Math.min.name ∈ wsL_law) (hini : Cond.initialized "java/lang/Math" ∈ wsL_law) (hcode : Cond.code Lib.Math.min.name Lib.Math.min.code 2 (some .int) ∈ wsL_law) (hp : pc + 3 = pc') (kk : kV Y cc f lv (.int (if y < x then y else x) :: st) pc') : kV Y cc f lv (.int y :: .int x :: st) pc :=
  fun F H locs ls hP hS hL => by
    subst hp
    have hR : kx_R (ky_X Y) = ky_R Y := F.2.2.2.2.2.2.2.2
    have h8 := Nat.le_of_ble_eq_true hst
    exact va_mmin F.1.1 F.1.2.1 (F.1.2.2.1.trans hL.1.symm) F.1.2.2.2.1 (F.1.2.2.2.2 _ hlink) (F.1.2.2.2.2 _ hst2) (F.1.2.2.2.2 _ hini) (F.1.2.2.2.2 _ hcode) (by rw [hR]; exact hr.1) (by rw [hR]; have := hr.2.1; omega) (by rw [hR]; exact hr.2.2.1) (by rw [hR]; exact hr.2.2.2) hd (kk F H locs ls hP hS hL)
theorem kV_copy {index : Nat} {d0 d n0 n1 : Nat} {g0 g1 : Nat → Int32} {sp dp n : Int32} (pc' : Nat) (hd : decode cc pc = .ok (.invokestatic index, 3)) (hlink : Cond.methodLink (ky_own Y) index arraycopyName ∈ wsL_law) (hnat : Cond.native arraycopyName ∈ wsL_law) (hst2 : Cond.static arraycopyName ∈ wsL_law) (hini : Cond.initialized "java/lang/System" ∈ wsL_law) (hst : Nat.ble ((st.map fun v => v.category).sum) 8 = true) (hr : 1 ≤ (ky_R Y).frames ∧ 40 ≤ (ky_R Y).locals)
    (hN0 : d0 < kg_N (ky_G Y)) (hN : d < kg_N (ky_G Y)) (he0 : f d0 = .inl (kg_I (ky_G Y), n0, .inl g0)) (he : f d = .inl (kg_I (ky_G Y), n1, .inl g1)) (h1 : ¬ sp < 0) (h2 : ¬ dp < 0) (h3 : ¬ n < 0) (h4 : sp.toNatClampNeg + n.toNatClampNeg ≤ n0) (h5 : dp.toNatClampNeg + n.toNatClampNeg ≤ n1)
    (hp : pc + 3 = pc') (kk : kV Y cc (va_up f d (.inl (kg_I (ky_G Y), n1, .inl (va_cpy g0 g1 sp.toNatClampNeg dp.toNatClampNeg n.toNatClampNeg)))) lv st pc') : kV Y cc f lv (.int n :: .int dp :: .ref (kg_ad (ky_G Y) d) :: .int sp :: .ref (kg_ad (ky_G Y) d0) :: st) pc :=
  fun F H locs ls hP hS hL => by
    subst hp
    have hR : kx_R (ky_X Y) = ky_R Y := F.2.2.2.2.2.2.2.2
    have h8 := Nat.le_of_ble_eq_true hst
    have e : nativeFrameWords "java/lang/System" "arraycopy" 5 ≤ 20 := by decide +kernel
    have hfr : 1 ≤ (kx_R (ky_X Y)).frames := by rw [hR]; exact hr.1
    have hlo : (st.map fun v => v.category).sum + (nativeFrameWords "java/lang/System" "arraycopy" 5 + 11) ≤ (kx_R (ky_X Y)).locals := by rw [hR]; have := hr.2; omega
    refine va_copyi F.1.1 F.1.2.1 (F.1.2.2.1.trans hL.1.symm) F.1.2.2.2.1 (F.1.2.2.2.2 _ hlink) (F.1.2.2.2.2 _ hnat) (F.1.2.2.2.2 _ hst2) (F.1.2.2.2.2 _ hini) F.2.1 hP F.D hS d0 d 0 0 (by rw [kwl_get hN0, he0]) (by rw [kwl_get hN, he]) rfl rfl rfl h1 h2 h3 h4 h5 (fun _ _ => rfl) hfr hlo hd (fun H1 locs1 hP1 _ hS1 => ?_)
    rw [kwl_set] at hP1
    exact kk F H1 locs1 ls hP1 hS1 hL
end KROWS
end
section
/-! contracts over a world, and the calls -/
def kGw (G : kG) : Prop := (∀ i j, i < kg_N G → j < kg_N G → kg_ad G i = kg_ad G j → i = j) ∧ ∀ d, d < kg_N G → kg_b G ≤ kg_ad G d
def kRp (G : kG) (f : Nat → va_E) (U : State) : Prop := va_P (kg_D G) vwCl (kwl (kg_ad G) (kg_N G) f) U.heap ∧ va_K (kg_D G) vwCl (kg_tys G) U ∧ kNw U ∧ kGw G ∧ kg_b G ≤ U.heap.size
def krm (d : Nat) : Room := { frames := d, cells := 0, slots := 0, locals := 40 * d }
abbrev kM : Type := MethodName × ByteArray × Nat × Option FieldType
def kQc (G : kG) (r : Option Value) (f' : Nat → va_E) : Array Value → State → Outcome → State → Prop := fun _ st o t => (o = .returned r ∧ kRp G f' t) ∧ va_F (fun q => kg_b G ≤ q) st t
def kEv (l : Launch) (G : kG) (d : Nat) (M : kM) (as : List Value) (f : Nat → va_E) (r : Option Value) (f' : Nat → va_E) : Prop :=
  Met l M.1 (Cond.code M.1 M.2.1 M.2.2.1 M.2.2.2 :: wsL_law) (krm d) (va_Pc as (kRp G f)) (kQc G r f') 0 0 (fun q => kg_b G ≤ q)
def kQ (X : kX) (G : kG) (r : Option Value) (f' : Nat → va_E) : State → Prop := MQ (kx_b X) (kQc G r f') (kx_a X) (kx_s X) 0 0 (fun q => kg_b G ≤ q)
theorem kRp_blind (G : kG) (f : Nat → va_E) (as : List Value) : FrameBlind (va_Pc as (kRp G f)) := fun a U g mk q => by
  obtain ⟨q0, qP, qK, qN, qG, qb⟩ := q
  exact ⟨q0, qP, va_K.moved (u := U) (U := U.calling g mk a) (Vm.Alike.refl U.vm) qK, qN.same rfl, qG, qb⟩
def kl0 (as : List Value) (n : Nat) : List (Option Value) := as.map some ++ List.replicate (n - as.length) none
theorem lv_args_mem : ∀ (vs : List Value) (k i : Nat) (v : Value), (∀ w ∈ vs, w.category = 1) → vs[i]? = some v → (k + i, v) ∈ lv_args k vs
  | [], k, i, v, _, h => by simp at h
  | w :: vs, k, 0, v, hc, h => by simp at h; subst h; simp [lv_args]
  | w :: vs, k, i + 1, v, hc, h => by
    have h1 := hc w List.mem_cons_self
    have := lv_args_mem vs (k + 1) i v (fun z hz => hc z (List.mem_cons_of_mem _ hz)) (by simpa using h)
    simp only [lv_args, h1]
    refine List.mem_cons_of_mem _ ?_
    simpa [Nat.add_assoc, Nat.add_comm 1 i] using this
theorem lg_sl_len : ∀ (vs : List Value), (∀ w ∈ vs, w.category = 1) → (lg_sl vs).length = vs.length
  | [], _ => rfl
  | w :: vs, h => by
    have h1 := h w List.mem_cons_self
    have := lg_sl_len vs (fun z hz => h z (List.mem_cons_of_mem _ hz))
    simp [lg_sl, h1] at this ⊢
    exact this
theorem kLs_entry (as : List Value) {n : Nat} (hc : ∀ w ∈ as, w.category = 1) (hn : as.length ≤ n) : kLs ((lg_sl as ++ List.replicate (n - (lg_sl as).length) Slot.unset).toArray) n (kl0 as n) := by
  have h := lv_entry as (n := n) (by rw [lg_sl_len as hc]; exact hn)
  refine ⟨h.1, h.2.1, fun i v hi => ?_⟩
  unfold kl0 at hi
  have hv : as[i]? = some v := by
    by_cases q : i < as.length
    · rw [List.getElem?_append_left (by simpa using q), List.getElem?_map] at hi
      cases hz : as[i]? with
      | none => rw [hz] at hi; cases hi
      | some w => rw [hz] at hi; simp at hi; rw [hi]
    · rw [List.getElem?_append_right (by simp; omega), List.getElem?_replicate] at hi
      split at hi <;> cases hi
  have hm := lv_args_mem as 0 i v hc hv
  rw [Nat.zero_add] at hm
  exact ⟨h.2.2 _ hm, hc v (List.mem_of_getElem? hv)⟩
def kcat (as : List Value) : Bool := as.all (fun w => w.category == 1)
theorem kcat_spec {as : List Value} (h : kcat as = true) : ∀ w ∈ as, w.category = 1 := fun w hw => by simpa using List.all_eq_true.mp h w hw
/-- a method's contract out of the walk of its body -/
theorem kEv_of {l : Launch} {G : kG} {d : Nat} {M : kM} {as : List Value} {f : Nat → va_E} {r : Option Value} {f' : Nat → va_E} {y : MethodName} {cc : ByteArray} {nL : Nat} {ret : Option FieldType} (own : String) (lv : List (Option Value)) (hM : M = (y, cc, nL, ret)) (hy : plainName y.cls = true) (ho : y.cls = own) (hc : kcat as = true) (hn : Nat.ble as.length nL = true) (hlv : kl0 as nL = lv)
    (body : ∀ X : kX, X.2.1 = l → kV (X, own, nL, ret, G, krm d, (0, 0), kQ X G r f') cc f lv [] 0) : kEv l G d M as f r f' := by
  subst hM; subst hlv; subst ho
  refine Met.ofW (cc := cc) (maxL := nL) (ret := ret) hy rfl ?_
  intro p e s m args below meth c s₁ B hml hv
  obtain ⟨rfl, hP, hK, hN, hG, hb⟩ := hv
  rw [lg_entry_eq]
  have hts := atoms_spec (ws := Cond.code y cc nL ret :: wsL_law) B.pre
  have hown : s.vm.findClass y.cls = some m.cls := findClass_of_methodNamed B.named
  exact body (p, l, e, krm d, s, m, as.toArray, below, meth, c) rfl ⟨⟨B.exec, B.bytes, hml, hown, fun w hw => hts w (List.mem_cons_of_mem _ hw)⟩, hK, hN, hG.1, hG.2, hb, B.returns, B.notSynchronized, rfl⟩ s.heap [] _ hP va_S.rf (kLs_entry as (kcat_spec hc) (Nat.le_of_ble_eq_true hn))
section KRET
variable {X : kX} {own : String} {nL : Nat} {ret : Option FieldType} {G : kG} {R : Room} {cc : ByteArray} {f : Nat → va_E} {lv : List (Option Value)} {pc : Nat}
theorem kF.rp {t : State} {H : Heap} (F : kF X cc own nL ret G R) (hP : va_P (kg_D G) vwCl (kwl (kg_ad G) (kg_N G) f) H) {locs : List Loc} (hS : va_S (fun q => kg_b G ≤ q) (kx_s X).heap H locs) (ht : t.heap = H) (hW : (kx_s X).WarmedH t.vm) : kRp G f t :=
  ⟨by rw [ht]; exact hP, va_K.moved hW.alike F.2.1, F.2.2.1.warm hW, ⟨F.2.2.2.1, F.2.2.2.2.1⟩, by rw [ht]; exact Nat.le_trans F.2.2.2.2.2.1 hS.1⟩
theorem kV_iret {v : Int32} (hd : decode cc pc = .ok (.ireturn, 1)) : kV (X, own, nL, some .int, G, R, (0, 0), kQ X G (some (.int v)) f) cc f lv [.int v] pc :=
  fun F H locs ls hP hS hL => W.iret F.1.1 F.1.2.1 F.2.2.2.2.2.2.1 (fun t ht hW => ⟨⟨rfl, F.rp hP hS ht hW⟩, hS.F ht⟩) (fun q hq => hS.2.2 q hq) hd F.2.2.2.2.2.2.2.1
theorem kV_zret {v : Int32} (hd : decode cc pc = .ok (.ireturn, 1)) (hz : v &&& 1 = v) : kV (X, own, nL, some .boolean, G, R, (0, 0), kQ X G (some (.int v)) f) cc f lv [.int v] pc :=
  fun F H locs ls hP hS hL => W.zret F.1.1 F.1.2.1 F.2.2.2.2.2.2.1 (by simp [narrow, hz]) (fun t ht hW => ⟨⟨rfl, F.rp hP hS ht hW⟩, hS.F ht⟩) (fun q hq => hS.2.2 q hq) hd F.2.2.2.2.2.2.2.1
theorem kV_vret (hd : decode cc pc = .ok (.return_, 1)) : kV (X, own, nL, none, G, R, (0, 0), kQ X G none f) cc f lv [] pc :=
  fun F H locs ls hP hS hL => W.vret F.1.1 F.1.2.1 F.2.2.2.2.2.2.1 (fun t ht hW => ⟨⟨rfl, F.rp hP hS ht hW⟩, hS.F ht⟩) (fun q hq => hS.2.2 q hq) hd F.2.2.2.2.2.2.2.1
theorem kV_aret {v : Value} {C : String} (hd : decode cc pc = .ok (.areturn, 1)) (hv : v = .null ∨ ∃ a, v = .ref a) : kV (X, own, nL, some (.object C), G, R, (0, 0), kQ X G (some v) f) cc f lv [v] pc :=
  fun F H locs ls hP hS hL => W.aret F.1.1 F.1.2.1 F.2.2.2.2.2.2.1 (Or.inl ⟨C, rfl⟩) hv (fun t ht hW => ⟨⟨rfl, F.rp hP hS ht hW⟩, hS.F ht⟩) (fun q hq => hS.2.2 q hq) hd F.2.2.2.2.2.2.2.1
end KRET
/-- what the tables say of a method that is called -/
def kMs (M : kM) (n : Nat) : Prop := Cond.code M.1 M.2.1 M.2.2.1 M.2.2.2 ∈ wsL_law ∧ Cond.initialized M.1.cls ∈ wsL_law ∧ (M.1.cls ≠ "java/lang/invoke/MethodHandle" ∧ M.1.cls ≠ "java/lang/invoke/VarHandle" ∧ (parseMethodDescriptor M.1.desc).map (fun d => d.parameters.length) = some n) ∧ M.2.2.1 ≤ 20
def kMv (M : kM) (n ci : Nat) : Prop := kMs M n ∧ Cond.instanceMethod M.1 ∈ wsL_law ∧ Cond.selects M.1.cls M.1 M.1 ∈ wsL_law ∧ (vwCl[ci]?).map (fun q => q.1) = some M.1.cls
def kMt (M : kM) (n : Nat) : Prop := kMs M n ∧ Cond.static M.1 ∈ wsL_law
section KCALL
variable {Y : kY} {cc : ByteArray} {f f' : Nat → va_E} {lv : List (Option Value)} {st : List Value} {pc : Nat} {d : Nat} {M : kM} {r : Option Value} {n ci index : Nat}
theorem kV_run {As : List Value} {X : kX} {H : Heap} {locs : List Loc} {G : kG} {own : String} {nL : Nat} {ret : Option FieldType} {R : Room} {cs : Nat × Nat} {Q : State → Prop} {ls : Array Slot} {stk : List Value} (F : kF X cc own nL ret G R) (hS : va_S (fun q => kg_b G ≤ q) (kx_s X).heap H locs) (hL : kLs ls nL lv)
    (hr : va_Run X.1 X.2.1 X.2.2.1 (kx_R X) (kx_s X) (kx_m X) (kx_a X) (kx_b X) (kx_t X) (kx_c X) H locs cs.1 cs.2 0 0 (F0 (kx_m X) pc ls stk) st (kQc G r f' As.toArray) (fun q => kg_b G ≤ q))
    (kk : kV (X, own, nL, ret, G, R, cs, Q) cc f' lv (r.toList ++ st) (pc + 3)) : kW X cs H locs Q (F0 (kx_m X) pc ls stk) := by
  intro T hT X0
  obtain ⟨v, st₀, t, T', L, h0, X', hL', e1, e2, ⟨⟨hv, hRp⟩, hz, hk⟩, stp⟩ := hr T hT X0
  cases hv
  rw [h0] at hz hk
  have hS' : va_S (fun q => kg_b G ≤ q) (kx_s X).heap T'.heap (locs ++ L) := ⟨Nat.le_trans hS.1 (by rw [e1]; exact hz), fun q h1 h2 => by rw [e1, hk q (Nat.lt_of_lt_of_le h1 hS.1) h2]; exact hS.2.1 q h1 h2, fun q hq => by
      rcases List.mem_append.mp hq with h | h
      · exact hS.2.2 q h
      · exact hL' q h⟩
  obtain ⟨t2, a1, b1⟩ := kk F T'.heap (locs ++ L) ls (by rw [e1]; exact hRp.1) hS' hL T' rfl X'
  exact ⟨t2, stp t2 a1, b1⟩
theorem kV_callV {As stk : List Value} {dd : Nat} {fs : List Value} (pc' : Nat) (hd : decode cc pc = .ok (.invokevirtual index, 3)) (hE : kEv (ky_X Y).2.1 (ky_G Y) d M (.ref (kg_ad (ky_G Y) dd) :: As) f r f') (hM : kMv M n ci) (hlink : Cond.methodLink (ky_own Y) index M.1 ∈ wsL_law) (hN : dd < kg_N (ky_G Y)) (he : f dd = .inr (ci, fs)) (hn : As.length = n) (hst : Nat.ble ((st.map fun v => v.category).sum) 8 = true)
    (hR : d + 1 ≤ (ky_R Y).frames ∧ 40 * (d + 1) ≤ (ky_R Y).locals) (hC : (ky_cs Y).1 ≤ (ky_R Y).cells ∧ (ky_cs Y).2 ≤ (ky_R Y).slots) (hs : stk = As.reverse ++ .ref (kg_ad (ky_G Y) dd) :: st) (hp : pc + 3 = pc') (kk : kV Y cc f' lv (r.toList ++ st) pc') : kV Y cc f lv stk pc :=
  fun F H locs ls hP hS hL => by
    subst hp; subst hs
    obtain ⟨⟨m1, m2, m3, m4⟩, m5, m6, m7⟩ := hM
    obtain ⟨q, hq1, hq2⟩ := Option.map_eq_some_iff.mp m7
    have hRe : kx_R (ky_X Y) = ky_R Y := F.2.2.2.2.2.2.2.2
    have hrf : (krm d).frames + 1 ≤ (kx_R (ky_X Y)).frames ∧ 8 + (M.2.2.1 + 11) + (krm d).locals ≤ (kx_R (ky_X Y)).locals := by
      rw [hRe]; simp only [krm]; omega
    have cw : CallW (kx_R (ky_X Y)) (kx_s (ky_X Y)) (kx_a (ky_X Y)) (ky_own Y) M.1.cls index M.1 M.2.1 M.2.2.1 M.2.2.2 (Cond.code M.1 M.2.1 M.2.2.1 M.2.2.2 :: wsL_law) (krm d) 0 0 n := ⟨callB_of n F.1.2.2.2.2 (wg_good m1) rfl rfl rfl (F.1.2.2.2.2 _ m2) (F.1.2.2.2.2 _ hlink) m3 hrf, F.1.2.2.2.2 _ m5, F.1.2.2.2.2 _ m6⟩
    have hrec := va_recv F.2.1 hP hq1 (he := by rw [kwl_get hN, he])
    rw [hq2] at hrec
    refine kV_run (As := .ref (kg_ad (ky_G Y) dd) :: As) F hS hL (va_runV F.1 hE cw ⟨kRp_blind _ _ _, hrec, fun U hU hW => ⟨rfl, F.rp hP hS hU hW⟩⟩ rfl hn hL.1 rfl (lv_room (Nat.le_of_ble_eq_true hst)) hd ⟨by rw [hRe]; exact hC.1, by rw [hRe]; exact hC.2⟩) kk
theorem kV_callS {As stk : List Value} (pc' : Nat) (hd : decode cc pc = .ok (.invokestatic index, 3)) (hE : kEv (ky_X Y).2.1 (ky_G Y) d M As f r f') (hM : kMt M n) (hlink : Cond.methodLink (ky_own Y) index M.1 ∈ wsL_law) (hn : As.length = n) (hst : Nat.ble ((st.map fun v => v.category).sum) 8 = true)
    (hR : d + 1 ≤ (ky_R Y).frames ∧ 40 * (d + 1) ≤ (ky_R Y).locals) (hC : (ky_cs Y).1 ≤ (ky_R Y).cells ∧ (ky_cs Y).2 ≤ (ky_R Y).slots) (hs : stk = As.reverse ++ st) (hp : pc + 3 = pc') (kk : kV Y cc f' lv (r.toList ++ st) pc') : kV Y cc f lv stk pc :=
  fun F H locs ls hP hS hL => by
    subst hp; subst hs
    obtain ⟨⟨m1, m2, m3, m4⟩, m5⟩ := hM
    have hRe : kx_R (ky_X Y) = ky_R Y := F.2.2.2.2.2.2.2.2
    have hrf : (krm d).frames + 1 ≤ (kx_R (ky_X Y)).frames ∧ 8 + (M.2.2.1 + 11) + (krm d).locals ≤ (kx_R (ky_X Y)).locals := by
      rw [hRe]; simp only [krm]; omega
    have cw : CallB (kx_R (ky_X Y)) (kx_s (ky_X Y)) (kx_a (ky_X Y)) (ky_own Y) index M.1 M.2.1 M.2.2.1 M.2.2.2 (Cond.code M.1 M.2.1 M.2.2.1 M.2.2.2 :: wsL_law) (krm d) 0 0 n := callB_of n F.1.2.2.2.2 (wg_good m1) rfl rfl rfl (F.1.2.2.2.2 _ m2) (F.1.2.2.2.2 _ hlink) m3 hrf
    refine kV_run (As := As) F hS hL (va_runS F.1 hE ⟨cw, F.1.2.2.2.2 _ m5⟩ ⟨kRp_blind _ _ _, fun U hU hW => ⟨rfl, F.rp hP hS hU hW⟩⟩ rfl hn hL.1 rfl (lv_room (Nat.le_of_ble_eq_true hst)) hd ⟨by rw [hRe]; exact hC.1, by rw [hRe]; exact hC.2⟩) kk
theorem kV_callSN {As stk : List Value} {host : String} (pc' : Nat) (hd : decode cc pc = .ok (.invokestatic index, 3)) (hE : kEv (ky_X Y).2.1 (ky_G Y) d M As f r f') (hM : kMt M n) (hlink : ∀ s, kNw s → va_Nw (.methodLinkNest (ky_own Y) index M.1 host) s) (hn : As.length = n) (hst : Nat.ble ((st.map fun v => v.category).sum) 8 = true)
    (hR : d + 1 ≤ (ky_R Y).frames ∧ 40 * (d + 1) ≤ (ky_R Y).locals) (hC : (ky_cs Y).1 ≤ (ky_R Y).cells ∧ (ky_cs Y).2 ≤ (ky_R Y).slots) (hs : stk = As.reverse ++ st) (hp : pc + 3 = pc') (kk : kV Y cc f' lv (r.toList ++ st) pc') : kV Y cc f lv stk pc :=
  fun F H locs ls hP hS hL => by
    subst hp; subst hs
    obtain ⟨⟨m1, m2, m3, m4⟩, m5⟩ := hM
    have hRe : kx_R (ky_X Y) = ky_R Y := F.2.2.2.2.2.2.2.2
    have hrf : (krm d).frames + 1 ≤ (kx_R (ky_X Y)).frames ∧ 8 + (M.2.2.1 + 11) + (krm d).locals ≤ (kx_R (ky_X Y)).locals := by
      rw [hRe]; simp only [krm]; omega
    have cw : va_CN (kx_R (ky_X Y)) (kx_s (ky_X Y)) (kx_a (ky_X Y)) (ky_own Y) index M.1 host M.2.1 M.2.2.1 M.2.2.2 (Cond.code M.1 M.2.1 M.2.2.1 M.2.2.2 :: wsL_law) (krm d) 0 0 n := va_cnB n F.1.2.2.2.2 (wg_good m1) rfl rfl rfl (hlink _ F.2.2.1) (F.1.2.2.2.2 _ m2) m3 hrf
    refine kV_run (As := As) F hS hL (va_runSN F.1 hE ⟨cw, F.1.2.2.2.2 _ m5, trivial⟩ ⟨kRp_blind _ _ _, fun U hU hW => ⟨rfl, F.rp hP hS hU hW⟩⟩ rfl hn hL.1 rfl (lv_room (Nat.le_of_ble_eq_true hst)) hd ⟨by rw [hRe]; exact hC.1, by rw [hRe]; exact hC.2⟩) kk
end KCALL
end
section
/-! the typed world: objects by number, what each holds as numbers and rows of numbers -/
abbrev kO : Type := (Nat → Int32) × (Nat → Nat → Int32)
abbrev kS : Type := Nat → kO
def kci (o : Nat) : Nat := match o with
  | 0 => 5
  | 1 => 4
  | 2 => 3
  | 3 => 2
  | 4 => 1
  | 5 => 6
  | _ => 0
def kbo (o : Nat) : Nat := match o with
  | 0 => 0
  | 1 => 2
  | 2 => 11
  | 3 => 18
  | 4 => 21
  | 5 => 24
  | n + 6 => 55 + 14 * n
def kfk (ci : Nat) : List (Option Nat) := match ci with
  | 0 => [none, some 1, some 2, some 3, some 4, some 5, some 6, none, some 7, some 8, some 9, some 10, some 11, some 12, some 13]
  | 1 => [some 1, some 2, none, none]
  | 2 => [some 1, some 2]
  | 3 => [some 1, none, some 2, some 3, some 4, some 5, some 6, none]
  | 4 => [none, none, some 1, some 2, some 3, some 4, some 5, some 6]
  | 5 => [some 1, none, some 2, some 9, none, some 10, none, some 11, some 18, some 21, none, none, none, none]
  | 6 => [none, none, some 1, some 2, some 3, some 4, some 5, some 6, some 7, some 8, some 9, some 10, some 11, some 12, some 13, some 14, none, some 15, some 16, some 17, some 18, some 19, some 20, none, some 21, none, none, some 22, some 23, none, none, none, some 24, none, some 25, some 26, some 27, some 28, some 29, none, none, none, none, none, some 30]
  | _ => []
def kln (ci : Nat) : List (Bool × Nat) := match ci with
  | 0 => [(false, 0), (false, 5), (false, 5), (false, 5), (false, 5), (false, 5), (false, 5), (false, 0), (false, 6), (false, 6), (false, 6), (false, 6), (false, 6), (false, 64), (false, 64)]
  | 1 => [(false, 150), (false, 150), (false, 0), (false, 0)]
  | 2 => [(false, 3125), (false, 5)]
  | 3 => [(false, 8), (false, 0), (false, 9), (false, 9), (false, 9), (true, 9), (false, 45), (false, 0)]
  | 4 => [(false, 0), (false, 0), (false, 20), (false, 20), (false, 20), (false, 20), (false, 84), (false, 84)]
  | 5 => [(false, 0), (false, 0), (false, 0), (false, 3), (false, 0), (false, 8), (false, 0), (false, 0), (false, 0), (false, 0), (false, 0), (false, 0), (false, 0), (false, 0)]
  | 6 => [(false, 0), (false, 0), (false, 3), (false, 15), (false, 15), (false, 15), (false, 15), (false, 15), (true, 15), (false, 3), (true, 18), (false, 18), (false, 18), (false, 18), (false, 18), (false, 192), (false, 0), (false, 20), (false, 20), (false, 20), (false, 20), (false, 84), (false, 84), (false, 0), (false, 3), (false, 0), (false, 0), (false, 150), (true, 150), (false, 0), (false, 0), (false, 0), (false, 8), (false, 0), (false, 9), (false, 9), (false, 9), (true, 9), (false, 9), (false, 0), (false, 0), (false, 0), (false, 0), (false, 0), (false, 3125)]
  | _ => []
def ktab : List (Nat × Option Nat) := [(0, none), (0, some 0), (1, none), (1, some 2), (1, some 3), (1, some 4), (1, some 5), (1, some 6), (1, some 7), (0, some 3), (0, some 5), (2, none), (2, some 0), (2, some 2), (2, some 3), (2, some 4), (2, some 5), (2, some 6), (3, none), (3, some 0), (3, some 1), (4, none), (4, some 0), (4, some 1), (5, none), (5, some 2), (5, some 3), (5, some 4), (5, some 5), (5, some 6), (5, some 7), (5, some 8), (5, some 9), (5, some 10), (5, some 11), (5, some 12), (5, some 13), (5, some 14), (5, some 15), (5, some 17), (5, some 18), (5, some 19), (5, some 20), (5, some 21), (5, some 22), (5, some 24), (5, some 27), (5, some 28), (5, some 32), (5, some 34), (5, some 35), (5, some 36), (5, some 37), (5, some 38), (5, some 44)]
def kft : List (Option Nat) := [none, some 1, some 2, some 3, some 4, some 5, some 6, some 8, some 9, some 10, some 11, some 12, some 13, some 14]
def kloc (d : Nat) : Nat × Option Nat := if d < 55 then ktab.getD d (0, none) else (6 + (d - 55) / 14, kft.getD ((d - 55) % 14) none)
def kfl (ad : Nat → Nat) (u : kO) (b : Nat) : List (Option Nat) → Nat → List Value
  | [], _ => []
  | none :: l, k => .int (u.1 k) :: kfl ad u b l (k + 1)
  | some j :: l, k => .ref (ad (b + j)) :: kfl ad u b l (k + 1)
def krf (ad : Nat → Nat) (n : Nat) : Nat → Option Nat := fun i => if i < n then some (ad (kbo (6 + i))) else none
def kcell (G : kG) (n : Nat) (S : kS) (q : Nat × Option Nat) : va_E := match q.2 with
  | none => .inr (kci q.1, kfl (kg_ad G) (S q.1) (kbo q.1) (kfk (kci q.1)) 0)
  | some k => if q.1 = 0 ∧ k = 0 then .inl (kg_F G, 3, .inr (.inr (.inr (.inr (krf (kg_ad G) n))))) else .inl (if ((kln (kci q.1)).getD k (false, 0)).1 = true then kg_Z G else kg_I G, ((kln (kci q.1)).getD k (false, 0)).2, .inl ((S q.1).2 k))
def kgl (G : kG) (n : Nat) (S : kS) : Nat → va_E := fun d => kcell G n S (kloc d)
def kOk (G : kG) (n o : Nat) : Prop := o < 6 + n ∧ kg_N G = 55 + 14 * n
theorem kOk_of {G : kG} {n o : Nat} (hG : kg_N G = 55 + 14 * n) (h : Nat.blt o 6 = true) : kOk G n o := ⟨by have := Nat.le_of_ble_eq_true h; omega, hG⟩
theorem kbo_form (i : Nat) : kbo (6 + i) = 55 + 14 * i := by rw [Nat.add_comm]; rfl
theorem kci_form (i : Nat) : kci (6 + i) = 0 := by rw [Nat.add_comm]; rfl
theorem ko_cases (o : Nat) : o < 6 ∨ ∃ i, o = 6 + i := by
  rcases Nat.lt_or_ge o 6 with h | h
  · exact Or.inl h
  · exact Or.inr ⟨o - 6, by omega⟩
theorem kloc_lo : ∀ o, o < 6 → kloc (kbo o) = (o, none) := by decide +kernel
theorem kloc_obj (o : Nat) : kloc (kbo o) = (o, none) := by
  rcases ko_cases o with h | ⟨i, rfl⟩
  · exact kloc_lo o h
  · rw [kbo_form]
    unfold kloc
    rw [if_neg (by omega)]
    have e1 : (55 + 14 * i - 55) / 14 = i := by omega
    have e2 : (55 + 14 * i - 55) % 14 = 0 := by omega
    rw [e1, e2]
    rfl
/-- the cell of a row of an object -/
def koff (ci k : Nat) : Nat := ((kfk ci).getD k none).getD 0
def karr (ci k : Nat) : Bool := ((kln ci).getD k (false, 0)).2 != 0
theorem kloc_lo2 : ∀ o, o < 6 → ∀ k, k < 45 → karr (kci o) k = true → kloc (kbo o + koff (kci o) k) = (o, some k) := by decide +kernel
theorem kft_ok : ∀ k, k < 15 → karr 0 k = true → koff 0 k < 14 ∧ kft.getD (koff 0 k) none = some k := by decide +kernel
theorem karr_lt {ci k : Nat} (h : karr ci k = true) : k < 45 := by
  unfold karr at h
  rcases Nat.lt_or_ge k 45 with q | q
  · exact q
  · have : (kln ci).getD k (false, 0) = (false, 0) := by
      rw [List.getD_eq_getElem?_getD, List.getElem?_eq_none]
      · rfl
      · unfold kln
        split <;> simp <;> omega
    rw [this] at h
    simp at h
theorem karr_lt0 {k : Nat} (h : karr 0 k = true) : k < 15 := by
  unfold karr at h
  rcases Nat.lt_or_ge k 15 with q | q
  · exact q
  · have : (kln 0).getD k (false, 0) = (false, 0) := by
      rw [List.getD_eq_getElem?_getD, List.getElem?_eq_none]
      · rfl
      · simp [kln]; omega
    rw [this] at h
    simp at h
theorem kloc_arr {o k : Nat} (h : karr (kci o) k = true) : kloc (kbo o + koff (kci o) k) = (o, some k) := by
  rcases ko_cases o with q | ⟨i, rfl⟩
  · exact kloc_lo2 o q k (karr_lt h) h
  · rw [kbo_form]
    rw [kci_form] at h ⊢
    obtain ⟨h1, h2⟩ := kft_ok k (karr_lt0 h) h
    unfold kloc
    rw [if_neg (by omega)]
    have e1 : (55 + 14 * i + koff 0 k - 55) / 14 = i := by omega
    have e2 : (55 + 14 * i + koff 0 k - 55) % 14 = koff 0 k := by omega
    rw [e1, e2, h2]
def kpos (q : Nat × Option Nat) : Nat := match q.2 with
  | none => kbo q.1
  | some k => kbo q.1 + koff (kci q.1) k
def kjp (q : Option Nat) : Nat := match q with
  | none => 0
  | some k => koff 0 k
theorem kinv_lo : ∀ d, d < 55 → d = kpos (kloc d) := by decide +kernel
theorem kinv_hi : ∀ j, j < 14 → j = kjp (kft.getD j none) := by decide +kernel
theorem kinv (d : Nat) : d = kpos (kloc d) := by
  rcases Nat.lt_or_ge d 55 with h | h
  · exact kinv_lo d h
  · have e : kloc d = (6 + (d - 55) / 14, kft.getD ((d - 55) % 14) none) := by unfold kloc; rw [if_neg (by omega)]
    have hj := kinv_hi ((d - 55) % 14) (Nat.mod_lt _ (by decide))
    rw [e]
    revert hj
    cases kft.getD ((d - 55) % 14) none with
    | none => intro hj; simp only [kpos, kjp, kbo_form] at hj ⊢; omega
    | some k => intro hj; simp only [kpos, kjp, kbo_form, kci_form] at hj ⊢; omega
theorem kfl_get (ad : Nat → Nat) (u : kO) (b : Nat) : ∀ (l : List (Option Nat)) (s k : Nat), (kfl ad u b l s)[k]? = (l[k]?).map (fun x => match x with | none => .int (u.1 (s + k)) | some j => .ref (ad (b + j)))
  | [], s, k => by simp [kfl]
  | none :: l, s, 0 => by simp [kfl]
  | some j :: l, s, 0 => by simp [kfl]
  | none :: l, s, k + 1 => by
    have := kfl_get ad u b l (s + 1) k
    simp only [kfl, List.getElem?_cons_succ, this, Nat.add_assoc, Nat.add_comm 1 k]
  | some j :: l, s, k + 1 => by
    have := kfl_get ad u b l (s + 1) k
    simp only [kfl, List.getElem?_cons_succ, this, Nat.add_assoc, Nat.add_comm 1 k]
theorem kfl_set (ad : Nat → Nat) (u : kO) (b : Nat) (l : List (Option Nat)) {k : Nat} (x : Int32) (hk : l[k]? = some none) : (kfl ad u b l 0).set k (.int x) = kfl ad (va_up u.1 k x, u.2) b l 0 := by
  apply List.ext_getElem?
  intro i
  rw [List.getElem?_set, kfl_get, kfl_get]
  by_cases h : k = i
  · subst h
    have hl : k < (kfl ad u b l 0).length := by
      have e := kfl_get ad u b l 0 k
      rw [hk] at e
      exact (List.getElem?_eq_some_iff.mp e).1
    simp [hk, hl, va_up]
  · rw [if_neg h]
    cases l[i]? with
    | none => rfl
    | some q => cases q with
      | none => simp [va_up, Ne.symm h]
      | some j => rfl
def kI (S : kS) (o k : Nat) : Int32 := (S o).1 k
def kA (S : kS) (o k : Nat) (i : Int32) : Int32 := (S o).2 k i.toNatClampNeg
def kpI (S : kS) (o k : Nat) (x : Int32) : kS := va_up S o (va_up (S o).1 k x, (S o).2)
def kpR (S : kS) (o k : Nat) (g : Nat → Int32) : kS := va_up S o ((S o).1, va_up (S o).2 k g)
def kpA (S : kS) (o k : Nat) (i : Int32) (x : Int32) : kS := kpR S o k (upd ((S o).2 k) i.toNatClampNeg x)
theorem kgl_obj (G : kG) (n : Nat) (S : kS) (o : Nat) : kgl G n S (kbo o) = .inr (kci o, kfl (kg_ad G) (S o) (kbo o) (kfk (kci o)) 0) := by
  unfold kgl
  rw [kloc_obj]
  rfl
theorem kgl_arr (G : kG) (n : Nat) (S : kS) {o k : Nat} (h : karr (kci o) k = true) (h0 : ¬ (o = 0 ∧ k = 0)) : kgl G n S (kbo o + koff (kci o) k) = .inl (if ((kln (kci o)).getD k (false, 0)).1 = true then kg_Z G else kg_I G, ((kln (kci o)).getD k (false, 0)).2, .inl ((S o).2 k)) := by
  unfold kgl
  rw [kloc_arr h]
  unfold kcell
  dsimp only
  rw [if_neg h0]
theorem kgl_putI (G : kG) (n : Nat) (S : kS) (o : Nat) {k : Nat} (x : Int32) (hk : (kfk (kci o))[k]? = some none) (d : Nat) : va_up (kgl G n S) (kbo o) (.inr (kci o, (kfl (kg_ad G) (S o) (kbo o) (kfk (kci o)) 0).set k (.int x))) d = kgl G n (kpI S o k x) d := by
  by_cases h : d = kbo o
  · subst h
    rw [va_up_self, kgl_obj, kfl_set _ _ _ _ _ hk]
    simp [kpI, va_up]
  · rw [va_up_ne _ _ h]
    unfold kgl kcell
    have hi := kinv d
    unfold kpos at hi
    revert hi
    cases hz : (kloc d).2 with
    | none =>
      intro hi
      dsimp only at hi ⊢
      have : (kloc d).1 ≠ o := fun e => h (by rw [hi, e])
      rw [kpI, va_up_ne _ _ this]
    | some j =>
      intro _
      dsimp only
      by_cases e : (kloc d).1 = o
      · rw [e]; simp [kpI, va_up]
      · rw [kpI, va_up_ne _ _ e]
theorem kgl_putR (G : kG) (n : Nat) (S : kS) {o k : Nat} (g : Nat → Int32) (h : karr (kci o) k = true) (h0 : ¬ (o = 0 ∧ k = 0)) (d : Nat) : va_up (kgl G n S) (kbo o + koff (kci o) k) (.inl (if ((kln (kci o)).getD k (false, 0)).1 = true then kg_Z G else kg_I G, ((kln (kci o)).getD k (false, 0)).2, .inl g)) d = kgl G n (kpR S o k g) d := by
  by_cases hd : d = kbo o + koff (kci o) k
  · subst hd
    rw [va_up_self, kgl_arr G n _ h h0]
    simp [kpR, va_up]
  · rw [va_up_ne _ _ hd]
    unfold kgl kcell
    have hi := kinv d
    unfold kpos at hi
    revert hi
    cases hz : (kloc d).2 with
    | none =>
      intro _
      dsimp only
      by_cases e : (kloc d).1 = o
      · rw [e]; simp only [kpR, va_up_self]
        congr 2
        generalize kfk (kci o) = l
        apply List.ext_getElem?
        intro i
        rw [kfl_get, kfl_get]
      · rw [kpR, va_up_ne _ _ e]
    | some j =>
      intro hi
      dsimp only at hi ⊢
      by_cases e : (kloc d).1 = o
      · have hj : j ≠ k := fun q => hd (by rw [hi, e, q])
        rw [e]
        simp [kpR, va_up, hj]
      · rw [kpR, va_up_ne _ _ e]
theorem kN_obj {G : kG} {n o : Nat} (h : kOk G n o) : kbo o < kg_N G := by
  rw [h.2]
  rcases ko_cases o with q | ⟨i, rfl⟩
  · have : ∀ o, o < 6 → kbo o < 55 := by decide +kernel
    have := this o q
    omega
  · rw [kbo_form]
    have := h.1
    omega
theorem kN_arr {G : kG} {n o k : Nat} (h : kOk G n o) (ha : karr (kci o) k = true) : kbo o + koff (kci o) k < kg_N G := by
  rw [h.2]
  rcases ko_cases o with q | ⟨i, rfl⟩
  · have : ∀ o, o < 6 → ∀ k, k < 45 → karr (kci o) k = true → kbo o + koff (kci o) k < 55 := by decide +kernel
    have := this o q k (karr_lt ha) ha
    omega
  · rw [kbo_form]
    rw [kci_form] at ha ⊢
    have := (kft_ok k (karr_lt0 ha) ha).1
    have := h.1
    omega
theorem kV_congr {Y : kY} {cc : ByteArray} {f g : Nat → va_E} {lv : List (Option Value)} {st : List Value} {pc : Nat} (h : ∀ d, f d = g d) (kk : kV Y cc g lv st pc) : kV Y cc f lv st pc := by
  have : f = g := funext h
  rw [this]
  exact kk
section KTYP
variable {X : kX} {nL : Nat} {ret : Option FieldType} {G : kG} {R : Room} {cs : Nat × Nat} {Q : State → Prop} {cc : ByteArray} {lv : List (Option Value)} {st : List Value} {pc n o : Nat} {S : kS} {own : String}
theorem kg_int {C : String} {T : u_T} {m ci k index : Nat} {x : Int32} (pc' : Nat) (hd : decode cc pc = .ok (.getfield index, 3)) (hO : kOk G n o) (hc : kci o = ci) (hx : kI S o k = x) (hp : pc + 3 = pc') (hin : ∀ w ∈ u_ws C T m, w ∈ wsL_law) (hv : vwCl[ci]? = some (C, T, m)) (hm : Nat.blt k m = true) (hlink : Cond.fieldLink own index (T k).1 (T k).2.1 (T k).2.2.1 ∈ wsL_law) (hk : (kfk ci)[k]? = some none)
    (kk : kV (X, own, nL, ret, G, R, cs, Q) cc (kgl G n S) lv (.int x :: st) pc') : kV (X, own, nL, ret, G, R, cs, Q) cc (kgl G n S) lv (.ref (kg_ad G (kbo o)) :: st) pc := by
  subst hc; subst hx
  exact kV_get (Y := (X, own, nL, ret, G, R, cs, Q)) k pc' hd hin hv hm rfl hlink (kN_obj hO) (kgl_obj G n S o) (by rw [kfl_get, hk]; simp [kI]) hp kk
theorem kg_ref {C : String} {T : u_T} {m ci k index j : Nat} (pc' : Nat) (hd : decode cc pc = .ok (.getfield index, 3)) (hO : kOk G n o) (hc : kci o = ci) (hp : pc + 3 = pc') (hin : ∀ w ∈ u_ws C T m, w ∈ wsL_law) (hv : vwCl[ci]? = some (C, T, m)) (hm : Nat.blt k m = true) (hlink : Cond.fieldLink own index (T k).1 (T k).2.1 (T k).2.2.1 ∈ wsL_law) (hk : (kfk ci)[k]? = some (some j))
    (kk : kV (X, own, nL, ret, G, R, cs, Q) cc (kgl G n S) lv (.ref (kg_ad G (kbo o + j)) :: st) pc') : kV (X, own, nL, ret, G, R, cs, Q) cc (kgl G n S) lv (.ref (kg_ad G (kbo o)) :: st) pc := by
  subst hc
  exact kV_get (Y := (X, own, nL, ret, G, R, cs, Q)) k pc' hd hin hv hm rfl hlink (kN_obj hO) (kgl_obj G n S o) (by rw [kfl_get, hk]; simp) hp kk
theorem kp_int {C : String} {T : u_T} {m ci k index : Nat} {x : Int32} {S' : kS} {ty0 : Nat → FieldType} (pc' : Nat) (hd : decode cc pc = .ok (.putfield index, 3)) (hO : kOk G n o) (hc : kci o = ci) (hx : kpI S o k x = S') (hp : pc + 3 = pc') (hin : ∀ w ∈ u_ws C T m, w ∈ wsL_law) (hty : ∀ k, k < m → parseFieldDescriptor (T k).2.2.1 = some (ty0 k)) (hnm : ∀ a, a < m → ∀ b, b < m → a ≠ b → (T a).2.1 ≠ (T b).2.1) (hv : vwCl[ci]? = some (C, T, m)) (hm : Nat.blt k m = true) (hlink : Cond.fieldLink own index (T k).1 (T k).2.1 (T k).2.2.1 ∈ wsL_law) (hfin : (T k).2.2.2 = false) (ht0 : ty0 k = .int) (hk : (kfk ci)[k]? = some none)
    (kk : kV (X, own, nL, ret, G, R, cs, Q) cc (kgl G n S') lv st pc') : kV (X, own, nL, ret, G, R, cs, Q) cc (kgl G n S) lv (.int x :: .ref (kg_ad G (kbo o)) :: st) pc := by
  subst hc; subst hx
  refine kV_put (Y := (X, own, nL, ret, G, R, cs, Q)) k pc' hd hin ty0 hty hnm hv hm rfl hlink hfin ht0 rfl rfl (kN_obj hO) (kgl_obj G n S o) ?_ hp (kV_congr (kgl_putI G n S o x hk) kk)
  have e := kfl_get (kg_ad G) (S o) (kbo o) (kfk (kci o)) 0 k
  rw [hk] at e
  have := (List.getElem?_eq_some_iff.mp e).1
  exact Nat.ble_eq_true_of_le this
theorem kl_int {ci k len j : Nat} {i x : Int32} (pc' : Nat) (hd : decode cc pc = .ok (.iaload, 1)) (hO : kOk G n o) (hc : kci o = ci) (hi : kin i len = true) (hx : kA S o k i = x) (hp : pc + 1 = pc') (h0 : ¬ (o = 0 ∧ k = 0)) (ha : karr ci k = true) (hl : (kln ci).getD k (false, 0) = (false, len)) (hj : koff ci k = j)
    (kk : kV (X, own, nL, ret, G, R, cs, Q) cc (kgl G n S) lv (.int x :: st) pc') : kV (X, own, nL, ret, G, R, cs, Q) cc (kgl G n S) lv (.int i :: .ref (kg_ad G (kbo o + j)) :: st) pc := by
  subst hc; subst hx; subst hj
  have e := kgl_arr G n S ha h0
  rw [hl] at e
  exact kV_iald (Y := (X, own, nL, ret, G, R, cs, Q)) pc' hd (kN_arr hO ha) e hi hp kk
theorem kl_boo {ci k len j : Nat} {i x : Int32} (pc' : Nat) (hd : decode cc pc = .ok (.baload, 1)) (hO : kOk G n o) (hc : kci o = ci) (hi : kin i len = true) (hx : kA S o k i = x) (hp : pc + 1 = pc') (h0 : ¬ (o = 0 ∧ k = 0)) (ha : karr ci k = true) (hl : (kln ci).getD k (false, 0) = (true, len)) (hj : koff ci k = j)
    (kk : kV (X, own, nL, ret, G, R, cs, Q) cc (kgl G n S) lv (.int x :: st) pc') : kV (X, own, nL, ret, G, R, cs, Q) cc (kgl G n S) lv (.int i :: .ref (kg_ad G (kbo o + j)) :: st) pc := by
  subst hc; subst hx; subst hj
  have e := kgl_arr G n S ha h0
  rw [hl] at e
  exact kV_zald (Y := (X, own, nL, ret, G, R, cs, Q)) pc' hd (kN_arr hO ha) e hi hp kk
theorem ks_int {ci k len j : Nat} {i x : Int32} {S' : kS} (pc' : Nat) (hd : decode cc pc = .ok (.iastore, 1)) (hO : kOk G n o) (hc : kci o = ci) (hi : kin i len = true) (hx : kpA S o k i x = S') (hp : pc + 1 = pc') (h0 : ¬ (o = 0 ∧ k = 0)) (ha : karr ci k = true) (hl : (kln ci).getD k (false, 0) = (false, len)) (hj : koff ci k = j)
    (kk : kV (X, own, nL, ret, G, R, cs, Q) cc (kgl G n S') lv st pc') : kV (X, own, nL, ret, G, R, cs, Q) cc (kgl G n S) lv (.int x :: .int i :: .ref (kg_ad G (kbo o + j)) :: st) pc := by
  subst hc; subst hx; subst hj
  have e := kgl_arr G n S ha h0
  have e2 := fun g => kgl_putR G n S g ha h0
  rw [hl] at e
  simp only [hl] at e2
  exact kV_iast (Y := (X, own, nL, ret, G, R, cs, Q)) pc' hd (kN_arr hO ha) e hi hp (kV_congr (e2 _) kk)
theorem ks_boo {ci k len j : Nat} {i x : Int32} {S' : kS} (pc' : Nat) (hd : decode cc pc = .ok (.bastore, 1)) (hO : kOk G n o) (hc : kci o = ci) (hi : kin i len = true) (hx : kpA S o k i (x &&& 1) = S') (hp : pc + 1 = pc') (h0 : ¬ (o = 0 ∧ k = 0)) (ha : karr ci k = true) (hl : (kln ci).getD k (false, 0) = (true, len)) (hj : koff ci k = j)
    (kk : kV (X, own, nL, ret, G, R, cs, Q) cc (kgl G n S') lv st pc') : kV (X, own, nL, ret, G, R, cs, Q) cc (kgl G n S) lv (.int x :: .int i :: .ref (kg_ad G (kbo o + j)) :: st) pc := by
  subst hc; subst hx; subst hj
  have e := kgl_arr G n S ha h0
  have e2 := fun g => kgl_putR G n S g ha h0
  rw [hl] at e
  simp only [hl] at e2
  exact kV_zast (Y := (X, own, nL, ret, G, R, cs, Q)) pc' hd (kN_arr hO ha) e hi hp (kV_congr (e2 _) kk)
theorem ka_int {ci k len j : Nat} {v : Int32} (pc' : Nat) (hd : decode cc pc = .ok (.arraylength, 1)) (hO : kOk G n o) (hc : kci o = ci) (hv : Int32.ofNat len = v) (hp : pc + 1 = pc') (h0 : ¬ (o = 0 ∧ k = 0)) (ha : karr ci k = true) (hl : (kln ci).getD k (false, 0) = (false, len)) (hj : koff ci k = j)
    (kk : kV (X, own, nL, ret, G, R, cs, Q) cc (kgl G n S) lv (.int v :: st) pc') : kV (X, own, nL, ret, G, R, cs, Q) cc (kgl G n S) lv (.ref (kg_ad G (kbo o + j)) :: st) pc := by
  subst hc; subst hj
  have e := kgl_arr G n S ha h0
  rw [hl] at e
  exact kV_alen (Y := (X, own, nL, ret, G, R, cs, Q)) (t0 := 0) pc' hd (kN_arr hO ha) e rfl hv hp kk

theorem rg0_9 {x : Int32} (pc' : Nat) (hd : decode cc pc = .ok (.getfield 9, 3)) (hO : kOk G n o) (hc : kci o = 0) (hx : kI S o 0 = x) (hp : pc + 3 = pc') (kk : kV (X, RX0, nL, ret, G, R, cs, Q) cc (kgl G n S) lv (.int x :: st) pc') : kV (X, RX0, nL, ret, G, R, cs, Q) cc (kgl G n S) lv (.ref (kg_ad G (kbo o)) :: st) pc := kg_int pc' hd hO hc hx hp inlX0 rfl rfl (wi_r6 _ (List.mem_of_getElem? (i := 6) rfl)) rfl kk
theorem rp0_9 {x : Int32} {S' : kS} (pc' : Nat) (hd : decode cc pc = .ok (.putfield 9, 3)) (hO : kOk G n o) (hc : kci o = 0) (hx : kpI S o 0 x = S') (hp : pc + 3 = pc') (kk : kV (X, RX0, nL, ret, G, R, cs, Q) cc (kgl G n S') lv st pc') : kV (X, RX0, nL, ret, G, R, cs, Q) cc (kgl G n S) lv (.int x :: .ref (kg_ad G (kbo o)) :: st) pc := kp_int pc' hd hO hc hx hp inlX0 tyX0_ok nmX0 rfl rfl (wi_r6 _ (List.mem_of_getElem? (i := 6) rfl)) rfl rfl rfl kk
theorem rg0_15 (pc' : Nat) (hd : decode cc pc = .ok (.getfield 15, 3)) (hO : kOk G n o) (hc : kci o = 0) (hp : pc + 3 = pc') (kk : kV (X, RX0, nL, ret, G, R, cs, Q) cc (kgl G n S) lv (.ref (kg_ad G (kbo o + 1)) :: st) pc') : kV (X, RX0, nL, ret, G, R, cs, Q) cc (kgl G n S) lv (.ref (kg_ad G (kbo o)) :: st) pc := kg_ref (k := 1) (j := 1) pc' hd hO hc hp inlX0 rfl rfl (wi_r6 _ (List.mem_of_getElem? (i := 7) rfl)) rfl kk
theorem rg0_19 (pc' : Nat) (hd : decode cc pc = .ok (.getfield 19, 3)) (hO : kOk G n o) (hc : kci o = 0) (hp : pc + 3 = pc') (kk : kV (X, RX0, nL, ret, G, R, cs, Q) cc (kgl G n S) lv (.ref (kg_ad G (kbo o + 2)) :: st) pc') : kV (X, RX0, nL, ret, G, R, cs, Q) cc (kgl G n S) lv (.ref (kg_ad G (kbo o)) :: st) pc := kg_ref (k := 2) (j := 2) pc' hd hO hc hp inlX0 rfl rfl (wi_r6 _ (List.mem_of_getElem? (i := 8) rfl)) rfl kk
theorem rg0_22 (pc' : Nat) (hd : decode cc pc = .ok (.getfield 22, 3)) (hO : kOk G n o) (hc : kci o = 0) (hp : pc + 3 = pc') (kk : kV (X, RX0, nL, ret, G, R, cs, Q) cc (kgl G n S) lv (.ref (kg_ad G (kbo o + 3)) :: st) pc') : kV (X, RX0, nL, ret, G, R, cs, Q) cc (kgl G n S) lv (.ref (kg_ad G (kbo o)) :: st) pc := kg_ref (k := 3) (j := 3) pc' hd hO hc hp inlX0 rfl rfl (wi_r6 _ (List.mem_of_getElem? (i := 9) rfl)) rfl kk
theorem rg0_25 (pc' : Nat) (hd : decode cc pc = .ok (.getfield 25, 3)) (hO : kOk G n o) (hc : kci o = 0) (hp : pc + 3 = pc') (kk : kV (X, RX0, nL, ret, G, R, cs, Q) cc (kgl G n S) lv (.ref (kg_ad G (kbo o + 4)) :: st) pc') : kV (X, RX0, nL, ret, G, R, cs, Q) cc (kgl G n S) lv (.ref (kg_ad G (kbo o)) :: st) pc := kg_ref (k := 4) (j := 4) pc' hd hO hc hp inlX0 rfl rfl (wi_r6 _ (List.mem_of_getElem? (i := 10) rfl)) rfl kk
theorem rg0_28 (pc' : Nat) (hd : decode cc pc = .ok (.getfield 28, 3)) (hO : kOk G n o) (hc : kci o = 0) (hp : pc + 3 = pc') (kk : kV (X, RX0, nL, ret, G, R, cs, Q) cc (kgl G n S) lv (.ref (kg_ad G (kbo o + 5)) :: st) pc') : kV (X, RX0, nL, ret, G, R, cs, Q) cc (kgl G n S) lv (.ref (kg_ad G (kbo o)) :: st) pc := kg_ref (k := 5) (j := 5) pc' hd hO hc hp inlX0 rfl rfl (wi_r6 _ (List.mem_of_getElem? (i := 11) rfl)) rfl kk
theorem rg0_31 (pc' : Nat) (hd : decode cc pc = .ok (.getfield 31, 3)) (hO : kOk G n o) (hc : kci o = 0) (hp : pc + 3 = pc') (kk : kV (X, RX0, nL, ret, G, R, cs, Q) cc (kgl G n S) lv (.ref (kg_ad G (kbo o + 6)) :: st) pc') : kV (X, RX0, nL, ret, G, R, cs, Q) cc (kgl G n S) lv (.ref (kg_ad G (kbo o)) :: st) pc := kg_ref (k := 6) (j := 6) pc' hd hO hc hp inlX0 rfl rfl (wi_r6 _ (List.mem_of_getElem? (i := 12) rfl)) rfl kk
theorem rg0_34 {x : Int32} (pc' : Nat) (hd : decode cc pc = .ok (.getfield 34, 3)) (hO : kOk G n o) (hc : kci o = 0) (hx : kI S o 7 = x) (hp : pc + 3 = pc') (kk : kV (X, RX0, nL, ret, G, R, cs, Q) cc (kgl G n S) lv (.int x :: st) pc') : kV (X, RX0, nL, ret, G, R, cs, Q) cc (kgl G n S) lv (.ref (kg_ad G (kbo o)) :: st) pc := kg_int pc' hd hO hc hx hp inlX0 rfl rfl (wi_r6 _ (List.mem_of_getElem? (i := 13) rfl)) rfl kk
theorem rp0_34 {x : Int32} {S' : kS} (pc' : Nat) (hd : decode cc pc = .ok (.putfield 34, 3)) (hO : kOk G n o) (hc : kci o = 0) (hx : kpI S o 7 x = S') (hp : pc + 3 = pc') (kk : kV (X, RX0, nL, ret, G, R, cs, Q) cc (kgl G n S') lv st pc') : kV (X, RX0, nL, ret, G, R, cs, Q) cc (kgl G n S) lv (.int x :: .ref (kg_ad G (kbo o)) :: st) pc := kp_int pc' hd hO hc hx hp inlX0 tyX0_ok nmX0 rfl rfl (wi_r6 _ (List.mem_of_getElem? (i := 13) rfl)) rfl rfl rfl kk
theorem rg0_37 (pc' : Nat) (hd : decode cc pc = .ok (.getfield 37, 3)) (hO : kOk G n o) (hc : kci o = 0) (hp : pc + 3 = pc') (kk : kV (X, RX0, nL, ret, G, R, cs, Q) cc (kgl G n S) lv (.ref (kg_ad G (kbo o + 7)) :: st) pc') : kV (X, RX0, nL, ret, G, R, cs, Q) cc (kgl G n S) lv (.ref (kg_ad G (kbo o)) :: st) pc := kg_ref (k := 8) (j := 7) pc' hd hO hc hp inlX0 rfl rfl (wi_r6 _ (List.mem_of_getElem? (i := 14) rfl)) rfl kk
theorem rg0_40 (pc' : Nat) (hd : decode cc pc = .ok (.getfield 40, 3)) (hO : kOk G n o) (hc : kci o = 0) (hp : pc + 3 = pc') (kk : kV (X, RX0, nL, ret, G, R, cs, Q) cc (kgl G n S) lv (.ref (kg_ad G (kbo o + 8)) :: st) pc') : kV (X, RX0, nL, ret, G, R, cs, Q) cc (kgl G n S) lv (.ref (kg_ad G (kbo o)) :: st) pc := kg_ref (k := 9) (j := 8) pc' hd hO hc hp inlX0 rfl rfl (wi_r6 _ (List.mem_of_getElem? (i := 15) rfl)) rfl kk
theorem rg0_43 (pc' : Nat) (hd : decode cc pc = .ok (.getfield 43, 3)) (hO : kOk G n o) (hc : kci o = 0) (hp : pc + 3 = pc') (kk : kV (X, RX0, nL, ret, G, R, cs, Q) cc (kgl G n S) lv (.ref (kg_ad G (kbo o + 9)) :: st) pc') : kV (X, RX0, nL, ret, G, R, cs, Q) cc (kgl G n S) lv (.ref (kg_ad G (kbo o)) :: st) pc := kg_ref (k := 10) (j := 9) pc' hd hO hc hp inlX0 rfl rfl (wi_r6 _ (List.mem_of_getElem? (i := 16) rfl)) rfl kk
theorem rg0_46 (pc' : Nat) (hd : decode cc pc = .ok (.getfield 46, 3)) (hO : kOk G n o) (hc : kci o = 0) (hp : pc + 3 = pc') (kk : kV (X, RX0, nL, ret, G, R, cs, Q) cc (kgl G n S) lv (.ref (kg_ad G (kbo o + 10)) :: st) pc') : kV (X, RX0, nL, ret, G, R, cs, Q) cc (kgl G n S) lv (.ref (kg_ad G (kbo o)) :: st) pc := kg_ref (k := 11) (j := 10) pc' hd hO hc hp inlX0 rfl rfl (wi_r6 _ (List.mem_of_getElem? (i := 17) rfl)) rfl kk
theorem rg0_49 (pc' : Nat) (hd : decode cc pc = .ok (.getfield 49, 3)) (hO : kOk G n o) (hc : kci o = 0) (hp : pc + 3 = pc') (kk : kV (X, RX0, nL, ret, G, R, cs, Q) cc (kgl G n S) lv (.ref (kg_ad G (kbo o + 11)) :: st) pc') : kV (X, RX0, nL, ret, G, R, cs, Q) cc (kgl G n S) lv (.ref (kg_ad G (kbo o)) :: st) pc := kg_ref (k := 12) (j := 11) pc' hd hO hc hp inlX0 rfl rfl (wi_r6 _ (List.mem_of_getElem? (i := 18) rfl)) rfl kk
theorem rg0_52 (pc' : Nat) (hd : decode cc pc = .ok (.getfield 52, 3)) (hO : kOk G n o) (hc : kci o = 0) (hp : pc + 3 = pc') (kk : kV (X, RX0, nL, ret, G, R, cs, Q) cc (kgl G n S) lv (.ref (kg_ad G (kbo o + 12)) :: st) pc') : kV (X, RX0, nL, ret, G, R, cs, Q) cc (kgl G n S) lv (.ref (kg_ad G (kbo o)) :: st) pc := kg_ref (k := 13) (j := 12) pc' hd hO hc hp inlX0 rfl rfl (wi_r6 _ (List.mem_of_getElem? (i := 19) rfl)) rfl kk
theorem rg0_55 (pc' : Nat) (hd : decode cc pc = .ok (.getfield 55, 3)) (hO : kOk G n o) (hc : kci o = 0) (hp : pc + 3 = pc') (kk : kV (X, RX0, nL, ret, G, R, cs, Q) cc (kgl G n S) lv (.ref (kg_ad G (kbo o + 13)) :: st) pc') : kV (X, RX0, nL, ret, G, R, cs, Q) cc (kgl G n S) lv (.ref (kg_ad G (kbo o)) :: st) pc := kg_ref (k := 14) (j := 13) pc' hd hO hc hp inlX0 rfl rfl (wi_r6 _ (List.mem_of_getElem? (i := 20) rfl)) rfl kk
theorem rg1_11 (pc' : Nat) (hd : decode cc pc = .ok (.getfield 11, 3)) (hO : kOk G n o) (hc : kci o = 1) (hp : pc + 3 = pc') (kk : kV (X, RX1, nL, ret, G, R, cs, Q) cc (kgl G n S) lv (.ref (kg_ad G (kbo o + 1)) :: st) pc') : kV (X, RX1, nL, ret, G, R, cs, Q) cc (kgl G n S) lv (.ref (kg_ad G (kbo o)) :: st) pc := kg_ref (k := 0) (j := 1) pc' hd hO hc hp inlX1 rfl rfl (wi_r4 _ (List.mem_of_getElem? (i := 0) rfl)) rfl kk
theorem rg1_15 (pc' : Nat) (hd : decode cc pc = .ok (.getfield 15, 3)) (hO : kOk G n o) (hc : kci o = 1) (hp : pc + 3 = pc') (kk : kV (X, RX1, nL, ret, G, R, cs, Q) cc (kgl G n S) lv (.ref (kg_ad G (kbo o + 2)) :: st) pc') : kV (X, RX1, nL, ret, G, R, cs, Q) cc (kgl G n S) lv (.ref (kg_ad G (kbo o)) :: st) pc := kg_ref (k := 1) (j := 2) pc' hd hO hc hp inlX1 rfl rfl (wi_r4 _ (List.mem_of_getElem? (i := 1) rfl)) rfl kk
theorem rg1_18 {x : Int32} (pc' : Nat) (hd : decode cc pc = .ok (.getfield 18, 3)) (hO : kOk G n o) (hc : kci o = 1) (hx : kI S o 2 = x) (hp : pc + 3 = pc') (kk : kV (X, RX1, nL, ret, G, R, cs, Q) cc (kgl G n S) lv (.int x :: st) pc') : kV (X, RX1, nL, ret, G, R, cs, Q) cc (kgl G n S) lv (.ref (kg_ad G (kbo o)) :: st) pc := kg_int pc' hd hO hc hx hp inlX1 rfl rfl (wi_r4 _ (List.mem_of_getElem? (i := 2) rfl)) rfl kk
theorem rp1_18 {x : Int32} {S' : kS} (pc' : Nat) (hd : decode cc pc = .ok (.putfield 18, 3)) (hO : kOk G n o) (hc : kci o = 1) (hx : kpI S o 2 x = S') (hp : pc + 3 = pc') (kk : kV (X, RX1, nL, ret, G, R, cs, Q) cc (kgl G n S') lv st pc') : kV (X, RX1, nL, ret, G, R, cs, Q) cc (kgl G n S) lv (.int x :: .ref (kg_ad G (kbo o)) :: st) pc := kp_int pc' hd hO hc hx hp inlX1 tyX1_ok nmX1 rfl rfl (wi_r4 _ (List.mem_of_getElem? (i := 2) rfl)) rfl rfl rfl kk
theorem rg1_22 {x : Int32} (pc' : Nat) (hd : decode cc pc = .ok (.getfield 22, 3)) (hO : kOk G n o) (hc : kci o = 1) (hx : kI S o 3 = x) (hp : pc + 3 = pc') (kk : kV (X, RX1, nL, ret, G, R, cs, Q) cc (kgl G n S) lv (.int x :: st) pc') : kV (X, RX1, nL, ret, G, R, cs, Q) cc (kgl G n S) lv (.ref (kg_ad G (kbo o)) :: st) pc := kg_int pc' hd hO hc hx hp inlX1 rfl rfl (wi_r4 _ (List.mem_of_getElem? (i := 3) rfl)) rfl kk
theorem rp1_22 {x : Int32} {S' : kS} (pc' : Nat) (hd : decode cc pc = .ok (.putfield 22, 3)) (hO : kOk G n o) (hc : kci o = 1) (hx : kpI S o 3 x = S') (hp : pc + 3 = pc') (kk : kV (X, RX1, nL, ret, G, R, cs, Q) cc (kgl G n S') lv st pc') : kV (X, RX1, nL, ret, G, R, cs, Q) cc (kgl G n S) lv (.int x :: .ref (kg_ad G (kbo o)) :: st) pc := kp_int pc' hd hO hc hx hp inlX1 tyX1_ok nmX1 rfl rfl (wi_r4 _ (List.mem_of_getElem? (i := 3) rfl)) rfl rfl rfl kk
theorem rg2_11 (pc' : Nat) (hd : decode cc pc = .ok (.getfield 11, 3)) (hO : kOk G n o) (hc : kci o = 2) (hp : pc + 3 = pc') (kk : kV (X, RX2, nL, ret, G, R, cs, Q) cc (kgl G n S) lv (.ref (kg_ad G (kbo o + 1)) :: st) pc') : kV (X, RX2, nL, ret, G, R, cs, Q) cc (kgl G n S) lv (.ref (kg_ad G (kbo o)) :: st) pc := kg_ref (k := 0) (j := 1) pc' hd hO hc hp inlX2 rfl rfl (wi_r3 _ (List.mem_of_getElem? (i := 18) rfl)) rfl kk
theorem rg2_15 (pc' : Nat) (hd : decode cc pc = .ok (.getfield 15, 3)) (hO : kOk G n o) (hc : kci o = 2) (hp : pc + 3 = pc') (kk : kV (X, RX2, nL, ret, G, R, cs, Q) cc (kgl G n S) lv (.ref (kg_ad G (kbo o + 2)) :: st) pc') : kV (X, RX2, nL, ret, G, R, cs, Q) cc (kgl G n S) lv (.ref (kg_ad G (kbo o)) :: st) pc := kg_ref (k := 1) (j := 2) pc' hd hO hc hp inlX2 rfl rfl (wi_r3 _ (List.mem_of_getElem? (i := 19) rfl)) rfl kk
theorem rg3_11 (pc' : Nat) (hd : decode cc pc = .ok (.getfield 11, 3)) (hO : kOk G n o) (hc : kci o = 3) (hp : pc + 3 = pc') (kk : kV (X, RX3, nL, ret, G, R, cs, Q) cc (kgl G n S) lv (.ref (kg_ad G (kbo o + 1)) :: st) pc') : kV (X, RX3, nL, ret, G, R, cs, Q) cc (kgl G n S) lv (.ref (kg_ad G (kbo o)) :: st) pc := kg_ref (k := 0) (j := 1) pc' hd hO hc hp inlX3 rfl rfl (wi_r3 _ (List.mem_of_getElem? (i := 6) rfl)) rfl kk
theorem rg3_15 {x : Int32} (pc' : Nat) (hd : decode cc pc = .ok (.getfield 15, 3)) (hO : kOk G n o) (hc : kci o = 3) (hx : kI S o 1 = x) (hp : pc + 3 = pc') (kk : kV (X, RX3, nL, ret, G, R, cs, Q) cc (kgl G n S) lv (.int x :: st) pc') : kV (X, RX3, nL, ret, G, R, cs, Q) cc (kgl G n S) lv (.ref (kg_ad G (kbo o)) :: st) pc := kg_int pc' hd hO hc hx hp inlX3 rfl rfl (wi_r3 _ (List.mem_of_getElem? (i := 7) rfl)) rfl kk
theorem rp3_15 {x : Int32} {S' : kS} (pc' : Nat) (hd : decode cc pc = .ok (.putfield 15, 3)) (hO : kOk G n o) (hc : kci o = 3) (hx : kpI S o 1 x = S') (hp : pc + 3 = pc') (kk : kV (X, RX3, nL, ret, G, R, cs, Q) cc (kgl G n S') lv st pc') : kV (X, RX3, nL, ret, G, R, cs, Q) cc (kgl G n S) lv (.int x :: .ref (kg_ad G (kbo o)) :: st) pc := kp_int pc' hd hO hc hx hp inlX3 tyX3_ok nmX3 rfl rfl (wi_r3 _ (List.mem_of_getElem? (i := 7) rfl)) rfl rfl rfl kk
theorem rg3_19 (pc' : Nat) (hd : decode cc pc = .ok (.getfield 19, 3)) (hO : kOk G n o) (hc : kci o = 3) (hp : pc + 3 = pc') (kk : kV (X, RX3, nL, ret, G, R, cs, Q) cc (kgl G n S) lv (.ref (kg_ad G (kbo o + 2)) :: st) pc') : kV (X, RX3, nL, ret, G, R, cs, Q) cc (kgl G n S) lv (.ref (kg_ad G (kbo o)) :: st) pc := kg_ref (k := 2) (j := 2) pc' hd hO hc hp inlX3 rfl rfl (wi_r3 _ (List.mem_of_getElem? (i := 8) rfl)) rfl kk
theorem rg3_22 (pc' : Nat) (hd : decode cc pc = .ok (.getfield 22, 3)) (hO : kOk G n o) (hc : kci o = 3) (hp : pc + 3 = pc') (kk : kV (X, RX3, nL, ret, G, R, cs, Q) cc (kgl G n S) lv (.ref (kg_ad G (kbo o + 3)) :: st) pc') : kV (X, RX3, nL, ret, G, R, cs, Q) cc (kgl G n S) lv (.ref (kg_ad G (kbo o)) :: st) pc := kg_ref (k := 3) (j := 3) pc' hd hO hc hp inlX3 rfl rfl (wi_r3 _ (List.mem_of_getElem? (i := 9) rfl)) rfl kk
theorem rg3_25 (pc' : Nat) (hd : decode cc pc = .ok (.getfield 25, 3)) (hO : kOk G n o) (hc : kci o = 3) (hp : pc + 3 = pc') (kk : kV (X, RX3, nL, ret, G, R, cs, Q) cc (kgl G n S) lv (.ref (kg_ad G (kbo o + 4)) :: st) pc') : kV (X, RX3, nL, ret, G, R, cs, Q) cc (kgl G n S) lv (.ref (kg_ad G (kbo o)) :: st) pc := kg_ref (k := 4) (j := 4) pc' hd hO hc hp inlX3 rfl rfl (wi_r3 _ (List.mem_of_getElem? (i := 10) rfl)) rfl kk
theorem rg3_28 (pc' : Nat) (hd : decode cc pc = .ok (.getfield 28, 3)) (hO : kOk G n o) (hc : kci o = 3) (hp : pc + 3 = pc') (kk : kV (X, RX3, nL, ret, G, R, cs, Q) cc (kgl G n S) lv (.ref (kg_ad G (kbo o + 5)) :: st) pc') : kV (X, RX3, nL, ret, G, R, cs, Q) cc (kgl G n S) lv (.ref (kg_ad G (kbo o)) :: st) pc := kg_ref (k := 5) (j := 5) pc' hd hO hc hp inlX3 rfl rfl (wi_r3 _ (List.mem_of_getElem? (i := 12) rfl)) rfl kk
theorem rg3_32 (pc' : Nat) (hd : decode cc pc = .ok (.getfield 32, 3)) (hO : kOk G n o) (hc : kci o = 3) (hp : pc + 3 = pc') (kk : kV (X, RX3, nL, ret, G, R, cs, Q) cc (kgl G n S) lv (.ref (kg_ad G (kbo o + 6)) :: st) pc') : kV (X, RX3, nL, ret, G, R, cs, Q) cc (kgl G n S) lv (.ref (kg_ad G (kbo o)) :: st) pc := kg_ref (k := 6) (j := 6) pc' hd hO hc hp inlX3 rfl rfl (wi_r3 _ (List.mem_of_getElem? (i := 13) rfl)) rfl kk
theorem rg3_35 {x : Int32} (pc' : Nat) (hd : decode cc pc = .ok (.getfield 35, 3)) (hO : kOk G n o) (hc : kci o = 3) (hx : kI S o 7 = x) (hp : pc + 3 = pc') (kk : kV (X, RX3, nL, ret, G, R, cs, Q) cc (kgl G n S) lv (.int x :: st) pc') : kV (X, RX3, nL, ret, G, R, cs, Q) cc (kgl G n S) lv (.ref (kg_ad G (kbo o)) :: st) pc := kg_int pc' hd hO hc hx hp inlX3 rfl rfl (wi_r3 _ (List.mem_of_getElem? (i := 14) rfl)) rfl kk
theorem rp3_35 {x : Int32} {S' : kS} (pc' : Nat) (hd : decode cc pc = .ok (.putfield 35, 3)) (hO : kOk G n o) (hc : kci o = 3) (hx : kpI S o 7 x = S') (hp : pc + 3 = pc') (kk : kV (X, RX3, nL, ret, G, R, cs, Q) cc (kgl G n S') lv st pc') : kV (X, RX3, nL, ret, G, R, cs, Q) cc (kgl G n S) lv (.int x :: .ref (kg_ad G (kbo o)) :: st) pc := kp_int pc' hd hO hc hx hp inlX3 tyX3_ok nmX3 rfl rfl (wi_r3 _ (List.mem_of_getElem? (i := 14) rfl)) rfl rfl rfl kk
theorem rg4_9 {x : Int32} (pc' : Nat) (hd : decode cc pc = .ok (.getfield 9, 3)) (hO : kOk G n o) (hc : kci o = 4) (hx : kI S o 0 = x) (hp : pc + 3 = pc') (kk : kV (X, RX4, nL, ret, G, R, cs, Q) cc (kgl G n S) lv (.int x :: st) pc') : kV (X, RX4, nL, ret, G, R, cs, Q) cc (kgl G n S) lv (.ref (kg_ad G (kbo o)) :: st) pc := kg_int pc' hd hO hc hx hp inlX4 rfl rfl (wi_r2 _ (List.mem_of_getElem? (i := 19) rfl)) rfl kk
theorem rp4_9 {x : Int32} {S' : kS} (pc' : Nat) (hd : decode cc pc = .ok (.putfield 9, 3)) (hO : kOk G n o) (hc : kci o = 4) (hx : kpI S o 0 x = S') (hp : pc + 3 = pc') (kk : kV (X, RX4, nL, ret, G, R, cs, Q) cc (kgl G n S') lv st pc') : kV (X, RX4, nL, ret, G, R, cs, Q) cc (kgl G n S) lv (.int x :: .ref (kg_ad G (kbo o)) :: st) pc := kp_int pc' hd hO hc hx hp inlX4 tyX4_ok nmX4 rfl rfl (wi_r2 _ (List.mem_of_getElem? (i := 19) rfl)) rfl rfl rfl kk
theorem rg4_15 {x : Int32} (pc' : Nat) (hd : decode cc pc = .ok (.getfield 15, 3)) (hO : kOk G n o) (hc : kci o = 4) (hx : kI S o 1 = x) (hp : pc + 3 = pc') (kk : kV (X, RX4, nL, ret, G, R, cs, Q) cc (kgl G n S) lv (.int x :: st) pc') : kV (X, RX4, nL, ret, G, R, cs, Q) cc (kgl G n S) lv (.ref (kg_ad G (kbo o)) :: st) pc := kg_int pc' hd hO hc hx hp inlX4 rfl rfl (wi_r2 _ (List.mem_of_getElem? (i := 20) rfl)) rfl kk
theorem rp4_15 {x : Int32} {S' : kS} (pc' : Nat) (hd : decode cc pc = .ok (.putfield 15, 3)) (hO : kOk G n o) (hc : kci o = 4) (hx : kpI S o 1 x = S') (hp : pc + 3 = pc') (kk : kV (X, RX4, nL, ret, G, R, cs, Q) cc (kgl G n S') lv st pc') : kV (X, RX4, nL, ret, G, R, cs, Q) cc (kgl G n S) lv (.int x :: .ref (kg_ad G (kbo o)) :: st) pc := kp_int pc' hd hO hc hx hp inlX4 tyX4_ok nmX4 rfl rfl (wi_r2 _ (List.mem_of_getElem? (i := 20) rfl)) rfl rfl rfl kk
theorem rg4_18 (pc' : Nat) (hd : decode cc pc = .ok (.getfield 18, 3)) (hO : kOk G n o) (hc : kci o = 4) (hp : pc + 3 = pc') (kk : kV (X, RX4, nL, ret, G, R, cs, Q) cc (kgl G n S) lv (.ref (kg_ad G (kbo o + 1)) :: st) pc') : kV (X, RX4, nL, ret, G, R, cs, Q) cc (kgl G n S) lv (.ref (kg_ad G (kbo o)) :: st) pc := kg_ref (k := 2) (j := 1) pc' hd hO hc hp inlX4 rfl rfl (wi_r2 _ (List.mem_of_getElem? (i := 21) rfl)) rfl kk
theorem rg4_22 (pc' : Nat) (hd : decode cc pc = .ok (.getfield 22, 3)) (hO : kOk G n o) (hc : kci o = 4) (hp : pc + 3 = pc') (kk : kV (X, RX4, nL, ret, G, R, cs, Q) cc (kgl G n S) lv (.ref (kg_ad G (kbo o + 2)) :: st) pc') : kV (X, RX4, nL, ret, G, R, cs, Q) cc (kgl G n S) lv (.ref (kg_ad G (kbo o)) :: st) pc := kg_ref (k := 3) (j := 2) pc' hd hO hc hp inlX4 rfl rfl (wi_r2 _ (List.mem_of_getElem? (i := 22) rfl)) rfl kk
theorem rg4_25 (pc' : Nat) (hd : decode cc pc = .ok (.getfield 25, 3)) (hO : kOk G n o) (hc : kci o = 4) (hp : pc + 3 = pc') (kk : kV (X, RX4, nL, ret, G, R, cs, Q) cc (kgl G n S) lv (.ref (kg_ad G (kbo o + 3)) :: st) pc') : kV (X, RX4, nL, ret, G, R, cs, Q) cc (kgl G n S) lv (.ref (kg_ad G (kbo o)) :: st) pc := kg_ref (k := 4) (j := 3) pc' hd hO hc hp inlX4 rfl rfl (wi_r2 _ (List.mem_of_getElem? (i := 23) rfl)) rfl kk
theorem rg4_28 (pc' : Nat) (hd : decode cc pc = .ok (.getfield 28, 3)) (hO : kOk G n o) (hc : kci o = 4) (hp : pc + 3 = pc') (kk : kV (X, RX4, nL, ret, G, R, cs, Q) cc (kgl G n S) lv (.ref (kg_ad G (kbo o + 4)) :: st) pc') : kV (X, RX4, nL, ret, G, R, cs, Q) cc (kgl G n S) lv (.ref (kg_ad G (kbo o)) :: st) pc := kg_ref (k := 5) (j := 4) pc' hd hO hc hp inlX4 rfl rfl (wi_r3 _ (List.mem_of_getElem? (i := 0) rfl)) rfl kk
theorem rg4_31 (pc' : Nat) (hd : decode cc pc = .ok (.getfield 31, 3)) (hO : kOk G n o) (hc : kci o = 4) (hp : pc + 3 = pc') (kk : kV (X, RX4, nL, ret, G, R, cs, Q) cc (kgl G n S) lv (.ref (kg_ad G (kbo o + 5)) :: st) pc') : kV (X, RX4, nL, ret, G, R, cs, Q) cc (kgl G n S) lv (.ref (kg_ad G (kbo o)) :: st) pc := kg_ref (k := 6) (j := 5) pc' hd hO hc hp inlX4 rfl rfl (wi_r3 _ (List.mem_of_getElem? (i := 1) rfl)) rfl kk
theorem rg4_34 (pc' : Nat) (hd : decode cc pc = .ok (.getfield 34, 3)) (hO : kOk G n o) (hc : kci o = 4) (hp : pc + 3 = pc') (kk : kV (X, RX4, nL, ret, G, R, cs, Q) cc (kgl G n S) lv (.ref (kg_ad G (kbo o + 6)) :: st) pc') : kV (X, RX4, nL, ret, G, R, cs, Q) cc (kgl G n S) lv (.ref (kg_ad G (kbo o)) :: st) pc := kg_ref (k := 7) (j := 6) pc' hd hO hc hp inlX4 rfl rfl (wi_r3 _ (List.mem_of_getElem? (i := 2) rfl)) rfl kk
theorem rg5_11 (pc' : Nat) (hd : decode cc pc = .ok (.getfield 11, 3)) (hO : kOk G n o) (hc : kci o = 5) (hp : pc + 3 = pc') (kk : kV (X, RX5, nL, ret, G, R, cs, Q) cc (kgl G n S) lv (.ref (kg_ad G (kbo o + 1)) :: st) pc') : kV (X, RX5, nL, ret, G, R, cs, Q) cc (kgl G n S) lv (.ref (kg_ad G (kbo o)) :: st) pc := kg_ref (k := 0) (j := 1) pc' hd hO hc hp inlX5 rfl rfl (wi_r1 _ (List.mem_of_getElem? (i := 13) rfl)) rfl kk
theorem rg5_15 {x : Int32} (pc' : Nat) (hd : decode cc pc = .ok (.getfield 15, 3)) (hO : kOk G n o) (hc : kci o = 5) (hx : kI S o 1 = x) (hp : pc + 3 = pc') (kk : kV (X, RX5, nL, ret, G, R, cs, Q) cc (kgl G n S) lv (.int x :: st) pc') : kV (X, RX5, nL, ret, G, R, cs, Q) cc (kgl G n S) lv (.ref (kg_ad G (kbo o)) :: st) pc := kg_int pc' hd hO hc hx hp inlX5 rfl rfl (wi_r1 _ (List.mem_of_getElem? (i := 14) rfl)) rfl kk
theorem rp5_15 {x : Int32} {S' : kS} (pc' : Nat) (hd : decode cc pc = .ok (.putfield 15, 3)) (hO : kOk G n o) (hc : kci o = 5) (hx : kpI S o 1 x = S') (hp : pc + 3 = pc') (kk : kV (X, RX5, nL, ret, G, R, cs, Q) cc (kgl G n S') lv st pc') : kV (X, RX5, nL, ret, G, R, cs, Q) cc (kgl G n S) lv (.int x :: .ref (kg_ad G (kbo o)) :: st) pc := kp_int pc' hd hO hc hx hp inlX5 tyX5_ok nmX5 rfl rfl (wi_r1 _ (List.mem_of_getElem? (i := 14) rfl)) rfl rfl rfl kk
theorem rg5_22 (pc' : Nat) (hd : decode cc pc = .ok (.getfield 22, 3)) (hO : kOk G n 0) (hp : pc + 3 = pc') (kk : kV (X, RX5, nL, ret, G, R, cs, Q) cc (kgl G n S) lv (.ref (kg_ad G (kbo 1)) :: st) pc') : kV (X, RX5, nL, ret, G, R, cs, Q) cc (kgl G n S) lv (.ref (kg_ad G (kbo 0)) :: st) pc := kg_ref (k := 2) (j := 2) pc' hd hO rfl hp inlX5 rfl rfl (wi_r1 _ (List.mem_of_getElem? (i := 18) rfl)) rfl kk
theorem rg5_26 (pc' : Nat) (hd : decode cc pc = .ok (.getfield 26, 3)) (hO : kOk G n o) (hc : kci o = 5) (hp : pc + 3 = pc') (kk : kV (X, RX5, nL, ret, G, R, cs, Q) cc (kgl G n S) lv (.ref (kg_ad G (kbo o + 9)) :: st) pc') : kV (X, RX5, nL, ret, G, R, cs, Q) cc (kgl G n S) lv (.ref (kg_ad G (kbo o)) :: st) pc := kg_ref (k := 3) (j := 9) pc' hd hO hc hp inlX5 rfl rfl (wi_r1 _ (List.mem_of_getElem? (i := 20) rfl)) rfl kk
theorem rg5_30 {x : Int32} (pc' : Nat) (hd : decode cc pc = .ok (.getfield 30, 3)) (hO : kOk G n o) (hc : kci o = 5) (hx : kI S o 4 = x) (hp : pc + 3 = pc') (kk : kV (X, RX5, nL, ret, G, R, cs, Q) cc (kgl G n S) lv (.int x :: st) pc') : kV (X, RX5, nL, ret, G, R, cs, Q) cc (kgl G n S) lv (.ref (kg_ad G (kbo o)) :: st) pc := kg_int pc' hd hO hc hx hp inlX5 rfl rfl (wi_r1 _ (List.mem_of_getElem? (i := 21) rfl)) rfl kk
theorem rp5_30 {x : Int32} {S' : kS} (pc' : Nat) (hd : decode cc pc = .ok (.putfield 30, 3)) (hO : kOk G n o) (hc : kci o = 5) (hx : kpI S o 4 x = S') (hp : pc + 3 = pc') (kk : kV (X, RX5, nL, ret, G, R, cs, Q) cc (kgl G n S') lv st pc') : kV (X, RX5, nL, ret, G, R, cs, Q) cc (kgl G n S) lv (.int x :: .ref (kg_ad G (kbo o)) :: st) pc := kp_int pc' hd hO hc hx hp inlX5 tyX5_ok nmX5 rfl rfl (wi_r1 _ (List.mem_of_getElem? (i := 21) rfl)) rfl rfl rfl kk
theorem rg5_33 (pc' : Nat) (hd : decode cc pc = .ok (.getfield 33, 3)) (hO : kOk G n o) (hc : kci o = 5) (hp : pc + 3 = pc') (kk : kV (X, RX5, nL, ret, G, R, cs, Q) cc (kgl G n S) lv (.ref (kg_ad G (kbo o + 10)) :: st) pc') : kV (X, RX5, nL, ret, G, R, cs, Q) cc (kgl G n S) lv (.ref (kg_ad G (kbo o)) :: st) pc := kg_ref (k := 5) (j := 10) pc' hd hO hc hp inlX5 rfl rfl (wi_r1 _ (List.mem_of_getElem? (i := 22) rfl)) rfl kk
theorem rg5_36 {x : Int32} (pc' : Nat) (hd : decode cc pc = .ok (.getfield 36, 3)) (hO : kOk G n o) (hc : kci o = 5) (hx : kI S o 6 = x) (hp : pc + 3 = pc') (kk : kV (X, RX5, nL, ret, G, R, cs, Q) cc (kgl G n S) lv (.int x :: st) pc') : kV (X, RX5, nL, ret, G, R, cs, Q) cc (kgl G n S) lv (.ref (kg_ad G (kbo o)) :: st) pc := kg_int pc' hd hO hc hx hp inlX5 rfl rfl (wi_r1 _ (List.mem_of_getElem? (i := 23) rfl)) rfl kk
theorem rp5_36 {x : Int32} {S' : kS} (pc' : Nat) (hd : decode cc pc = .ok (.putfield 36, 3)) (hO : kOk G n o) (hc : kci o = 5) (hx : kpI S o 6 x = S') (hp : pc + 3 = pc') (kk : kV (X, RX5, nL, ret, G, R, cs, Q) cc (kgl G n S') lv st pc') : kV (X, RX5, nL, ret, G, R, cs, Q) cc (kgl G n S) lv (.int x :: .ref (kg_ad G (kbo o)) :: st) pc := kp_int pc' hd hO hc hx hp inlX5 tyX5_ok nmX5 rfl rfl (wi_r1 _ (List.mem_of_getElem? (i := 23) rfl)) rfl rfl rfl kk
theorem rg5_42 (pc' : Nat) (hd : decode cc pc = .ok (.getfield 42, 3)) (hO : kOk G n 0) (hp : pc + 3 = pc') (kk : kV (X, RX5, nL, ret, G, R, cs, Q) cc (kgl G n S) lv (.ref (kg_ad G (kbo 2)) :: st) pc') : kV (X, RX5, nL, ret, G, R, cs, Q) cc (kgl G n S) lv (.ref (kg_ad G (kbo 0)) :: st) pc := kg_ref (k := 7) (j := 11) pc' hd hO rfl hp inlX5 rfl rfl (wi_r2 _ (List.mem_of_getElem? (i := 3) rfl)) rfl kk
theorem rg5_49 (pc' : Nat) (hd : decode cc pc = .ok (.getfield 49, 3)) (hO : kOk G n 0) (hp : pc + 3 = pc') (kk : kV (X, RX5, nL, ret, G, R, cs, Q) cc (kgl G n S) lv (.ref (kg_ad G (kbo 3)) :: st) pc') : kV (X, RX5, nL, ret, G, R, cs, Q) cc (kgl G n S) lv (.ref (kg_ad G (kbo 0)) :: st) pc := kg_ref (k := 8) (j := 18) pc' hd hO rfl hp inlX5 rfl rfl (wi_r2 _ (List.mem_of_getElem? (i := 7) rfl)) rfl kk
theorem rg5_56 (pc' : Nat) (hd : decode cc pc = .ok (.getfield 56, 3)) (hO : kOk G n 0) (hp : pc + 3 = pc') (kk : kV (X, RX5, nL, ret, G, R, cs, Q) cc (kgl G n S) lv (.ref (kg_ad G (kbo 4)) :: st) pc') : kV (X, RX5, nL, ret, G, R, cs, Q) cc (kgl G n S) lv (.ref (kg_ad G (kbo 0)) :: st) pc := kg_ref (k := 9) (j := 21) pc' hd hO rfl hp inlX5 rfl rfl (wi_r2 _ (List.mem_of_getElem? (i := 11) rfl)) rfl kk
theorem rg5_60 {x : Int32} (pc' : Nat) (hd : decode cc pc = .ok (.getfield 60, 3)) (hO : kOk G n o) (hc : kci o = 5) (hx : kI S o 10 = x) (hp : pc + 3 = pc') (kk : kV (X, RX5, nL, ret, G, R, cs, Q) cc (kgl G n S) lv (.int x :: st) pc') : kV (X, RX5, nL, ret, G, R, cs, Q) cc (kgl G n S) lv (.ref (kg_ad G (kbo o)) :: st) pc := kg_int pc' hd hO hc hx hp inlX5 rfl rfl (wi_r2 _ (List.mem_of_getElem? (i := 12) rfl)) rfl kk
theorem rp5_60 {x : Int32} {S' : kS} (pc' : Nat) (hd : decode cc pc = .ok (.putfield 60, 3)) (hO : kOk G n o) (hc : kci o = 5) (hx : kpI S o 10 x = S') (hp : pc + 3 = pc') (kk : kV (X, RX5, nL, ret, G, R, cs, Q) cc (kgl G n S') lv st pc') : kV (X, RX5, nL, ret, G, R, cs, Q) cc (kgl G n S) lv (.int x :: .ref (kg_ad G (kbo o)) :: st) pc := kp_int pc' hd hO hc hx hp inlX5 tyX5_ok nmX5 rfl rfl (wi_r2 _ (List.mem_of_getElem? (i := 12) rfl)) rfl rfl rfl kk
theorem rg5_63 {x : Int32} (pc' : Nat) (hd : decode cc pc = .ok (.getfield 63, 3)) (hO : kOk G n o) (hc : kci o = 5) (hx : kI S o 11 = x) (hp : pc + 3 = pc') (kk : kV (X, RX5, nL, ret, G, R, cs, Q) cc (kgl G n S) lv (.int x :: st) pc') : kV (X, RX5, nL, ret, G, R, cs, Q) cc (kgl G n S) lv (.ref (kg_ad G (kbo o)) :: st) pc := kg_int pc' hd hO hc hx hp inlX5 rfl rfl (wi_r2 _ (List.mem_of_getElem? (i := 13) rfl)) rfl kk
theorem rp5_63 {x : Int32} {S' : kS} (pc' : Nat) (hd : decode cc pc = .ok (.putfield 63, 3)) (hO : kOk G n o) (hc : kci o = 5) (hx : kpI S o 11 x = S') (hp : pc + 3 = pc') (kk : kV (X, RX5, nL, ret, G, R, cs, Q) cc (kgl G n S') lv st pc') : kV (X, RX5, nL, ret, G, R, cs, Q) cc (kgl G n S) lv (.int x :: .ref (kg_ad G (kbo o)) :: st) pc := kp_int pc' hd hO hc hx hp inlX5 tyX5_ok nmX5 rfl rfl (wi_r2 _ (List.mem_of_getElem? (i := 13) rfl)) rfl rfl rfl kk
theorem rg5_66 {x : Int32} (pc' : Nat) (hd : decode cc pc = .ok (.getfield 66, 3)) (hO : kOk G n o) (hc : kci o = 5) (hx : kI S o 12 = x) (hp : pc + 3 = pc') (kk : kV (X, RX5, nL, ret, G, R, cs, Q) cc (kgl G n S) lv (.int x :: st) pc') : kV (X, RX5, nL, ret, G, R, cs, Q) cc (kgl G n S) lv (.ref (kg_ad G (kbo o)) :: st) pc := kg_int pc' hd hO hc hx hp inlX5 rfl rfl (wi_r2 _ (List.mem_of_getElem? (i := 14) rfl)) rfl kk
theorem rp5_66 {x : Int32} {S' : kS} (pc' : Nat) (hd : decode cc pc = .ok (.putfield 66, 3)) (hO : kOk G n o) (hc : kci o = 5) (hx : kpI S o 12 x = S') (hp : pc + 3 = pc') (kk : kV (X, RX5, nL, ret, G, R, cs, Q) cc (kgl G n S') lv st pc') : kV (X, RX5, nL, ret, G, R, cs, Q) cc (kgl G n S) lv (.int x :: .ref (kg_ad G (kbo o)) :: st) pc := kp_int pc' hd hO hc hx hp inlX5 tyX5_ok nmX5 rfl rfl (wi_r2 _ (List.mem_of_getElem? (i := 14) rfl)) rfl rfl rfl kk
theorem rg5_69 {x : Int32} (pc' : Nat) (hd : decode cc pc = .ok (.getfield 69, 3)) (hO : kOk G n o) (hc : kci o = 5) (hx : kI S o 13 = x) (hp : pc + 3 = pc') (kk : kV (X, RX5, nL, ret, G, R, cs, Q) cc (kgl G n S) lv (.int x :: st) pc') : kV (X, RX5, nL, ret, G, R, cs, Q) cc (kgl G n S) lv (.ref (kg_ad G (kbo o)) :: st) pc := kg_int pc' hd hO hc hx hp inlX5 rfl rfl (wi_r2 _ (List.mem_of_getElem? (i := 15) rfl)) rfl kk
theorem rp5_69 {x : Int32} {S' : kS} (pc' : Nat) (hd : decode cc pc = .ok (.putfield 69, 3)) (hO : kOk G n o) (hc : kci o = 5) (hx : kpI S o 13 x = S') (hp : pc + 3 = pc') (kk : kV (X, RX5, nL, ret, G, R, cs, Q) cc (kgl G n S') lv st pc') : kV (X, RX5, nL, ret, G, R, cs, Q) cc (kgl G n S) lv (.int x :: .ref (kg_ad G (kbo o)) :: st) pc := kp_int pc' hd hO hc hx hp inlX5 tyX5_ok nmX5 rfl rfl (wi_r2 _ (List.mem_of_getElem? (i := 15) rfl)) rfl rfl rfl kk
theorem rg6_111 {x : Int32} (pc' : Nat) (hd : decode cc pc = .ok (.getfield 111, 3)) (hO : kOk G n o) (hc : kci o = 6) (hx : kI S o 1 = x) (hp : pc + 3 = pc') (kk : kV (X, RX6, nL, ret, G, R, cs, Q) cc (kgl G n S) lv (.int x :: st) pc') : kV (X, RX6, nL, ret, G, R, cs, Q) cc (kgl G n S) lv (.ref (kg_ad G (kbo o)) :: st) pc := kg_int pc' hd hO hc hx hp inlX6 rfl rfl (wi_r7 _ (List.mem_of_getElem? (i := 2) rfl)) rfl kk
theorem rp6_111 {x : Int32} {S' : kS} (pc' : Nat) (hd : decode cc pc = .ok (.putfield 111, 3)) (hO : kOk G n o) (hc : kci o = 6) (hx : kpI S o 1 x = S') (hp : pc + 3 = pc') (kk : kV (X, RX6, nL, ret, G, R, cs, Q) cc (kgl G n S') lv st pc') : kV (X, RX6, nL, ret, G, R, cs, Q) cc (kgl G n S) lv (.int x :: .ref (kg_ad G (kbo o)) :: st) pc := kp_int pc' hd hO hc hx hp inlX6 tyX6_ok nmX6 rfl rfl (wi_r7 _ (List.mem_of_getElem? (i := 2) rfl)) rfl rfl rfl kk
theorem rg6_7 (pc' : Nat) (hd : decode cc pc = .ok (.getfield 7, 3)) (hO : kOk G n o) (hc : kci o = 6) (hp : pc + 3 = pc') (kk : kV (X, RX6, nL, ret, G, R, cs, Q) cc (kgl G n S) lv (.ref (kg_ad G (kbo o + 1)) :: st) pc') : kV (X, RX6, nL, ret, G, R, cs, Q) cc (kgl G n S) lv (.ref (kg_ad G (kbo o)) :: st) pc := kg_ref (k := 2) (j := 1) pc' hd hO hc hp inlX6 rfl rfl (wi_r4 _ (List.mem_of_getElem? (i := 12) rfl)) rfl kk
theorem rg6_13 (pc' : Nat) (hd : decode cc pc = .ok (.getfield 13, 3)) (hO : kOk G n o) (hc : kci o = 6) (hp : pc + 3 = pc') (kk : kV (X, RX6, nL, ret, G, R, cs, Q) cc (kgl G n S) lv (.ref (kg_ad G (kbo o + 2)) :: st) pc') : kV (X, RX6, nL, ret, G, R, cs, Q) cc (kgl G n S) lv (.ref (kg_ad G (kbo o)) :: st) pc := kg_ref (k := 3) (j := 2) pc' hd hO hc hp inlX6 rfl rfl (wi_r4 _ (List.mem_of_getElem? (i := 13) rfl)) rfl kk
theorem rg6_16 (pc' : Nat) (hd : decode cc pc = .ok (.getfield 16, 3)) (hO : kOk G n o) (hc : kci o = 6) (hp : pc + 3 = pc') (kk : kV (X, RX6, nL, ret, G, R, cs, Q) cc (kgl G n S) lv (.ref (kg_ad G (kbo o + 3)) :: st) pc') : kV (X, RX6, nL, ret, G, R, cs, Q) cc (kgl G n S) lv (.ref (kg_ad G (kbo o)) :: st) pc := kg_ref (k := 4) (j := 3) pc' hd hO hc hp inlX6 rfl rfl (wi_r4 _ (List.mem_of_getElem? (i := 14) rfl)) rfl kk
theorem rg6_19 (pc' : Nat) (hd : decode cc pc = .ok (.getfield 19, 3)) (hO : kOk G n o) (hc : kci o = 6) (hp : pc + 3 = pc') (kk : kV (X, RX6, nL, ret, G, R, cs, Q) cc (kgl G n S) lv (.ref (kg_ad G (kbo o + 4)) :: st) pc') : kV (X, RX6, nL, ret, G, R, cs, Q) cc (kgl G n S) lv (.ref (kg_ad G (kbo o)) :: st) pc := kg_ref (k := 5) (j := 4) pc' hd hO hc hp inlX6 rfl rfl (wi_r4 _ (List.mem_of_getElem? (i := 15) rfl)) rfl kk
theorem rg6_22 (pc' : Nat) (hd : decode cc pc = .ok (.getfield 22, 3)) (hO : kOk G n o) (hc : kci o = 6) (hp : pc + 3 = pc') (kk : kV (X, RX6, nL, ret, G, R, cs, Q) cc (kgl G n S) lv (.ref (kg_ad G (kbo o + 5)) :: st) pc') : kV (X, RX6, nL, ret, G, R, cs, Q) cc (kgl G n S) lv (.ref (kg_ad G (kbo o)) :: st) pc := kg_ref (k := 6) (j := 5) pc' hd hO hc hp inlX6 rfl rfl (wi_r4 _ (List.mem_of_getElem? (i := 16) rfl)) rfl kk
theorem rg6_25 (pc' : Nat) (hd : decode cc pc = .ok (.getfield 25, 3)) (hO : kOk G n o) (hc : kci o = 6) (hp : pc + 3 = pc') (kk : kV (X, RX6, nL, ret, G, R, cs, Q) cc (kgl G n S) lv (.ref (kg_ad G (kbo o + 6)) :: st) pc') : kV (X, RX6, nL, ret, G, R, cs, Q) cc (kgl G n S) lv (.ref (kg_ad G (kbo o)) :: st) pc := kg_ref (k := 7) (j := 6) pc' hd hO hc hp inlX6 rfl rfl (wi_r4 _ (List.mem_of_getElem? (i := 17) rfl)) rfl kk
theorem rg6_28 (pc' : Nat) (hd : decode cc pc = .ok (.getfield 28, 3)) (hO : kOk G n o) (hc : kci o = 6) (hp : pc + 3 = pc') (kk : kV (X, RX6, nL, ret, G, R, cs, Q) cc (kgl G n S) lv (.ref (kg_ad G (kbo o + 7)) :: st) pc') : kV (X, RX6, nL, ret, G, R, cs, Q) cc (kgl G n S) lv (.ref (kg_ad G (kbo o)) :: st) pc := kg_ref (k := 8) (j := 7) pc' hd hO hc hp inlX6 rfl rfl (wi_r4 _ (List.mem_of_getElem? (i := 18) rfl)) rfl kk
theorem rg6_32 (pc' : Nat) (hd : decode cc pc = .ok (.getfield 32, 3)) (hO : kOk G n o) (hc : kci o = 6) (hp : pc + 3 = pc') (kk : kV (X, RX6, nL, ret, G, R, cs, Q) cc (kgl G n S) lv (.ref (kg_ad G (kbo o + 8)) :: st) pc') : kV (X, RX6, nL, ret, G, R, cs, Q) cc (kgl G n S) lv (.ref (kg_ad G (kbo o)) :: st) pc := kg_ref (k := 9) (j := 8) pc' hd hO hc hp inlX6 rfl rfl (wi_r4 _ (List.mem_of_getElem? (i := 19) rfl)) rfl kk
theorem rg6_35 (pc' : Nat) (hd : decode cc pc = .ok (.getfield 35, 3)) (hO : kOk G n o) (hc : kci o = 6) (hp : pc + 3 = pc') (kk : kV (X, RX6, nL, ret, G, R, cs, Q) cc (kgl G n S) lv (.ref (kg_ad G (kbo o + 9)) :: st) pc') : kV (X, RX6, nL, ret, G, R, cs, Q) cc (kgl G n S) lv (.ref (kg_ad G (kbo o)) :: st) pc := kg_ref (k := 10) (j := 9) pc' hd hO hc hp inlX6 rfl rfl (wi_r4 _ (List.mem_of_getElem? (i := 20) rfl)) rfl kk
theorem rg6_38 (pc' : Nat) (hd : decode cc pc = .ok (.getfield 38, 3)) (hO : kOk G n o) (hc : kci o = 6) (hp : pc + 3 = pc') (kk : kV (X, RX6, nL, ret, G, R, cs, Q) cc (kgl G n S) lv (.ref (kg_ad G (kbo o + 10)) :: st) pc') : kV (X, RX6, nL, ret, G, R, cs, Q) cc (kgl G n S) lv (.ref (kg_ad G (kbo o)) :: st) pc := kg_ref (k := 11) (j := 10) pc' hd hO hc hp inlX6 rfl rfl (wi_r4 _ (List.mem_of_getElem? (i := 21) rfl)) rfl kk
theorem rg6_41 (pc' : Nat) (hd : decode cc pc = .ok (.getfield 41, 3)) (hO : kOk G n o) (hc : kci o = 6) (hp : pc + 3 = pc') (kk : kV (X, RX6, nL, ret, G, R, cs, Q) cc (kgl G n S) lv (.ref (kg_ad G (kbo o + 11)) :: st) pc') : kV (X, RX6, nL, ret, G, R, cs, Q) cc (kgl G n S) lv (.ref (kg_ad G (kbo o)) :: st) pc := kg_ref (k := 12) (j := 11) pc' hd hO hc hp inlX6 rfl rfl (wi_r4 _ (List.mem_of_getElem? (i := 22) rfl)) rfl kk
theorem rg6_44 (pc' : Nat) (hd : decode cc pc = .ok (.getfield 44, 3)) (hO : kOk G n o) (hc : kci o = 6) (hp : pc + 3 = pc') (kk : kV (X, RX6, nL, ret, G, R, cs, Q) cc (kgl G n S) lv (.ref (kg_ad G (kbo o + 12)) :: st) pc') : kV (X, RX6, nL, ret, G, R, cs, Q) cc (kgl G n S) lv (.ref (kg_ad G (kbo o)) :: st) pc := kg_ref (k := 13) (j := 12) pc' hd hO hc hp inlX6 rfl rfl (wi_r4 _ (List.mem_of_getElem? (i := 23) rfl)) rfl kk
theorem rg6_47 (pc' : Nat) (hd : decode cc pc = .ok (.getfield 47, 3)) (hO : kOk G n o) (hc : kci o = 6) (hp : pc + 3 = pc') (kk : kV (X, RX6, nL, ret, G, R, cs, Q) cc (kgl G n S) lv (.ref (kg_ad G (kbo o + 13)) :: st) pc') : kV (X, RX6, nL, ret, G, R, cs, Q) cc (kgl G n S) lv (.ref (kg_ad G (kbo o)) :: st) pc := kg_ref (k := 14) (j := 13) pc' hd hO hc hp inlX6 rfl rfl (wi_r5 _ (List.mem_of_getElem? (i := 0) rfl)) rfl kk
theorem rg6_50 (pc' : Nat) (hd : decode cc pc = .ok (.getfield 50, 3)) (hO : kOk G n o) (hc : kci o = 6) (hp : pc + 3 = pc') (kk : kV (X, RX6, nL, ret, G, R, cs, Q) cc (kgl G n S) lv (.ref (kg_ad G (kbo o + 14)) :: st) pc') : kV (X, RX6, nL, ret, G, R, cs, Q) cc (kgl G n S) lv (.ref (kg_ad G (kbo o)) :: st) pc := kg_ref (k := 15) (j := 14) pc' hd hO hc hp inlX6 rfl rfl (wi_r5 _ (List.mem_of_getElem? (i := 1) rfl)) rfl kk
theorem rg6_146 {x : Int32} (pc' : Nat) (hd : decode cc pc = .ok (.getfield 146, 3)) (hO : kOk G n o) (hc : kci o = 6) (hx : kI S o 16 = x) (hp : pc + 3 = pc') (kk : kV (X, RX6, nL, ret, G, R, cs, Q) cc (kgl G n S) lv (.int x :: st) pc') : kV (X, RX6, nL, ret, G, R, cs, Q) cc (kgl G n S) lv (.ref (kg_ad G (kbo o)) :: st) pc := kg_int pc' hd hO hc hx hp inlX6 rfl rfl (wi_r13 _ (List.mem_of_getElem? (i := 12) rfl)) rfl kk
theorem rp6_146 {x : Int32} {S' : kS} (pc' : Nat) (hd : decode cc pc = .ok (.putfield 146, 3)) (hO : kOk G n o) (hc : kci o = 6) (hx : kpI S o 16 x = S') (hp : pc + 3 = pc') (kk : kV (X, RX6, nL, ret, G, R, cs, Q) cc (kgl G n S') lv st pc') : kV (X, RX6, nL, ret, G, R, cs, Q) cc (kgl G n S) lv (.int x :: .ref (kg_ad G (kbo o)) :: st) pc := kp_int pc' hd hO hc hx hp inlX6 tyX6_ok nmX6 rfl rfl (wi_r13 _ (List.mem_of_getElem? (i := 12) rfl)) rfl rfl rfl kk
theorem rg6_53 (pc' : Nat) (hd : decode cc pc = .ok (.getfield 53, 3)) (hO : kOk G n o) (hc : kci o = 6) (hp : pc + 3 = pc') (kk : kV (X, RX6, nL, ret, G, R, cs, Q) cc (kgl G n S) lv (.ref (kg_ad G (kbo o + 15)) :: st) pc') : kV (X, RX6, nL, ret, G, R, cs, Q) cc (kgl G n S) lv (.ref (kg_ad G (kbo o)) :: st) pc := kg_ref (k := 17) (j := 15) pc' hd hO hc hp inlX6 rfl rfl (wi_r5 _ (List.mem_of_getElem? (i := 2) rfl)) rfl kk
theorem rg6_56 (pc' : Nat) (hd : decode cc pc = .ok (.getfield 56, 3)) (hO : kOk G n o) (hc : kci o = 6) (hp : pc + 3 = pc') (kk : kV (X, RX6, nL, ret, G, R, cs, Q) cc (kgl G n S) lv (.ref (kg_ad G (kbo o + 16)) :: st) pc') : kV (X, RX6, nL, ret, G, R, cs, Q) cc (kgl G n S) lv (.ref (kg_ad G (kbo o)) :: st) pc := kg_ref (k := 18) (j := 16) pc' hd hO hc hp inlX6 rfl rfl (wi_r5 _ (List.mem_of_getElem? (i := 3) rfl)) rfl kk
theorem rg6_59 (pc' : Nat) (hd : decode cc pc = .ok (.getfield 59, 3)) (hO : kOk G n o) (hc : kci o = 6) (hp : pc + 3 = pc') (kk : kV (X, RX6, nL, ret, G, R, cs, Q) cc (kgl G n S) lv (.ref (kg_ad G (kbo o + 17)) :: st) pc') : kV (X, RX6, nL, ret, G, R, cs, Q) cc (kgl G n S) lv (.ref (kg_ad G (kbo o)) :: st) pc := kg_ref (k := 19) (j := 17) pc' hd hO hc hp inlX6 rfl rfl (wi_r5 _ (List.mem_of_getElem? (i := 4) rfl)) rfl kk
theorem rg6_62 (pc' : Nat) (hd : decode cc pc = .ok (.getfield 62, 3)) (hO : kOk G n o) (hc : kci o = 6) (hp : pc + 3 = pc') (kk : kV (X, RX6, nL, ret, G, R, cs, Q) cc (kgl G n S) lv (.ref (kg_ad G (kbo o + 18)) :: st) pc') : kV (X, RX6, nL, ret, G, R, cs, Q) cc (kgl G n S) lv (.ref (kg_ad G (kbo o)) :: st) pc := kg_ref (k := 20) (j := 18) pc' hd hO hc hp inlX6 rfl rfl (wi_r5 _ (List.mem_of_getElem? (i := 5) rfl)) rfl kk
theorem rg6_65 (pc' : Nat) (hd : decode cc pc = .ok (.getfield 65, 3)) (hO : kOk G n o) (hc : kci o = 6) (hp : pc + 3 = pc') (kk : kV (X, RX6, nL, ret, G, R, cs, Q) cc (kgl G n S) lv (.ref (kg_ad G (kbo o + 19)) :: st) pc') : kV (X, RX6, nL, ret, G, R, cs, Q) cc (kgl G n S) lv (.ref (kg_ad G (kbo o)) :: st) pc := kg_ref (k := 21) (j := 19) pc' hd hO hc hp inlX6 rfl rfl (wi_r5 _ (List.mem_of_getElem? (i := 6) rfl)) rfl kk
theorem rg6_68 (pc' : Nat) (hd : decode cc pc = .ok (.getfield 68, 3)) (hO : kOk G n o) (hc : kci o = 6) (hp : pc + 3 = pc') (kk : kV (X, RX6, nL, ret, G, R, cs, Q) cc (kgl G n S) lv (.ref (kg_ad G (kbo o + 20)) :: st) pc') : kV (X, RX6, nL, ret, G, R, cs, Q) cc (kgl G n S) lv (.ref (kg_ad G (kbo o)) :: st) pc := kg_ref (k := 22) (j := 20) pc' hd hO hc hp inlX6 rfl rfl (wi_r5 _ (List.mem_of_getElem? (i := 7) rfl)) rfl kk
theorem rg6_143 {x : Int32} (pc' : Nat) (hd : decode cc pc = .ok (.getfield 143, 3)) (hO : kOk G n o) (hc : kci o = 6) (hx : kI S o 23 = x) (hp : pc + 3 = pc') (kk : kV (X, RX6, nL, ret, G, R, cs, Q) cc (kgl G n S) lv (.int x :: st) pc') : kV (X, RX6, nL, ret, G, R, cs, Q) cc (kgl G n S) lv (.ref (kg_ad G (kbo o)) :: st) pc := kg_int pc' hd hO hc hx hp inlX6 rfl rfl (wi_r12 _ (List.mem_of_getElem? (i := 9) rfl)) rfl kk
theorem rp6_143 {x : Int32} {S' : kS} (pc' : Nat) (hd : decode cc pc = .ok (.putfield 143, 3)) (hO : kOk G n o) (hc : kci o = 6) (hx : kpI S o 23 x = S') (hp : pc + 3 = pc') (kk : kV (X, RX6, nL, ret, G, R, cs, Q) cc (kgl G n S') lv st pc') : kV (X, RX6, nL, ret, G, R, cs, Q) cc (kgl G n S) lv (.int x :: .ref (kg_ad G (kbo o)) :: st) pc := kp_int pc' hd hO hc hx hp inlX6 tyX6_ok nmX6 rfl rfl (wi_r12 _ (List.mem_of_getElem? (i := 9) rfl)) rfl rfl rfl kk
theorem rg6_71 (pc' : Nat) (hd : decode cc pc = .ok (.getfield 71, 3)) (hO : kOk G n o) (hc : kci o = 6) (hp : pc + 3 = pc') (kk : kV (X, RX6, nL, ret, G, R, cs, Q) cc (kgl G n S) lv (.ref (kg_ad G (kbo o + 21)) :: st) pc') : kV (X, RX6, nL, ret, G, R, cs, Q) cc (kgl G n S) lv (.ref (kg_ad G (kbo o)) :: st) pc := kg_ref (k := 24) (j := 21) pc' hd hO hc hp inlX6 rfl rfl (wi_r5 _ (List.mem_of_getElem? (i := 8) rfl)) rfl kk
theorem rg6_126 {x : Int32} (pc' : Nat) (hd : decode cc pc = .ok (.getfield 126, 3)) (hO : kOk G n o) (hc : kci o = 6) (hx : kI S o 25 = x) (hp : pc + 3 = pc') (kk : kV (X, RX6, nL, ret, G, R, cs, Q) cc (kgl G n S) lv (.int x :: st) pc') : kV (X, RX6, nL, ret, G, R, cs, Q) cc (kgl G n S) lv (.ref (kg_ad G (kbo o)) :: st) pc := kg_int pc' hd hO hc hx hp inlX6 rfl rfl (wi_r8 _ (List.mem_of_getElem? (i := 13) rfl)) rfl kk
theorem rp6_126 {x : Int32} {S' : kS} (pc' : Nat) (hd : decode cc pc = .ok (.putfield 126, 3)) (hO : kOk G n o) (hc : kci o = 6) (hx : kpI S o 25 x = S') (hp : pc + 3 = pc') (kk : kV (X, RX6, nL, ret, G, R, cs, Q) cc (kgl G n S') lv st pc') : kV (X, RX6, nL, ret, G, R, cs, Q) cc (kgl G n S) lv (.int x :: .ref (kg_ad G (kbo o)) :: st) pc := kp_int pc' hd hO hc hx hp inlX6 tyX6_ok nmX6 rfl rfl (wi_r8 _ (List.mem_of_getElem? (i := 13) rfl)) rfl rfl rfl kk
theorem rg6_156 {x : Int32} (pc' : Nat) (hd : decode cc pc = .ok (.getfield 156, 3)) (hO : kOk G n o) (hc : kci o = 6) (hx : kI S o 26 = x) (hp : pc + 3 = pc') (kk : kV (X, RX6, nL, ret, G, R, cs, Q) cc (kgl G n S) lv (.int x :: st) pc') : kV (X, RX6, nL, ret, G, R, cs, Q) cc (kgl G n S) lv (.ref (kg_ad G (kbo o)) :: st) pc := kg_int pc' hd hO hc hx hp inlX6 rfl rfl (wi_r14 _ (List.mem_of_getElem? (i := 13) rfl)) rfl kk
theorem rp6_156 {x : Int32} {S' : kS} (pc' : Nat) (hd : decode cc pc = .ok (.putfield 156, 3)) (hO : kOk G n o) (hc : kci o = 6) (hx : kpI S o 26 x = S') (hp : pc + 3 = pc') (kk : kV (X, RX6, nL, ret, G, R, cs, Q) cc (kgl G n S') lv st pc') : kV (X, RX6, nL, ret, G, R, cs, Q) cc (kgl G n S) lv (.int x :: .ref (kg_ad G (kbo o)) :: st) pc := kp_int pc' hd hO hc hx hp inlX6 tyX6_ok nmX6 rfl rfl (wi_r14 _ (List.mem_of_getElem? (i := 13) rfl)) rfl rfl rfl kk
theorem rg6_74 (pc' : Nat) (hd : decode cc pc = .ok (.getfield 74, 3)) (hO : kOk G n o) (hc : kci o = 6) (hp : pc + 3 = pc') (kk : kV (X, RX6, nL, ret, G, R, cs, Q) cc (kgl G n S) lv (.ref (kg_ad G (kbo o + 22)) :: st) pc') : kV (X, RX6, nL, ret, G, R, cs, Q) cc (kgl G n S) lv (.ref (kg_ad G (kbo o)) :: st) pc := kg_ref (k := 27) (j := 22) pc' hd hO hc hp inlX6 rfl rfl (wi_r5 _ (List.mem_of_getElem? (i := 9) rfl)) rfl kk
theorem rg6_77 (pc' : Nat) (hd : decode cc pc = .ok (.getfield 77, 3)) (hO : kOk G n o) (hc : kci o = 6) (hp : pc + 3 = pc') (kk : kV (X, RX6, nL, ret, G, R, cs, Q) cc (kgl G n S) lv (.ref (kg_ad G (kbo o + 23)) :: st) pc') : kV (X, RX6, nL, ret, G, R, cs, Q) cc (kgl G n S) lv (.ref (kg_ad G (kbo o)) :: st) pc := kg_ref (k := 28) (j := 23) pc' hd hO hc hp inlX6 rfl rfl (wi_r5 _ (List.mem_of_getElem? (i := 10) rfl)) rfl kk
theorem rg6_80 {x : Int32} (pc' : Nat) (hd : decode cc pc = .ok (.getfield 80, 3)) (hO : kOk G n o) (hc : kci o = 6) (hx : kI S o 29 = x) (hp : pc + 3 = pc') (kk : kV (X, RX6, nL, ret, G, R, cs, Q) cc (kgl G n S) lv (.int x :: st) pc') : kV (X, RX6, nL, ret, G, R, cs, Q) cc (kgl G n S) lv (.ref (kg_ad G (kbo o)) :: st) pc := kg_int pc' hd hO hc hx hp inlX6 rfl rfl (wi_r5 _ (List.mem_of_getElem? (i := 11) rfl)) rfl kk
theorem rp6_80 {x : Int32} {S' : kS} (pc' : Nat) (hd : decode cc pc = .ok (.putfield 80, 3)) (hO : kOk G n o) (hc : kci o = 6) (hx : kpI S o 29 x = S') (hp : pc + 3 = pc') (kk : kV (X, RX6, nL, ret, G, R, cs, Q) cc (kgl G n S') lv st pc') : kV (X, RX6, nL, ret, G, R, cs, Q) cc (kgl G n S) lv (.int x :: .ref (kg_ad G (kbo o)) :: st) pc := kp_int pc' hd hO hc hx hp inlX6 tyX6_ok nmX6 rfl rfl (wi_r5 _ (List.mem_of_getElem? (i := 11) rfl)) rfl rfl rfl kk
theorem rg6_193 {x : Int32} (pc' : Nat) (hd : decode cc pc = .ok (.getfield 193, 3)) (hO : kOk G n o) (hc : kci o = 6) (hx : kI S o 30 = x) (hp : pc + 3 = pc') (kk : kV (X, RX6, nL, ret, G, R, cs, Q) cc (kgl G n S) lv (.int x :: st) pc') : kV (X, RX6, nL, ret, G, R, cs, Q) cc (kgl G n S) lv (.ref (kg_ad G (kbo o)) :: st) pc := kg_int pc' hd hO hc hx hp inlX6 rfl rfl (wi_r25 _ (List.mem_of_getElem? (i := 6) rfl)) rfl kk
theorem rp6_193 {x : Int32} {S' : kS} (pc' : Nat) (hd : decode cc pc = .ok (.putfield 193, 3)) (hO : kOk G n o) (hc : kci o = 6) (hx : kpI S o 30 x = S') (hp : pc + 3 = pc') (kk : kV (X, RX6, nL, ret, G, R, cs, Q) cc (kgl G n S') lv st pc') : kV (X, RX6, nL, ret, G, R, cs, Q) cc (kgl G n S) lv (.int x :: .ref (kg_ad G (kbo o)) :: st) pc := kp_int pc' hd hO hc hx hp inlX6 tyX6_ok nmX6 rfl rfl (wi_r25 _ (List.mem_of_getElem? (i := 6) rfl)) rfl rfl rfl kk
theorem rg6_215 {x : Int32} (pc' : Nat) (hd : decode cc pc = .ok (.getfield 215, 3)) (hO : kOk G n o) (hc : kci o = 6) (hx : kI S o 31 = x) (hp : pc + 3 = pc') (kk : kV (X, RX6, nL, ret, G, R, cs, Q) cc (kgl G n S) lv (.int x :: st) pc') : kV (X, RX6, nL, ret, G, R, cs, Q) cc (kgl G n S) lv (.ref (kg_ad G (kbo o)) :: st) pc := kg_int pc' hd hO hc hx hp inlX6 rfl rfl (wi_r22 _ (List.mem_of_getElem? (i := 22) rfl)) rfl kk
theorem rp6_215 {x : Int32} {S' : kS} (pc' : Nat) (hd : decode cc pc = .ok (.putfield 215, 3)) (hO : kOk G n o) (hc : kci o = 6) (hx : kpI S o 31 x = S') (hp : pc + 3 = pc') (kk : kV (X, RX6, nL, ret, G, R, cs, Q) cc (kgl G n S') lv st pc') : kV (X, RX6, nL, ret, G, R, cs, Q) cc (kgl G n S) lv (.int x :: .ref (kg_ad G (kbo o)) :: st) pc := kp_int pc' hd hO hc hx hp inlX6 tyX6_ok nmX6 rfl rfl (wi_r22 _ (List.mem_of_getElem? (i := 22) rfl)) rfl rfl rfl kk
theorem rg6_84 (pc' : Nat) (hd : decode cc pc = .ok (.getfield 84, 3)) (hO : kOk G n o) (hc : kci o = 6) (hp : pc + 3 = pc') (kk : kV (X, RX6, nL, ret, G, R, cs, Q) cc (kgl G n S) lv (.ref (kg_ad G (kbo o + 24)) :: st) pc') : kV (X, RX6, nL, ret, G, R, cs, Q) cc (kgl G n S) lv (.ref (kg_ad G (kbo o)) :: st) pc := kg_ref (k := 32) (j := 24) pc' hd hO hc hp inlX6 rfl rfl (wi_r5 _ (List.mem_of_getElem? (i := 12) rfl)) rfl kk
theorem rg6_159 {x : Int32} (pc' : Nat) (hd : decode cc pc = .ok (.getfield 159, 3)) (hO : kOk G n o) (hc : kci o = 6) (hx : kI S o 33 = x) (hp : pc + 3 = pc') (kk : kV (X, RX6, nL, ret, G, R, cs, Q) cc (kgl G n S) lv (.int x :: st) pc') : kV (X, RX6, nL, ret, G, R, cs, Q) cc (kgl G n S) lv (.ref (kg_ad G (kbo o)) :: st) pc := kg_int pc' hd hO hc hx hp inlX6 rfl rfl (wi_r15 _ (List.mem_of_getElem? (i := 6) rfl)) rfl kk
theorem rp6_159 {x : Int32} {S' : kS} (pc' : Nat) (hd : decode cc pc = .ok (.putfield 159, 3)) (hO : kOk G n o) (hc : kci o = 6) (hx : kpI S o 33 x = S') (hp : pc + 3 = pc') (kk : kV (X, RX6, nL, ret, G, R, cs, Q) cc (kgl G n S') lv st pc') : kV (X, RX6, nL, ret, G, R, cs, Q) cc (kgl G n S) lv (.int x :: .ref (kg_ad G (kbo o)) :: st) pc := kp_int pc' hd hO hc hx hp inlX6 tyX6_ok nmX6 rfl rfl (wi_r15 _ (List.mem_of_getElem? (i := 6) rfl)) rfl rfl rfl kk
theorem rg6_87 (pc' : Nat) (hd : decode cc pc = .ok (.getfield 87, 3)) (hO : kOk G n o) (hc : kci o = 6) (hp : pc + 3 = pc') (kk : kV (X, RX6, nL, ret, G, R, cs, Q) cc (kgl G n S) lv (.ref (kg_ad G (kbo o + 25)) :: st) pc') : kV (X, RX6, nL, ret, G, R, cs, Q) cc (kgl G n S) lv (.ref (kg_ad G (kbo o)) :: st) pc := kg_ref (k := 34) (j := 25) pc' hd hO hc hp inlX6 rfl rfl (wi_r5 _ (List.mem_of_getElem? (i := 13) rfl)) rfl kk
theorem rg6_90 (pc' : Nat) (hd : decode cc pc = .ok (.getfield 90, 3)) (hO : kOk G n o) (hc : kci o = 6) (hp : pc + 3 = pc') (kk : kV (X, RX6, nL, ret, G, R, cs, Q) cc (kgl G n S) lv (.ref (kg_ad G (kbo o + 26)) :: st) pc') : kV (X, RX6, nL, ret, G, R, cs, Q) cc (kgl G n S) lv (.ref (kg_ad G (kbo o)) :: st) pc := kg_ref (k := 35) (j := 26) pc' hd hO hc hp inlX6 rfl rfl (wi_r5 _ (List.mem_of_getElem? (i := 14) rfl)) rfl kk
theorem rg6_93 (pc' : Nat) (hd : decode cc pc = .ok (.getfield 93, 3)) (hO : kOk G n o) (hc : kci o = 6) (hp : pc + 3 = pc') (kk : kV (X, RX6, nL, ret, G, R, cs, Q) cc (kgl G n S) lv (.ref (kg_ad G (kbo o + 27)) :: st) pc') : kV (X, RX6, nL, ret, G, R, cs, Q) cc (kgl G n S) lv (.ref (kg_ad G (kbo o)) :: st) pc := kg_ref (k := 36) (j := 27) pc' hd hO hc hp inlX6 rfl rfl (wi_r5 _ (List.mem_of_getElem? (i := 15) rfl)) rfl kk
theorem rg6_96 (pc' : Nat) (hd : decode cc pc = .ok (.getfield 96, 3)) (hO : kOk G n o) (hc : kci o = 6) (hp : pc + 3 = pc') (kk : kV (X, RX6, nL, ret, G, R, cs, Q) cc (kgl G n S) lv (.ref (kg_ad G (kbo o + 28)) :: st) pc') : kV (X, RX6, nL, ret, G, R, cs, Q) cc (kgl G n S) lv (.ref (kg_ad G (kbo o)) :: st) pc := kg_ref (k := 37) (j := 28) pc' hd hO hc hp inlX6 rfl rfl (wi_r5 _ (List.mem_of_getElem? (i := 16) rfl)) rfl kk
theorem rg6_99 (pc' : Nat) (hd : decode cc pc = .ok (.getfield 99, 3)) (hO : kOk G n o) (hc : kci o = 6) (hp : pc + 3 = pc') (kk : kV (X, RX6, nL, ret, G, R, cs, Q) cc (kgl G n S) lv (.ref (kg_ad G (kbo o + 29)) :: st) pc') : kV (X, RX6, nL, ret, G, R, cs, Q) cc (kgl G n S) lv (.ref (kg_ad G (kbo o)) :: st) pc := kg_ref (k := 38) (j := 29) pc' hd hO hc hp inlX6 rfl rfl (wi_r5 _ (List.mem_of_getElem? (i := 17) rfl)) rfl kk
theorem rg6_200 {x : Int32} (pc' : Nat) (hd : decode cc pc = .ok (.getfield 200, 3)) (hO : kOk G n o) (hc : kci o = 6) (hx : kI S o 39 = x) (hp : pc + 3 = pc') (kk : kV (X, RX6, nL, ret, G, R, cs, Q) cc (kgl G n S) lv (.int x :: st) pc') : kV (X, RX6, nL, ret, G, R, cs, Q) cc (kgl G n S) lv (.ref (kg_ad G (kbo o)) :: st) pc := kg_int pc' hd hO hc hx hp inlX6 rfl rfl (wi_r22 _ (List.mem_of_getElem? (i := 18) rfl)) rfl kk
theorem rp6_200 {x : Int32} {S' : kS} (pc' : Nat) (hd : decode cc pc = .ok (.putfield 200, 3)) (hO : kOk G n o) (hc : kci o = 6) (hx : kpI S o 39 x = S') (hp : pc + 3 = pc') (kk : kV (X, RX6, nL, ret, G, R, cs, Q) cc (kgl G n S') lv st pc') : kV (X, RX6, nL, ret, G, R, cs, Q) cc (kgl G n S) lv (.int x :: .ref (kg_ad G (kbo o)) :: st) pc := kp_int pc' hd hO hc hx hp inlX6 tyX6_ok nmX6 rfl rfl (wi_r22 _ (List.mem_of_getElem? (i := 18) rfl)) rfl rfl rfl kk
theorem rg6_203 {x : Int32} (pc' : Nat) (hd : decode cc pc = .ok (.getfield 203, 3)) (hO : kOk G n o) (hc : kci o = 6) (hx : kI S o 40 = x) (hp : pc + 3 = pc') (kk : kV (X, RX6, nL, ret, G, R, cs, Q) cc (kgl G n S) lv (.int x :: st) pc') : kV (X, RX6, nL, ret, G, R, cs, Q) cc (kgl G n S) lv (.ref (kg_ad G (kbo o)) :: st) pc := kg_int pc' hd hO hc hx hp inlX6 rfl rfl (wi_r22 _ (List.mem_of_getElem? (i := 19) rfl)) rfl kk
theorem rp6_203 {x : Int32} {S' : kS} (pc' : Nat) (hd : decode cc pc = .ok (.putfield 203, 3)) (hO : kOk G n o) (hc : kci o = 6) (hx : kpI S o 40 x = S') (hp : pc + 3 = pc') (kk : kV (X, RX6, nL, ret, G, R, cs, Q) cc (kgl G n S') lv st pc') : kV (X, RX6, nL, ret, G, R, cs, Q) cc (kgl G n S) lv (.int x :: .ref (kg_ad G (kbo o)) :: st) pc := kp_int pc' hd hO hc hx hp inlX6 tyX6_ok nmX6 rfl rfl (wi_r22 _ (List.mem_of_getElem? (i := 19) rfl)) rfl rfl rfl kk
theorem rg6_206 {x : Int32} (pc' : Nat) (hd : decode cc pc = .ok (.getfield 206, 3)) (hO : kOk G n o) (hc : kci o = 6) (hx : kI S o 41 = x) (hp : pc + 3 = pc') (kk : kV (X, RX6, nL, ret, G, R, cs, Q) cc (kgl G n S) lv (.int x :: st) pc') : kV (X, RX6, nL, ret, G, R, cs, Q) cc (kgl G n S) lv (.ref (kg_ad G (kbo o)) :: st) pc := kg_int pc' hd hO hc hx hp inlX6 rfl rfl (wi_r22 _ (List.mem_of_getElem? (i := 20) rfl)) rfl kk
theorem rp6_206 {x : Int32} {S' : kS} (pc' : Nat) (hd : decode cc pc = .ok (.putfield 206, 3)) (hO : kOk G n o) (hc : kci o = 6) (hx : kpI S o 41 x = S') (hp : pc + 3 = pc') (kk : kV (X, RX6, nL, ret, G, R, cs, Q) cc (kgl G n S') lv st pc') : kV (X, RX6, nL, ret, G, R, cs, Q) cc (kgl G n S) lv (.int x :: .ref (kg_ad G (kbo o)) :: st) pc := kp_int pc' hd hO hc hx hp inlX6 tyX6_ok nmX6 rfl rfl (wi_r22 _ (List.mem_of_getElem? (i := 20) rfl)) rfl rfl rfl kk
theorem rg6_209 {x : Int32} (pc' : Nat) (hd : decode cc pc = .ok (.getfield 209, 3)) (hO : kOk G n o) (hc : kci o = 6) (hx : kI S o 42 = x) (hp : pc + 3 = pc') (kk : kV (X, RX6, nL, ret, G, R, cs, Q) cc (kgl G n S) lv (.int x :: st) pc') : kV (X, RX6, nL, ret, G, R, cs, Q) cc (kgl G n S) lv (.ref (kg_ad G (kbo o)) :: st) pc := kg_int pc' hd hO hc hx hp inlX6 rfl rfl (wi_r22 _ (List.mem_of_getElem? (i := 21) rfl)) rfl kk
theorem rp6_209 {x : Int32} {S' : kS} (pc' : Nat) (hd : decode cc pc = .ok (.putfield 209, 3)) (hO : kOk G n o) (hc : kci o = 6) (hx : kpI S o 42 x = S') (hp : pc + 3 = pc') (kk : kV (X, RX6, nL, ret, G, R, cs, Q) cc (kgl G n S') lv st pc') : kV (X, RX6, nL, ret, G, R, cs, Q) cc (kgl G n S) lv (.int x :: .ref (kg_ad G (kbo o)) :: st) pc := kp_int pc' hd hO hc hx hp inlX6 tyX6_ok nmX6 rfl rfl (wi_r22 _ (List.mem_of_getElem? (i := 21) rfl)) rfl rfl rfl kk
theorem rg6_102 {x : Int32} (pc' : Nat) (hd : decode cc pc = .ok (.getfield 102, 3)) (hO : kOk G n o) (hc : kci o = 6) (hx : kI S o 43 = x) (hp : pc + 3 = pc') (kk : kV (X, RX6, nL, ret, G, R, cs, Q) cc (kgl G n S) lv (.int x :: st) pc') : kV (X, RX6, nL, ret, G, R, cs, Q) cc (kgl G n S) lv (.ref (kg_ad G (kbo o)) :: st) pc := kg_int pc' hd hO hc hx hp inlX6 rfl rfl (wi_r5 _ (List.mem_of_getElem? (i := 18) rfl)) rfl kk
theorem rp6_102 {x : Int32} {S' : kS} (pc' : Nat) (hd : decode cc pc = .ok (.putfield 102, 3)) (hO : kOk G n o) (hc : kci o = 6) (hx : kpI S o 43 x = S') (hp : pc + 3 = pc') (kk : kV (X, RX6, nL, ret, G, R, cs, Q) cc (kgl G n S') lv st pc') : kV (X, RX6, nL, ret, G, R, cs, Q) cc (kgl G n S) lv (.int x :: .ref (kg_ad G (kbo o)) :: st) pc := kp_int pc' hd hO hc hx hp inlX6 tyX6_ok nmX6 rfl rfl (wi_r5 _ (List.mem_of_getElem? (i := 18) rfl)) rfl rfl rfl kk
theorem rg6_105 (pc' : Nat) (hd : decode cc pc = .ok (.getfield 105, 3)) (hO : kOk G n o) (hc : kci o = 6) (hp : pc + 3 = pc') (kk : kV (X, RX6, nL, ret, G, R, cs, Q) cc (kgl G n S) lv (.ref (kg_ad G (kbo o + 30)) :: st) pc') : kV (X, RX6, nL, ret, G, R, cs, Q) cc (kgl G n S) lv (.ref (kg_ad G (kbo o)) :: st) pc := kg_ref (k := 44) (j := 30) pc' hd hO hc hp inlX6 rfl rfl (wi_r5 _ (List.mem_of_getElem? (i := 19) rfl)) rfl kk
theorem rl0_1 {i x : Int32} (pc' : Nat) (hd : decode cc pc = .ok (.iaload, 1)) (hO : kOk G n o) (hc : kci o = 0) (hi : kin i 5 = true) (hx : kA S o 1 i = x) (hp : pc + 1 = pc') (kk : kV (X, own, nL, ret, G, R, cs, Q) cc (kgl G n S) lv (.int x :: st) pc') : kV (X, own, nL, ret, G, R, cs, Q) cc (kgl G n S) lv (.int i :: .ref (kg_ad G (kbo o + 1)) :: st) pc := kl_int pc' hd hO hc hi hx hp (fun h => absurd h.2 (by decide)) rfl rfl rfl kk
theorem rs0_1 {i x : Int32} {S' : kS} (pc' : Nat) (hd : decode cc pc = .ok (.iastore, 1)) (hO : kOk G n o) (hc : kci o = 0) (hi : kin i 5 = true) (hx : kpA S o 1 i x = S') (hp : pc + 1 = pc') (kk : kV (X, own, nL, ret, G, R, cs, Q) cc (kgl G n S') lv st pc') : kV (X, own, nL, ret, G, R, cs, Q) cc (kgl G n S) lv (.int x :: .int i :: .ref (kg_ad G (kbo o + 1)) :: st) pc := ks_int pc' hd hO hc hi hx hp (fun h => absurd h.2 (by decide)) rfl rfl rfl kk
theorem ra0_1 {v : Int32} (pc' : Nat) (hd : decode cc pc = .ok (.arraylength, 1)) (hO : kOk G n o) (hc : kci o = 0) (hv : Int32.ofNat 5 = v) (hp : pc + 1 = pc') (kk : kV (X, own, nL, ret, G, R, cs, Q) cc (kgl G n S) lv (.int v :: st) pc') : kV (X, own, nL, ret, G, R, cs, Q) cc (kgl G n S) lv (.ref (kg_ad G (kbo o + 1)) :: st) pc := ka_int (k := 1) pc' hd hO hc hv hp (fun h => absurd h.2 (by decide)) rfl rfl rfl kk
theorem rl0_2 {i x : Int32} (pc' : Nat) (hd : decode cc pc = .ok (.iaload, 1)) (hO : kOk G n o) (hc : kci o = 0) (hi : kin i 5 = true) (hx : kA S o 2 i = x) (hp : pc + 1 = pc') (kk : kV (X, own, nL, ret, G, R, cs, Q) cc (kgl G n S) lv (.int x :: st) pc') : kV (X, own, nL, ret, G, R, cs, Q) cc (kgl G n S) lv (.int i :: .ref (kg_ad G (kbo o + 2)) :: st) pc := kl_int pc' hd hO hc hi hx hp (fun h => absurd h.2 (by decide)) rfl rfl rfl kk
theorem rs0_2 {i x : Int32} {S' : kS} (pc' : Nat) (hd : decode cc pc = .ok (.iastore, 1)) (hO : kOk G n o) (hc : kci o = 0) (hi : kin i 5 = true) (hx : kpA S o 2 i x = S') (hp : pc + 1 = pc') (kk : kV (X, own, nL, ret, G, R, cs, Q) cc (kgl G n S') lv st pc') : kV (X, own, nL, ret, G, R, cs, Q) cc (kgl G n S) lv (.int x :: .int i :: .ref (kg_ad G (kbo o + 2)) :: st) pc := ks_int pc' hd hO hc hi hx hp (fun h => absurd h.2 (by decide)) rfl rfl rfl kk
theorem ra0_2 {v : Int32} (pc' : Nat) (hd : decode cc pc = .ok (.arraylength, 1)) (hO : kOk G n o) (hc : kci o = 0) (hv : Int32.ofNat 5 = v) (hp : pc + 1 = pc') (kk : kV (X, own, nL, ret, G, R, cs, Q) cc (kgl G n S) lv (.int v :: st) pc') : kV (X, own, nL, ret, G, R, cs, Q) cc (kgl G n S) lv (.ref (kg_ad G (kbo o + 2)) :: st) pc := ka_int (k := 2) pc' hd hO hc hv hp (fun h => absurd h.2 (by decide)) rfl rfl rfl kk
theorem rl0_3 {i x : Int32} (pc' : Nat) (hd : decode cc pc = .ok (.iaload, 1)) (hO : kOk G n o) (hc : kci o = 0) (hi : kin i 5 = true) (hx : kA S o 3 i = x) (hp : pc + 1 = pc') (kk : kV (X, own, nL, ret, G, R, cs, Q) cc (kgl G n S) lv (.int x :: st) pc') : kV (X, own, nL, ret, G, R, cs, Q) cc (kgl G n S) lv (.int i :: .ref (kg_ad G (kbo o + 3)) :: st) pc := kl_int pc' hd hO hc hi hx hp (fun h => absurd h.2 (by decide)) rfl rfl rfl kk
theorem rs0_3 {i x : Int32} {S' : kS} (pc' : Nat) (hd : decode cc pc = .ok (.iastore, 1)) (hO : kOk G n o) (hc : kci o = 0) (hi : kin i 5 = true) (hx : kpA S o 3 i x = S') (hp : pc + 1 = pc') (kk : kV (X, own, nL, ret, G, R, cs, Q) cc (kgl G n S') lv st pc') : kV (X, own, nL, ret, G, R, cs, Q) cc (kgl G n S) lv (.int x :: .int i :: .ref (kg_ad G (kbo o + 3)) :: st) pc := ks_int pc' hd hO hc hi hx hp (fun h => absurd h.2 (by decide)) rfl rfl rfl kk
theorem ra0_3 {v : Int32} (pc' : Nat) (hd : decode cc pc = .ok (.arraylength, 1)) (hO : kOk G n o) (hc : kci o = 0) (hv : Int32.ofNat 5 = v) (hp : pc + 1 = pc') (kk : kV (X, own, nL, ret, G, R, cs, Q) cc (kgl G n S) lv (.int v :: st) pc') : kV (X, own, nL, ret, G, R, cs, Q) cc (kgl G n S) lv (.ref (kg_ad G (kbo o + 3)) :: st) pc := ka_int (k := 3) pc' hd hO hc hv hp (fun h => absurd h.2 (by decide)) rfl rfl rfl kk
theorem rl0_4 {i x : Int32} (pc' : Nat) (hd : decode cc pc = .ok (.iaload, 1)) (hO : kOk G n o) (hc : kci o = 0) (hi : kin i 5 = true) (hx : kA S o 4 i = x) (hp : pc + 1 = pc') (kk : kV (X, own, nL, ret, G, R, cs, Q) cc (kgl G n S) lv (.int x :: st) pc') : kV (X, own, nL, ret, G, R, cs, Q) cc (kgl G n S) lv (.int i :: .ref (kg_ad G (kbo o + 4)) :: st) pc := kl_int pc' hd hO hc hi hx hp (fun h => absurd h.2 (by decide)) rfl rfl rfl kk
theorem rs0_4 {i x : Int32} {S' : kS} (pc' : Nat) (hd : decode cc pc = .ok (.iastore, 1)) (hO : kOk G n o) (hc : kci o = 0) (hi : kin i 5 = true) (hx : kpA S o 4 i x = S') (hp : pc + 1 = pc') (kk : kV (X, own, nL, ret, G, R, cs, Q) cc (kgl G n S') lv st pc') : kV (X, own, nL, ret, G, R, cs, Q) cc (kgl G n S) lv (.int x :: .int i :: .ref (kg_ad G (kbo o + 4)) :: st) pc := ks_int pc' hd hO hc hi hx hp (fun h => absurd h.2 (by decide)) rfl rfl rfl kk
theorem ra0_4 {v : Int32} (pc' : Nat) (hd : decode cc pc = .ok (.arraylength, 1)) (hO : kOk G n o) (hc : kci o = 0) (hv : Int32.ofNat 5 = v) (hp : pc + 1 = pc') (kk : kV (X, own, nL, ret, G, R, cs, Q) cc (kgl G n S) lv (.int v :: st) pc') : kV (X, own, nL, ret, G, R, cs, Q) cc (kgl G n S) lv (.ref (kg_ad G (kbo o + 4)) :: st) pc := ka_int (k := 4) pc' hd hO hc hv hp (fun h => absurd h.2 (by decide)) rfl rfl rfl kk
theorem rl0_5 {i x : Int32} (pc' : Nat) (hd : decode cc pc = .ok (.iaload, 1)) (hO : kOk G n o) (hc : kci o = 0) (hi : kin i 5 = true) (hx : kA S o 5 i = x) (hp : pc + 1 = pc') (kk : kV (X, own, nL, ret, G, R, cs, Q) cc (kgl G n S) lv (.int x :: st) pc') : kV (X, own, nL, ret, G, R, cs, Q) cc (kgl G n S) lv (.int i :: .ref (kg_ad G (kbo o + 5)) :: st) pc := kl_int pc' hd hO hc hi hx hp (fun h => absurd h.2 (by decide)) rfl rfl rfl kk
theorem rs0_5 {i x : Int32} {S' : kS} (pc' : Nat) (hd : decode cc pc = .ok (.iastore, 1)) (hO : kOk G n o) (hc : kci o = 0) (hi : kin i 5 = true) (hx : kpA S o 5 i x = S') (hp : pc + 1 = pc') (kk : kV (X, own, nL, ret, G, R, cs, Q) cc (kgl G n S') lv st pc') : kV (X, own, nL, ret, G, R, cs, Q) cc (kgl G n S) lv (.int x :: .int i :: .ref (kg_ad G (kbo o + 5)) :: st) pc := ks_int pc' hd hO hc hi hx hp (fun h => absurd h.2 (by decide)) rfl rfl rfl kk
theorem ra0_5 {v : Int32} (pc' : Nat) (hd : decode cc pc = .ok (.arraylength, 1)) (hO : kOk G n o) (hc : kci o = 0) (hv : Int32.ofNat 5 = v) (hp : pc + 1 = pc') (kk : kV (X, own, nL, ret, G, R, cs, Q) cc (kgl G n S) lv (.int v :: st) pc') : kV (X, own, nL, ret, G, R, cs, Q) cc (kgl G n S) lv (.ref (kg_ad G (kbo o + 5)) :: st) pc := ka_int (k := 5) pc' hd hO hc hv hp (fun h => absurd h.2 (by decide)) rfl rfl rfl kk
theorem rl0_6 {i x : Int32} (pc' : Nat) (hd : decode cc pc = .ok (.iaload, 1)) (hO : kOk G n o) (hc : kci o = 0) (hi : kin i 5 = true) (hx : kA S o 6 i = x) (hp : pc + 1 = pc') (kk : kV (X, own, nL, ret, G, R, cs, Q) cc (kgl G n S) lv (.int x :: st) pc') : kV (X, own, nL, ret, G, R, cs, Q) cc (kgl G n S) lv (.int i :: .ref (kg_ad G (kbo o + 6)) :: st) pc := kl_int pc' hd hO hc hi hx hp (fun h => absurd h.2 (by decide)) rfl rfl rfl kk
theorem rs0_6 {i x : Int32} {S' : kS} (pc' : Nat) (hd : decode cc pc = .ok (.iastore, 1)) (hO : kOk G n o) (hc : kci o = 0) (hi : kin i 5 = true) (hx : kpA S o 6 i x = S') (hp : pc + 1 = pc') (kk : kV (X, own, nL, ret, G, R, cs, Q) cc (kgl G n S') lv st pc') : kV (X, own, nL, ret, G, R, cs, Q) cc (kgl G n S) lv (.int x :: .int i :: .ref (kg_ad G (kbo o + 6)) :: st) pc := ks_int pc' hd hO hc hi hx hp (fun h => absurd h.2 (by decide)) rfl rfl rfl kk
theorem ra0_6 {v : Int32} (pc' : Nat) (hd : decode cc pc = .ok (.arraylength, 1)) (hO : kOk G n o) (hc : kci o = 0) (hv : Int32.ofNat 5 = v) (hp : pc + 1 = pc') (kk : kV (X, own, nL, ret, G, R, cs, Q) cc (kgl G n S) lv (.int v :: st) pc') : kV (X, own, nL, ret, G, R, cs, Q) cc (kgl G n S) lv (.ref (kg_ad G (kbo o + 6)) :: st) pc := ka_int (k := 6) pc' hd hO hc hv hp (fun h => absurd h.2 (by decide)) rfl rfl rfl kk
theorem rl0_8 {i x : Int32} (pc' : Nat) (hd : decode cc pc = .ok (.iaload, 1)) (hO : kOk G n o) (hc : kci o = 0) (hi : kin i 6 = true) (hx : kA S o 8 i = x) (hp : pc + 1 = pc') (kk : kV (X, own, nL, ret, G, R, cs, Q) cc (kgl G n S) lv (.int x :: st) pc') : kV (X, own, nL, ret, G, R, cs, Q) cc (kgl G n S) lv (.int i :: .ref (kg_ad G (kbo o + 7)) :: st) pc := kl_int pc' hd hO hc hi hx hp (fun h => absurd h.2 (by decide)) rfl rfl rfl kk
theorem rs0_8 {i x : Int32} {S' : kS} (pc' : Nat) (hd : decode cc pc = .ok (.iastore, 1)) (hO : kOk G n o) (hc : kci o = 0) (hi : kin i 6 = true) (hx : kpA S o 8 i x = S') (hp : pc + 1 = pc') (kk : kV (X, own, nL, ret, G, R, cs, Q) cc (kgl G n S') lv st pc') : kV (X, own, nL, ret, G, R, cs, Q) cc (kgl G n S) lv (.int x :: .int i :: .ref (kg_ad G (kbo o + 7)) :: st) pc := ks_int pc' hd hO hc hi hx hp (fun h => absurd h.2 (by decide)) rfl rfl rfl kk
theorem ra0_8 {v : Int32} (pc' : Nat) (hd : decode cc pc = .ok (.arraylength, 1)) (hO : kOk G n o) (hc : kci o = 0) (hv : Int32.ofNat 6 = v) (hp : pc + 1 = pc') (kk : kV (X, own, nL, ret, G, R, cs, Q) cc (kgl G n S) lv (.int v :: st) pc') : kV (X, own, nL, ret, G, R, cs, Q) cc (kgl G n S) lv (.ref (kg_ad G (kbo o + 7)) :: st) pc := ka_int (k := 8) pc' hd hO hc hv hp (fun h => absurd h.2 (by decide)) rfl rfl rfl kk
theorem rl0_9 {i x : Int32} (pc' : Nat) (hd : decode cc pc = .ok (.iaload, 1)) (hO : kOk G n o) (hc : kci o = 0) (hi : kin i 6 = true) (hx : kA S o 9 i = x) (hp : pc + 1 = pc') (kk : kV (X, own, nL, ret, G, R, cs, Q) cc (kgl G n S) lv (.int x :: st) pc') : kV (X, own, nL, ret, G, R, cs, Q) cc (kgl G n S) lv (.int i :: .ref (kg_ad G (kbo o + 8)) :: st) pc := kl_int pc' hd hO hc hi hx hp (fun h => absurd h.2 (by decide)) rfl rfl rfl kk
theorem rs0_9 {i x : Int32} {S' : kS} (pc' : Nat) (hd : decode cc pc = .ok (.iastore, 1)) (hO : kOk G n o) (hc : kci o = 0) (hi : kin i 6 = true) (hx : kpA S o 9 i x = S') (hp : pc + 1 = pc') (kk : kV (X, own, nL, ret, G, R, cs, Q) cc (kgl G n S') lv st pc') : kV (X, own, nL, ret, G, R, cs, Q) cc (kgl G n S) lv (.int x :: .int i :: .ref (kg_ad G (kbo o + 8)) :: st) pc := ks_int pc' hd hO hc hi hx hp (fun h => absurd h.2 (by decide)) rfl rfl rfl kk
theorem ra0_9 {v : Int32} (pc' : Nat) (hd : decode cc pc = .ok (.arraylength, 1)) (hO : kOk G n o) (hc : kci o = 0) (hv : Int32.ofNat 6 = v) (hp : pc + 1 = pc') (kk : kV (X, own, nL, ret, G, R, cs, Q) cc (kgl G n S) lv (.int v :: st) pc') : kV (X, own, nL, ret, G, R, cs, Q) cc (kgl G n S) lv (.ref (kg_ad G (kbo o + 8)) :: st) pc := ka_int (k := 9) pc' hd hO hc hv hp (fun h => absurd h.2 (by decide)) rfl rfl rfl kk
theorem rl0_10 {i x : Int32} (pc' : Nat) (hd : decode cc pc = .ok (.iaload, 1)) (hO : kOk G n o) (hc : kci o = 0) (hi : kin i 6 = true) (hx : kA S o 10 i = x) (hp : pc + 1 = pc') (kk : kV (X, own, nL, ret, G, R, cs, Q) cc (kgl G n S) lv (.int x :: st) pc') : kV (X, own, nL, ret, G, R, cs, Q) cc (kgl G n S) lv (.int i :: .ref (kg_ad G (kbo o + 9)) :: st) pc := kl_int pc' hd hO hc hi hx hp (fun h => absurd h.2 (by decide)) rfl rfl rfl kk
theorem rs0_10 {i x : Int32} {S' : kS} (pc' : Nat) (hd : decode cc pc = .ok (.iastore, 1)) (hO : kOk G n o) (hc : kci o = 0) (hi : kin i 6 = true) (hx : kpA S o 10 i x = S') (hp : pc + 1 = pc') (kk : kV (X, own, nL, ret, G, R, cs, Q) cc (kgl G n S') lv st pc') : kV (X, own, nL, ret, G, R, cs, Q) cc (kgl G n S) lv (.int x :: .int i :: .ref (kg_ad G (kbo o + 9)) :: st) pc := ks_int pc' hd hO hc hi hx hp (fun h => absurd h.2 (by decide)) rfl rfl rfl kk
theorem ra0_10 {v : Int32} (pc' : Nat) (hd : decode cc pc = .ok (.arraylength, 1)) (hO : kOk G n o) (hc : kci o = 0) (hv : Int32.ofNat 6 = v) (hp : pc + 1 = pc') (kk : kV (X, own, nL, ret, G, R, cs, Q) cc (kgl G n S) lv (.int v :: st) pc') : kV (X, own, nL, ret, G, R, cs, Q) cc (kgl G n S) lv (.ref (kg_ad G (kbo o + 9)) :: st) pc := ka_int (k := 10) pc' hd hO hc hv hp (fun h => absurd h.2 (by decide)) rfl rfl rfl kk
theorem rl0_11 {i x : Int32} (pc' : Nat) (hd : decode cc pc = .ok (.iaload, 1)) (hO : kOk G n o) (hc : kci o = 0) (hi : kin i 6 = true) (hx : kA S o 11 i = x) (hp : pc + 1 = pc') (kk : kV (X, own, nL, ret, G, R, cs, Q) cc (kgl G n S) lv (.int x :: st) pc') : kV (X, own, nL, ret, G, R, cs, Q) cc (kgl G n S) lv (.int i :: .ref (kg_ad G (kbo o + 10)) :: st) pc := kl_int pc' hd hO hc hi hx hp (fun h => absurd h.2 (by decide)) rfl rfl rfl kk
theorem rs0_11 {i x : Int32} {S' : kS} (pc' : Nat) (hd : decode cc pc = .ok (.iastore, 1)) (hO : kOk G n o) (hc : kci o = 0) (hi : kin i 6 = true) (hx : kpA S o 11 i x = S') (hp : pc + 1 = pc') (kk : kV (X, own, nL, ret, G, R, cs, Q) cc (kgl G n S') lv st pc') : kV (X, own, nL, ret, G, R, cs, Q) cc (kgl G n S) lv (.int x :: .int i :: .ref (kg_ad G (kbo o + 10)) :: st) pc := ks_int pc' hd hO hc hi hx hp (fun h => absurd h.2 (by decide)) rfl rfl rfl kk
theorem ra0_11 {v : Int32} (pc' : Nat) (hd : decode cc pc = .ok (.arraylength, 1)) (hO : kOk G n o) (hc : kci o = 0) (hv : Int32.ofNat 6 = v) (hp : pc + 1 = pc') (kk : kV (X, own, nL, ret, G, R, cs, Q) cc (kgl G n S) lv (.int v :: st) pc') : kV (X, own, nL, ret, G, R, cs, Q) cc (kgl G n S) lv (.ref (kg_ad G (kbo o + 10)) :: st) pc := ka_int (k := 11) pc' hd hO hc hv hp (fun h => absurd h.2 (by decide)) rfl rfl rfl kk
theorem rl0_12 {i x : Int32} (pc' : Nat) (hd : decode cc pc = .ok (.iaload, 1)) (hO : kOk G n o) (hc : kci o = 0) (hi : kin i 6 = true) (hx : kA S o 12 i = x) (hp : pc + 1 = pc') (kk : kV (X, own, nL, ret, G, R, cs, Q) cc (kgl G n S) lv (.int x :: st) pc') : kV (X, own, nL, ret, G, R, cs, Q) cc (kgl G n S) lv (.int i :: .ref (kg_ad G (kbo o + 11)) :: st) pc := kl_int pc' hd hO hc hi hx hp (fun h => absurd h.2 (by decide)) rfl rfl rfl kk
theorem rs0_12 {i x : Int32} {S' : kS} (pc' : Nat) (hd : decode cc pc = .ok (.iastore, 1)) (hO : kOk G n o) (hc : kci o = 0) (hi : kin i 6 = true) (hx : kpA S o 12 i x = S') (hp : pc + 1 = pc') (kk : kV (X, own, nL, ret, G, R, cs, Q) cc (kgl G n S') lv st pc') : kV (X, own, nL, ret, G, R, cs, Q) cc (kgl G n S) lv (.int x :: .int i :: .ref (kg_ad G (kbo o + 11)) :: st) pc := ks_int pc' hd hO hc hi hx hp (fun h => absurd h.2 (by decide)) rfl rfl rfl kk
theorem ra0_12 {v : Int32} (pc' : Nat) (hd : decode cc pc = .ok (.arraylength, 1)) (hO : kOk G n o) (hc : kci o = 0) (hv : Int32.ofNat 6 = v) (hp : pc + 1 = pc') (kk : kV (X, own, nL, ret, G, R, cs, Q) cc (kgl G n S) lv (.int v :: st) pc') : kV (X, own, nL, ret, G, R, cs, Q) cc (kgl G n S) lv (.ref (kg_ad G (kbo o + 11)) :: st) pc := ka_int (k := 12) pc' hd hO hc hv hp (fun h => absurd h.2 (by decide)) rfl rfl rfl kk
theorem rl0_13 {i x : Int32} (pc' : Nat) (hd : decode cc pc = .ok (.iaload, 1)) (hO : kOk G n o) (hc : kci o = 0) (hi : kin i 64 = true) (hx : kA S o 13 i = x) (hp : pc + 1 = pc') (kk : kV (X, own, nL, ret, G, R, cs, Q) cc (kgl G n S) lv (.int x :: st) pc') : kV (X, own, nL, ret, G, R, cs, Q) cc (kgl G n S) lv (.int i :: .ref (kg_ad G (kbo o + 12)) :: st) pc := kl_int pc' hd hO hc hi hx hp (fun h => absurd h.2 (by decide)) rfl rfl rfl kk
theorem rs0_13 {i x : Int32} {S' : kS} (pc' : Nat) (hd : decode cc pc = .ok (.iastore, 1)) (hO : kOk G n o) (hc : kci o = 0) (hi : kin i 64 = true) (hx : kpA S o 13 i x = S') (hp : pc + 1 = pc') (kk : kV (X, own, nL, ret, G, R, cs, Q) cc (kgl G n S') lv st pc') : kV (X, own, nL, ret, G, R, cs, Q) cc (kgl G n S) lv (.int x :: .int i :: .ref (kg_ad G (kbo o + 12)) :: st) pc := ks_int pc' hd hO hc hi hx hp (fun h => absurd h.2 (by decide)) rfl rfl rfl kk
theorem ra0_13 {v : Int32} (pc' : Nat) (hd : decode cc pc = .ok (.arraylength, 1)) (hO : kOk G n o) (hc : kci o = 0) (hv : Int32.ofNat 64 = v) (hp : pc + 1 = pc') (kk : kV (X, own, nL, ret, G, R, cs, Q) cc (kgl G n S) lv (.int v :: st) pc') : kV (X, own, nL, ret, G, R, cs, Q) cc (kgl G n S) lv (.ref (kg_ad G (kbo o + 12)) :: st) pc := ka_int (k := 13) pc' hd hO hc hv hp (fun h => absurd h.2 (by decide)) rfl rfl rfl kk
theorem rl0_14 {i x : Int32} (pc' : Nat) (hd : decode cc pc = .ok (.iaload, 1)) (hO : kOk G n o) (hc : kci o = 0) (hi : kin i 64 = true) (hx : kA S o 14 i = x) (hp : pc + 1 = pc') (kk : kV (X, own, nL, ret, G, R, cs, Q) cc (kgl G n S) lv (.int x :: st) pc') : kV (X, own, nL, ret, G, R, cs, Q) cc (kgl G n S) lv (.int i :: .ref (kg_ad G (kbo o + 13)) :: st) pc := kl_int pc' hd hO hc hi hx hp (fun h => absurd h.2 (by decide)) rfl rfl rfl kk
theorem rs0_14 {i x : Int32} {S' : kS} (pc' : Nat) (hd : decode cc pc = .ok (.iastore, 1)) (hO : kOk G n o) (hc : kci o = 0) (hi : kin i 64 = true) (hx : kpA S o 14 i x = S') (hp : pc + 1 = pc') (kk : kV (X, own, nL, ret, G, R, cs, Q) cc (kgl G n S') lv st pc') : kV (X, own, nL, ret, G, R, cs, Q) cc (kgl G n S) lv (.int x :: .int i :: .ref (kg_ad G (kbo o + 13)) :: st) pc := ks_int pc' hd hO hc hi hx hp (fun h => absurd h.2 (by decide)) rfl rfl rfl kk
theorem ra0_14 {v : Int32} (pc' : Nat) (hd : decode cc pc = .ok (.arraylength, 1)) (hO : kOk G n o) (hc : kci o = 0) (hv : Int32.ofNat 64 = v) (hp : pc + 1 = pc') (kk : kV (X, own, nL, ret, G, R, cs, Q) cc (kgl G n S) lv (.int v :: st) pc') : kV (X, own, nL, ret, G, R, cs, Q) cc (kgl G n S) lv (.ref (kg_ad G (kbo o + 13)) :: st) pc := ka_int (k := 14) pc' hd hO hc hv hp (fun h => absurd h.2 (by decide)) rfl rfl rfl kk
theorem rl1_0 {i x : Int32} (pc' : Nat) (hd : decode cc pc = .ok (.iaload, 1)) (hO : kOk G n o) (hc : kci o = 1) (hi : kin i 150 = true) (hx : kA S o 0 i = x) (hp : pc + 1 = pc') (kk : kV (X, own, nL, ret, G, R, cs, Q) cc (kgl G n S) lv (.int x :: st) pc') : kV (X, own, nL, ret, G, R, cs, Q) cc (kgl G n S) lv (.int i :: .ref (kg_ad G (kbo o + 1)) :: st) pc := kl_int pc' hd hO hc hi hx hp (fun h => by rw [h.1] at hc; exact absurd hc (by decide)) rfl rfl rfl kk
theorem rs1_0 {i x : Int32} {S' : kS} (pc' : Nat) (hd : decode cc pc = .ok (.iastore, 1)) (hO : kOk G n o) (hc : kci o = 1) (hi : kin i 150 = true) (hx : kpA S o 0 i x = S') (hp : pc + 1 = pc') (kk : kV (X, own, nL, ret, G, R, cs, Q) cc (kgl G n S') lv st pc') : kV (X, own, nL, ret, G, R, cs, Q) cc (kgl G n S) lv (.int x :: .int i :: .ref (kg_ad G (kbo o + 1)) :: st) pc := ks_int pc' hd hO hc hi hx hp (fun h => by rw [h.1] at hc; exact absurd hc (by decide)) rfl rfl rfl kk
theorem ra1_0 {v : Int32} (pc' : Nat) (hd : decode cc pc = .ok (.arraylength, 1)) (hO : kOk G n o) (hc : kci o = 1) (hv : Int32.ofNat 150 = v) (hp : pc + 1 = pc') (kk : kV (X, own, nL, ret, G, R, cs, Q) cc (kgl G n S) lv (.int v :: st) pc') : kV (X, own, nL, ret, G, R, cs, Q) cc (kgl G n S) lv (.ref (kg_ad G (kbo o + 1)) :: st) pc := ka_int (k := 0) pc' hd hO hc hv hp (fun h => by rw [h.1] at hc; exact absurd hc (by decide)) rfl rfl rfl kk
theorem rl1_1 {i x : Int32} (pc' : Nat) (hd : decode cc pc = .ok (.iaload, 1)) (hO : kOk G n o) (hc : kci o = 1) (hi : kin i 150 = true) (hx : kA S o 1 i = x) (hp : pc + 1 = pc') (kk : kV (X, own, nL, ret, G, R, cs, Q) cc (kgl G n S) lv (.int x :: st) pc') : kV (X, own, nL, ret, G, R, cs, Q) cc (kgl G n S) lv (.int i :: .ref (kg_ad G (kbo o + 2)) :: st) pc := kl_int pc' hd hO hc hi hx hp (fun h => absurd h.2 (by decide)) rfl rfl rfl kk
theorem rs1_1 {i x : Int32} {S' : kS} (pc' : Nat) (hd : decode cc pc = .ok (.iastore, 1)) (hO : kOk G n o) (hc : kci o = 1) (hi : kin i 150 = true) (hx : kpA S o 1 i x = S') (hp : pc + 1 = pc') (kk : kV (X, own, nL, ret, G, R, cs, Q) cc (kgl G n S') lv st pc') : kV (X, own, nL, ret, G, R, cs, Q) cc (kgl G n S) lv (.int x :: .int i :: .ref (kg_ad G (kbo o + 2)) :: st) pc := ks_int pc' hd hO hc hi hx hp (fun h => absurd h.2 (by decide)) rfl rfl rfl kk
theorem ra1_1 {v : Int32} (pc' : Nat) (hd : decode cc pc = .ok (.arraylength, 1)) (hO : kOk G n o) (hc : kci o = 1) (hv : Int32.ofNat 150 = v) (hp : pc + 1 = pc') (kk : kV (X, own, nL, ret, G, R, cs, Q) cc (kgl G n S) lv (.int v :: st) pc') : kV (X, own, nL, ret, G, R, cs, Q) cc (kgl G n S) lv (.ref (kg_ad G (kbo o + 2)) :: st) pc := ka_int (k := 1) pc' hd hO hc hv hp (fun h => absurd h.2 (by decide)) rfl rfl rfl kk
theorem rl2_0 {i x : Int32} (pc' : Nat) (hd : decode cc pc = .ok (.iaload, 1)) (hO : kOk G n o) (hc : kci o = 2) (hi : kin i 3125 = true) (hx : kA S o 0 i = x) (hp : pc + 1 = pc') (kk : kV (X, own, nL, ret, G, R, cs, Q) cc (kgl G n S) lv (.int x :: st) pc') : kV (X, own, nL, ret, G, R, cs, Q) cc (kgl G n S) lv (.int i :: .ref (kg_ad G (kbo o + 1)) :: st) pc := kl_int pc' hd hO hc hi hx hp (fun h => by rw [h.1] at hc; exact absurd hc (by decide)) rfl rfl rfl kk
theorem rs2_0 {i x : Int32} {S' : kS} (pc' : Nat) (hd : decode cc pc = .ok (.iastore, 1)) (hO : kOk G n o) (hc : kci o = 2) (hi : kin i 3125 = true) (hx : kpA S o 0 i x = S') (hp : pc + 1 = pc') (kk : kV (X, own, nL, ret, G, R, cs, Q) cc (kgl G n S') lv st pc') : kV (X, own, nL, ret, G, R, cs, Q) cc (kgl G n S) lv (.int x :: .int i :: .ref (kg_ad G (kbo o + 1)) :: st) pc := ks_int pc' hd hO hc hi hx hp (fun h => by rw [h.1] at hc; exact absurd hc (by decide)) rfl rfl rfl kk
theorem ra2_0 {v : Int32} (pc' : Nat) (hd : decode cc pc = .ok (.arraylength, 1)) (hO : kOk G n o) (hc : kci o = 2) (hv : Int32.ofNat 3125 = v) (hp : pc + 1 = pc') (kk : kV (X, own, nL, ret, G, R, cs, Q) cc (kgl G n S) lv (.int v :: st) pc') : kV (X, own, nL, ret, G, R, cs, Q) cc (kgl G n S) lv (.ref (kg_ad G (kbo o + 1)) :: st) pc := ka_int (k := 0) pc' hd hO hc hv hp (fun h => by rw [h.1] at hc; exact absurd hc (by decide)) rfl rfl rfl kk
theorem rl2_1 {i x : Int32} (pc' : Nat) (hd : decode cc pc = .ok (.iaload, 1)) (hO : kOk G n o) (hc : kci o = 2) (hi : kin i 5 = true) (hx : kA S o 1 i = x) (hp : pc + 1 = pc') (kk : kV (X, own, nL, ret, G, R, cs, Q) cc (kgl G n S) lv (.int x :: st) pc') : kV (X, own, nL, ret, G, R, cs, Q) cc (kgl G n S) lv (.int i :: .ref (kg_ad G (kbo o + 2)) :: st) pc := kl_int pc' hd hO hc hi hx hp (fun h => absurd h.2 (by decide)) rfl rfl rfl kk
theorem rs2_1 {i x : Int32} {S' : kS} (pc' : Nat) (hd : decode cc pc = .ok (.iastore, 1)) (hO : kOk G n o) (hc : kci o = 2) (hi : kin i 5 = true) (hx : kpA S o 1 i x = S') (hp : pc + 1 = pc') (kk : kV (X, own, nL, ret, G, R, cs, Q) cc (kgl G n S') lv st pc') : kV (X, own, nL, ret, G, R, cs, Q) cc (kgl G n S) lv (.int x :: .int i :: .ref (kg_ad G (kbo o + 2)) :: st) pc := ks_int pc' hd hO hc hi hx hp (fun h => absurd h.2 (by decide)) rfl rfl rfl kk
theorem ra2_1 {v : Int32} (pc' : Nat) (hd : decode cc pc = .ok (.arraylength, 1)) (hO : kOk G n o) (hc : kci o = 2) (hv : Int32.ofNat 5 = v) (hp : pc + 1 = pc') (kk : kV (X, own, nL, ret, G, R, cs, Q) cc (kgl G n S) lv (.int v :: st) pc') : kV (X, own, nL, ret, G, R, cs, Q) cc (kgl G n S) lv (.ref (kg_ad G (kbo o + 2)) :: st) pc := ka_int (k := 1) pc' hd hO hc hv hp (fun h => absurd h.2 (by decide)) rfl rfl rfl kk
theorem rl3_0 {i x : Int32} (pc' : Nat) (hd : decode cc pc = .ok (.iaload, 1)) (hO : kOk G n o) (hc : kci o = 3) (hi : kin i 8 = true) (hx : kA S o 0 i = x) (hp : pc + 1 = pc') (kk : kV (X, own, nL, ret, G, R, cs, Q) cc (kgl G n S) lv (.int x :: st) pc') : kV (X, own, nL, ret, G, R, cs, Q) cc (kgl G n S) lv (.int i :: .ref (kg_ad G (kbo o + 1)) :: st) pc := kl_int pc' hd hO hc hi hx hp (fun h => by rw [h.1] at hc; exact absurd hc (by decide)) rfl rfl rfl kk
theorem rs3_0 {i x : Int32} {S' : kS} (pc' : Nat) (hd : decode cc pc = .ok (.iastore, 1)) (hO : kOk G n o) (hc : kci o = 3) (hi : kin i 8 = true) (hx : kpA S o 0 i x = S') (hp : pc + 1 = pc') (kk : kV (X, own, nL, ret, G, R, cs, Q) cc (kgl G n S') lv st pc') : kV (X, own, nL, ret, G, R, cs, Q) cc (kgl G n S) lv (.int x :: .int i :: .ref (kg_ad G (kbo o + 1)) :: st) pc := ks_int pc' hd hO hc hi hx hp (fun h => by rw [h.1] at hc; exact absurd hc (by decide)) rfl rfl rfl kk
theorem ra3_0 {v : Int32} (pc' : Nat) (hd : decode cc pc = .ok (.arraylength, 1)) (hO : kOk G n o) (hc : kci o = 3) (hv : Int32.ofNat 8 = v) (hp : pc + 1 = pc') (kk : kV (X, own, nL, ret, G, R, cs, Q) cc (kgl G n S) lv (.int v :: st) pc') : kV (X, own, nL, ret, G, R, cs, Q) cc (kgl G n S) lv (.ref (kg_ad G (kbo o + 1)) :: st) pc := ka_int (k := 0) pc' hd hO hc hv hp (fun h => by rw [h.1] at hc; exact absurd hc (by decide)) rfl rfl rfl kk
theorem rl3_2 {i x : Int32} (pc' : Nat) (hd : decode cc pc = .ok (.iaload, 1)) (hO : kOk G n o) (hc : kci o = 3) (hi : kin i 9 = true) (hx : kA S o 2 i = x) (hp : pc + 1 = pc') (kk : kV (X, own, nL, ret, G, R, cs, Q) cc (kgl G n S) lv (.int x :: st) pc') : kV (X, own, nL, ret, G, R, cs, Q) cc (kgl G n S) lv (.int i :: .ref (kg_ad G (kbo o + 2)) :: st) pc := kl_int pc' hd hO hc hi hx hp (fun h => absurd h.2 (by decide)) rfl rfl rfl kk
theorem rs3_2 {i x : Int32} {S' : kS} (pc' : Nat) (hd : decode cc pc = .ok (.iastore, 1)) (hO : kOk G n o) (hc : kci o = 3) (hi : kin i 9 = true) (hx : kpA S o 2 i x = S') (hp : pc + 1 = pc') (kk : kV (X, own, nL, ret, G, R, cs, Q) cc (kgl G n S') lv st pc') : kV (X, own, nL, ret, G, R, cs, Q) cc (kgl G n S) lv (.int x :: .int i :: .ref (kg_ad G (kbo o + 2)) :: st) pc := ks_int pc' hd hO hc hi hx hp (fun h => absurd h.2 (by decide)) rfl rfl rfl kk
theorem ra3_2 {v : Int32} (pc' : Nat) (hd : decode cc pc = .ok (.arraylength, 1)) (hO : kOk G n o) (hc : kci o = 3) (hv : Int32.ofNat 9 = v) (hp : pc + 1 = pc') (kk : kV (X, own, nL, ret, G, R, cs, Q) cc (kgl G n S) lv (.int v :: st) pc') : kV (X, own, nL, ret, G, R, cs, Q) cc (kgl G n S) lv (.ref (kg_ad G (kbo o + 2)) :: st) pc := ka_int (k := 2) pc' hd hO hc hv hp (fun h => absurd h.2 (by decide)) rfl rfl rfl kk
theorem rl3_3 {i x : Int32} (pc' : Nat) (hd : decode cc pc = .ok (.iaload, 1)) (hO : kOk G n o) (hc : kci o = 3) (hi : kin i 9 = true) (hx : kA S o 3 i = x) (hp : pc + 1 = pc') (kk : kV (X, own, nL, ret, G, R, cs, Q) cc (kgl G n S) lv (.int x :: st) pc') : kV (X, own, nL, ret, G, R, cs, Q) cc (kgl G n S) lv (.int i :: .ref (kg_ad G (kbo o + 3)) :: st) pc := kl_int pc' hd hO hc hi hx hp (fun h => absurd h.2 (by decide)) rfl rfl rfl kk
theorem rs3_3 {i x : Int32} {S' : kS} (pc' : Nat) (hd : decode cc pc = .ok (.iastore, 1)) (hO : kOk G n o) (hc : kci o = 3) (hi : kin i 9 = true) (hx : kpA S o 3 i x = S') (hp : pc + 1 = pc') (kk : kV (X, own, nL, ret, G, R, cs, Q) cc (kgl G n S') lv st pc') : kV (X, own, nL, ret, G, R, cs, Q) cc (kgl G n S) lv (.int x :: .int i :: .ref (kg_ad G (kbo o + 3)) :: st) pc := ks_int pc' hd hO hc hi hx hp (fun h => absurd h.2 (by decide)) rfl rfl rfl kk
theorem ra3_3 {v : Int32} (pc' : Nat) (hd : decode cc pc = .ok (.arraylength, 1)) (hO : kOk G n o) (hc : kci o = 3) (hv : Int32.ofNat 9 = v) (hp : pc + 1 = pc') (kk : kV (X, own, nL, ret, G, R, cs, Q) cc (kgl G n S) lv (.int v :: st) pc') : kV (X, own, nL, ret, G, R, cs, Q) cc (kgl G n S) lv (.ref (kg_ad G (kbo o + 3)) :: st) pc := ka_int (k := 3) pc' hd hO hc hv hp (fun h => absurd h.2 (by decide)) rfl rfl rfl kk
theorem rl3_4 {i x : Int32} (pc' : Nat) (hd : decode cc pc = .ok (.iaload, 1)) (hO : kOk G n o) (hc : kci o = 3) (hi : kin i 9 = true) (hx : kA S o 4 i = x) (hp : pc + 1 = pc') (kk : kV (X, own, nL, ret, G, R, cs, Q) cc (kgl G n S) lv (.int x :: st) pc') : kV (X, own, nL, ret, G, R, cs, Q) cc (kgl G n S) lv (.int i :: .ref (kg_ad G (kbo o + 4)) :: st) pc := kl_int pc' hd hO hc hi hx hp (fun h => absurd h.2 (by decide)) rfl rfl rfl kk
theorem rs3_4 {i x : Int32} {S' : kS} (pc' : Nat) (hd : decode cc pc = .ok (.iastore, 1)) (hO : kOk G n o) (hc : kci o = 3) (hi : kin i 9 = true) (hx : kpA S o 4 i x = S') (hp : pc + 1 = pc') (kk : kV (X, own, nL, ret, G, R, cs, Q) cc (kgl G n S') lv st pc') : kV (X, own, nL, ret, G, R, cs, Q) cc (kgl G n S) lv (.int x :: .int i :: .ref (kg_ad G (kbo o + 4)) :: st) pc := ks_int pc' hd hO hc hi hx hp (fun h => absurd h.2 (by decide)) rfl rfl rfl kk
theorem ra3_4 {v : Int32} (pc' : Nat) (hd : decode cc pc = .ok (.arraylength, 1)) (hO : kOk G n o) (hc : kci o = 3) (hv : Int32.ofNat 9 = v) (hp : pc + 1 = pc') (kk : kV (X, own, nL, ret, G, R, cs, Q) cc (kgl G n S) lv (.int v :: st) pc') : kV (X, own, nL, ret, G, R, cs, Q) cc (kgl G n S) lv (.ref (kg_ad G (kbo o + 4)) :: st) pc := ka_int (k := 4) pc' hd hO hc hv hp (fun h => absurd h.2 (by decide)) rfl rfl rfl kk
theorem rl3_5 {i x : Int32} (pc' : Nat) (hd : decode cc pc = .ok (.baload, 1)) (hO : kOk G n o) (hc : kci o = 3) (hi : kin i 9 = true) (hx : kA S o 5 i = x) (hp : pc + 1 = pc') (kk : kV (X, own, nL, ret, G, R, cs, Q) cc (kgl G n S) lv (.int x :: st) pc') : kV (X, own, nL, ret, G, R, cs, Q) cc (kgl G n S) lv (.int i :: .ref (kg_ad G (kbo o + 5)) :: st) pc := kl_boo pc' hd hO hc hi hx hp (fun h => absurd h.2 (by decide)) rfl rfl rfl kk
theorem rs3_5 {i x : Int32} {S' : kS} (pc' : Nat) (hd : decode cc pc = .ok (.bastore, 1)) (hO : kOk G n o) (hc : kci o = 3) (hi : kin i 9 = true) (hx : kpA S o 5 i (x &&& 1) = S') (hp : pc + 1 = pc') (kk : kV (X, own, nL, ret, G, R, cs, Q) cc (kgl G n S') lv st pc') : kV (X, own, nL, ret, G, R, cs, Q) cc (kgl G n S) lv (.int x :: .int i :: .ref (kg_ad G (kbo o + 5)) :: st) pc := ks_boo pc' hd hO hc hi hx hp (fun h => absurd h.2 (by decide)) rfl rfl rfl kk
theorem rl3_6 {i x : Int32} (pc' : Nat) (hd : decode cc pc = .ok (.iaload, 1)) (hO : kOk G n o) (hc : kci o = 3) (hi : kin i 45 = true) (hx : kA S o 6 i = x) (hp : pc + 1 = pc') (kk : kV (X, own, nL, ret, G, R, cs, Q) cc (kgl G n S) lv (.int x :: st) pc') : kV (X, own, nL, ret, G, R, cs, Q) cc (kgl G n S) lv (.int i :: .ref (kg_ad G (kbo o + 6)) :: st) pc := kl_int pc' hd hO hc hi hx hp (fun h => absurd h.2 (by decide)) rfl rfl rfl kk
theorem rs3_6 {i x : Int32} {S' : kS} (pc' : Nat) (hd : decode cc pc = .ok (.iastore, 1)) (hO : kOk G n o) (hc : kci o = 3) (hi : kin i 45 = true) (hx : kpA S o 6 i x = S') (hp : pc + 1 = pc') (kk : kV (X, own, nL, ret, G, R, cs, Q) cc (kgl G n S') lv st pc') : kV (X, own, nL, ret, G, R, cs, Q) cc (kgl G n S) lv (.int x :: .int i :: .ref (kg_ad G (kbo o + 6)) :: st) pc := ks_int pc' hd hO hc hi hx hp (fun h => absurd h.2 (by decide)) rfl rfl rfl kk
theorem ra3_6 {v : Int32} (pc' : Nat) (hd : decode cc pc = .ok (.arraylength, 1)) (hO : kOk G n o) (hc : kci o = 3) (hv : Int32.ofNat 45 = v) (hp : pc + 1 = pc') (kk : kV (X, own, nL, ret, G, R, cs, Q) cc (kgl G n S) lv (.int v :: st) pc') : kV (X, own, nL, ret, G, R, cs, Q) cc (kgl G n S) lv (.ref (kg_ad G (kbo o + 6)) :: st) pc := ka_int (k := 6) pc' hd hO hc hv hp (fun h => absurd h.2 (by decide)) rfl rfl rfl kk
theorem rl4_2 {i x : Int32} (pc' : Nat) (hd : decode cc pc = .ok (.iaload, 1)) (hO : kOk G n o) (hc : kci o = 4) (hi : kin i 20 = true) (hx : kA S o 2 i = x) (hp : pc + 1 = pc') (kk : kV (X, own, nL, ret, G, R, cs, Q) cc (kgl G n S) lv (.int x :: st) pc') : kV (X, own, nL, ret, G, R, cs, Q) cc (kgl G n S) lv (.int i :: .ref (kg_ad G (kbo o + 1)) :: st) pc := kl_int pc' hd hO hc hi hx hp (fun h => absurd h.2 (by decide)) rfl rfl rfl kk
theorem rs4_2 {i x : Int32} {S' : kS} (pc' : Nat) (hd : decode cc pc = .ok (.iastore, 1)) (hO : kOk G n o) (hc : kci o = 4) (hi : kin i 20 = true) (hx : kpA S o 2 i x = S') (hp : pc + 1 = pc') (kk : kV (X, own, nL, ret, G, R, cs, Q) cc (kgl G n S') lv st pc') : kV (X, own, nL, ret, G, R, cs, Q) cc (kgl G n S) lv (.int x :: .int i :: .ref (kg_ad G (kbo o + 1)) :: st) pc := ks_int pc' hd hO hc hi hx hp (fun h => absurd h.2 (by decide)) rfl rfl rfl kk
theorem ra4_2 {v : Int32} (pc' : Nat) (hd : decode cc pc = .ok (.arraylength, 1)) (hO : kOk G n o) (hc : kci o = 4) (hv : Int32.ofNat 20 = v) (hp : pc + 1 = pc') (kk : kV (X, own, nL, ret, G, R, cs, Q) cc (kgl G n S) lv (.int v :: st) pc') : kV (X, own, nL, ret, G, R, cs, Q) cc (kgl G n S) lv (.ref (kg_ad G (kbo o + 1)) :: st) pc := ka_int (k := 2) pc' hd hO hc hv hp (fun h => absurd h.2 (by decide)) rfl rfl rfl kk
theorem rl4_3 {i x : Int32} (pc' : Nat) (hd : decode cc pc = .ok (.iaload, 1)) (hO : kOk G n o) (hc : kci o = 4) (hi : kin i 20 = true) (hx : kA S o 3 i = x) (hp : pc + 1 = pc') (kk : kV (X, own, nL, ret, G, R, cs, Q) cc (kgl G n S) lv (.int x :: st) pc') : kV (X, own, nL, ret, G, R, cs, Q) cc (kgl G n S) lv (.int i :: .ref (kg_ad G (kbo o + 2)) :: st) pc := kl_int pc' hd hO hc hi hx hp (fun h => absurd h.2 (by decide)) rfl rfl rfl kk
theorem rs4_3 {i x : Int32} {S' : kS} (pc' : Nat) (hd : decode cc pc = .ok (.iastore, 1)) (hO : kOk G n o) (hc : kci o = 4) (hi : kin i 20 = true) (hx : kpA S o 3 i x = S') (hp : pc + 1 = pc') (kk : kV (X, own, nL, ret, G, R, cs, Q) cc (kgl G n S') lv st pc') : kV (X, own, nL, ret, G, R, cs, Q) cc (kgl G n S) lv (.int x :: .int i :: .ref (kg_ad G (kbo o + 2)) :: st) pc := ks_int pc' hd hO hc hi hx hp (fun h => absurd h.2 (by decide)) rfl rfl rfl kk
theorem ra4_3 {v : Int32} (pc' : Nat) (hd : decode cc pc = .ok (.arraylength, 1)) (hO : kOk G n o) (hc : kci o = 4) (hv : Int32.ofNat 20 = v) (hp : pc + 1 = pc') (kk : kV (X, own, nL, ret, G, R, cs, Q) cc (kgl G n S) lv (.int v :: st) pc') : kV (X, own, nL, ret, G, R, cs, Q) cc (kgl G n S) lv (.ref (kg_ad G (kbo o + 2)) :: st) pc := ka_int (k := 3) pc' hd hO hc hv hp (fun h => absurd h.2 (by decide)) rfl rfl rfl kk
theorem rl4_4 {i x : Int32} (pc' : Nat) (hd : decode cc pc = .ok (.iaload, 1)) (hO : kOk G n o) (hc : kci o = 4) (hi : kin i 20 = true) (hx : kA S o 4 i = x) (hp : pc + 1 = pc') (kk : kV (X, own, nL, ret, G, R, cs, Q) cc (kgl G n S) lv (.int x :: st) pc') : kV (X, own, nL, ret, G, R, cs, Q) cc (kgl G n S) lv (.int i :: .ref (kg_ad G (kbo o + 3)) :: st) pc := kl_int pc' hd hO hc hi hx hp (fun h => absurd h.2 (by decide)) rfl rfl rfl kk
theorem rs4_4 {i x : Int32} {S' : kS} (pc' : Nat) (hd : decode cc pc = .ok (.iastore, 1)) (hO : kOk G n o) (hc : kci o = 4) (hi : kin i 20 = true) (hx : kpA S o 4 i x = S') (hp : pc + 1 = pc') (kk : kV (X, own, nL, ret, G, R, cs, Q) cc (kgl G n S') lv st pc') : kV (X, own, nL, ret, G, R, cs, Q) cc (kgl G n S) lv (.int x :: .int i :: .ref (kg_ad G (kbo o + 3)) :: st) pc := ks_int pc' hd hO hc hi hx hp (fun h => absurd h.2 (by decide)) rfl rfl rfl kk
theorem ra4_4 {v : Int32} (pc' : Nat) (hd : decode cc pc = .ok (.arraylength, 1)) (hO : kOk G n o) (hc : kci o = 4) (hv : Int32.ofNat 20 = v) (hp : pc + 1 = pc') (kk : kV (X, own, nL, ret, G, R, cs, Q) cc (kgl G n S) lv (.int v :: st) pc') : kV (X, own, nL, ret, G, R, cs, Q) cc (kgl G n S) lv (.ref (kg_ad G (kbo o + 3)) :: st) pc := ka_int (k := 4) pc' hd hO hc hv hp (fun h => absurd h.2 (by decide)) rfl rfl rfl kk
theorem rl4_5 {i x : Int32} (pc' : Nat) (hd : decode cc pc = .ok (.iaload, 1)) (hO : kOk G n o) (hc : kci o = 4) (hi : kin i 20 = true) (hx : kA S o 5 i = x) (hp : pc + 1 = pc') (kk : kV (X, own, nL, ret, G, R, cs, Q) cc (kgl G n S) lv (.int x :: st) pc') : kV (X, own, nL, ret, G, R, cs, Q) cc (kgl G n S) lv (.int i :: .ref (kg_ad G (kbo o + 4)) :: st) pc := kl_int pc' hd hO hc hi hx hp (fun h => absurd h.2 (by decide)) rfl rfl rfl kk
theorem rs4_5 {i x : Int32} {S' : kS} (pc' : Nat) (hd : decode cc pc = .ok (.iastore, 1)) (hO : kOk G n o) (hc : kci o = 4) (hi : kin i 20 = true) (hx : kpA S o 5 i x = S') (hp : pc + 1 = pc') (kk : kV (X, own, nL, ret, G, R, cs, Q) cc (kgl G n S') lv st pc') : kV (X, own, nL, ret, G, R, cs, Q) cc (kgl G n S) lv (.int x :: .int i :: .ref (kg_ad G (kbo o + 4)) :: st) pc := ks_int pc' hd hO hc hi hx hp (fun h => absurd h.2 (by decide)) rfl rfl rfl kk
theorem ra4_5 {v : Int32} (pc' : Nat) (hd : decode cc pc = .ok (.arraylength, 1)) (hO : kOk G n o) (hc : kci o = 4) (hv : Int32.ofNat 20 = v) (hp : pc + 1 = pc') (kk : kV (X, own, nL, ret, G, R, cs, Q) cc (kgl G n S) lv (.int v :: st) pc') : kV (X, own, nL, ret, G, R, cs, Q) cc (kgl G n S) lv (.ref (kg_ad G (kbo o + 4)) :: st) pc := ka_int (k := 5) pc' hd hO hc hv hp (fun h => absurd h.2 (by decide)) rfl rfl rfl kk
theorem rl4_6 {i x : Int32} (pc' : Nat) (hd : decode cc pc = .ok (.iaload, 1)) (hO : kOk G n o) (hc : kci o = 4) (hi : kin i 84 = true) (hx : kA S o 6 i = x) (hp : pc + 1 = pc') (kk : kV (X, own, nL, ret, G, R, cs, Q) cc (kgl G n S) lv (.int x :: st) pc') : kV (X, own, nL, ret, G, R, cs, Q) cc (kgl G n S) lv (.int i :: .ref (kg_ad G (kbo o + 5)) :: st) pc := kl_int pc' hd hO hc hi hx hp (fun h => absurd h.2 (by decide)) rfl rfl rfl kk
theorem rs4_6 {i x : Int32} {S' : kS} (pc' : Nat) (hd : decode cc pc = .ok (.iastore, 1)) (hO : kOk G n o) (hc : kci o = 4) (hi : kin i 84 = true) (hx : kpA S o 6 i x = S') (hp : pc + 1 = pc') (kk : kV (X, own, nL, ret, G, R, cs, Q) cc (kgl G n S') lv st pc') : kV (X, own, nL, ret, G, R, cs, Q) cc (kgl G n S) lv (.int x :: .int i :: .ref (kg_ad G (kbo o + 5)) :: st) pc := ks_int pc' hd hO hc hi hx hp (fun h => absurd h.2 (by decide)) rfl rfl rfl kk
theorem ra4_6 {v : Int32} (pc' : Nat) (hd : decode cc pc = .ok (.arraylength, 1)) (hO : kOk G n o) (hc : kci o = 4) (hv : Int32.ofNat 84 = v) (hp : pc + 1 = pc') (kk : kV (X, own, nL, ret, G, R, cs, Q) cc (kgl G n S) lv (.int v :: st) pc') : kV (X, own, nL, ret, G, R, cs, Q) cc (kgl G n S) lv (.ref (kg_ad G (kbo o + 5)) :: st) pc := ka_int (k := 6) pc' hd hO hc hv hp (fun h => absurd h.2 (by decide)) rfl rfl rfl kk
theorem rl4_7 {i x : Int32} (pc' : Nat) (hd : decode cc pc = .ok (.iaload, 1)) (hO : kOk G n o) (hc : kci o = 4) (hi : kin i 84 = true) (hx : kA S o 7 i = x) (hp : pc + 1 = pc') (kk : kV (X, own, nL, ret, G, R, cs, Q) cc (kgl G n S) lv (.int x :: st) pc') : kV (X, own, nL, ret, G, R, cs, Q) cc (kgl G n S) lv (.int i :: .ref (kg_ad G (kbo o + 6)) :: st) pc := kl_int pc' hd hO hc hi hx hp (fun h => absurd h.2 (by decide)) rfl rfl rfl kk
theorem rs4_7 {i x : Int32} {S' : kS} (pc' : Nat) (hd : decode cc pc = .ok (.iastore, 1)) (hO : kOk G n o) (hc : kci o = 4) (hi : kin i 84 = true) (hx : kpA S o 7 i x = S') (hp : pc + 1 = pc') (kk : kV (X, own, nL, ret, G, R, cs, Q) cc (kgl G n S') lv st pc') : kV (X, own, nL, ret, G, R, cs, Q) cc (kgl G n S) lv (.int x :: .int i :: .ref (kg_ad G (kbo o + 6)) :: st) pc := ks_int pc' hd hO hc hi hx hp (fun h => absurd h.2 (by decide)) rfl rfl rfl kk
theorem ra4_7 {v : Int32} (pc' : Nat) (hd : decode cc pc = .ok (.arraylength, 1)) (hO : kOk G n o) (hc : kci o = 4) (hv : Int32.ofNat 84 = v) (hp : pc + 1 = pc') (kk : kV (X, own, nL, ret, G, R, cs, Q) cc (kgl G n S) lv (.int v :: st) pc') : kV (X, own, nL, ret, G, R, cs, Q) cc (kgl G n S) lv (.ref (kg_ad G (kbo o + 6)) :: st) pc := ka_int (k := 7) pc' hd hO hc hv hp (fun h => absurd h.2 (by decide)) rfl rfl rfl kk
theorem rl5_3 {i x : Int32} (pc' : Nat) (hd : decode cc pc = .ok (.iaload, 1)) (hO : kOk G n o) (hc : kci o = 5) (hi : kin i 3 = true) (hx : kA S o 3 i = x) (hp : pc + 1 = pc') (kk : kV (X, own, nL, ret, G, R, cs, Q) cc (kgl G n S) lv (.int x :: st) pc') : kV (X, own, nL, ret, G, R, cs, Q) cc (kgl G n S) lv (.int i :: .ref (kg_ad G (kbo o + 9)) :: st) pc := kl_int pc' hd hO hc hi hx hp (fun h => absurd h.2 (by decide)) rfl rfl rfl kk
theorem rs5_3 {i x : Int32} {S' : kS} (pc' : Nat) (hd : decode cc pc = .ok (.iastore, 1)) (hO : kOk G n o) (hc : kci o = 5) (hi : kin i 3 = true) (hx : kpA S o 3 i x = S') (hp : pc + 1 = pc') (kk : kV (X, own, nL, ret, G, R, cs, Q) cc (kgl G n S') lv st pc') : kV (X, own, nL, ret, G, R, cs, Q) cc (kgl G n S) lv (.int x :: .int i :: .ref (kg_ad G (kbo o + 9)) :: st) pc := ks_int pc' hd hO hc hi hx hp (fun h => absurd h.2 (by decide)) rfl rfl rfl kk
theorem ra5_3 {v : Int32} (pc' : Nat) (hd : decode cc pc = .ok (.arraylength, 1)) (hO : kOk G n o) (hc : kci o = 5) (hv : Int32.ofNat 3 = v) (hp : pc + 1 = pc') (kk : kV (X, own, nL, ret, G, R, cs, Q) cc (kgl G n S) lv (.int v :: st) pc') : kV (X, own, nL, ret, G, R, cs, Q) cc (kgl G n S) lv (.ref (kg_ad G (kbo o + 9)) :: st) pc := ka_int (k := 3) pc' hd hO hc hv hp (fun h => absurd h.2 (by decide)) rfl rfl rfl kk
theorem rl5_5 {i x : Int32} (pc' : Nat) (hd : decode cc pc = .ok (.iaload, 1)) (hO : kOk G n o) (hc : kci o = 5) (hi : kin i 8 = true) (hx : kA S o 5 i = x) (hp : pc + 1 = pc') (kk : kV (X, own, nL, ret, G, R, cs, Q) cc (kgl G n S) lv (.int x :: st) pc') : kV (X, own, nL, ret, G, R, cs, Q) cc (kgl G n S) lv (.int i :: .ref (kg_ad G (kbo o + 10)) :: st) pc := kl_int pc' hd hO hc hi hx hp (fun h => absurd h.2 (by decide)) rfl rfl rfl kk
theorem rs5_5 {i x : Int32} {S' : kS} (pc' : Nat) (hd : decode cc pc = .ok (.iastore, 1)) (hO : kOk G n o) (hc : kci o = 5) (hi : kin i 8 = true) (hx : kpA S o 5 i x = S') (hp : pc + 1 = pc') (kk : kV (X, own, nL, ret, G, R, cs, Q) cc (kgl G n S') lv st pc') : kV (X, own, nL, ret, G, R, cs, Q) cc (kgl G n S) lv (.int x :: .int i :: .ref (kg_ad G (kbo o + 10)) :: st) pc := ks_int pc' hd hO hc hi hx hp (fun h => absurd h.2 (by decide)) rfl rfl rfl kk
theorem ra5_5 {v : Int32} (pc' : Nat) (hd : decode cc pc = .ok (.arraylength, 1)) (hO : kOk G n o) (hc : kci o = 5) (hv : Int32.ofNat 8 = v) (hp : pc + 1 = pc') (kk : kV (X, own, nL, ret, G, R, cs, Q) cc (kgl G n S) lv (.int v :: st) pc') : kV (X, own, nL, ret, G, R, cs, Q) cc (kgl G n S) lv (.ref (kg_ad G (kbo o + 10)) :: st) pc := ka_int (k := 5) pc' hd hO hc hv hp (fun h => absurd h.2 (by decide)) rfl rfl rfl kk
theorem rl6_2 {i x : Int32} (pc' : Nat) (hd : decode cc pc = .ok (.iaload, 1)) (hO : kOk G n o) (hc : kci o = 6) (hi : kin i 3 = true) (hx : kA S o 2 i = x) (hp : pc + 1 = pc') (kk : kV (X, own, nL, ret, G, R, cs, Q) cc (kgl G n S) lv (.int x :: st) pc') : kV (X, own, nL, ret, G, R, cs, Q) cc (kgl G n S) lv (.int i :: .ref (kg_ad G (kbo o + 1)) :: st) pc := kl_int pc' hd hO hc hi hx hp (fun h => absurd h.2 (by decide)) rfl rfl rfl kk
theorem rs6_2 {i x : Int32} {S' : kS} (pc' : Nat) (hd : decode cc pc = .ok (.iastore, 1)) (hO : kOk G n o) (hc : kci o = 6) (hi : kin i 3 = true) (hx : kpA S o 2 i x = S') (hp : pc + 1 = pc') (kk : kV (X, own, nL, ret, G, R, cs, Q) cc (kgl G n S') lv st pc') : kV (X, own, nL, ret, G, R, cs, Q) cc (kgl G n S) lv (.int x :: .int i :: .ref (kg_ad G (kbo o + 1)) :: st) pc := ks_int pc' hd hO hc hi hx hp (fun h => absurd h.2 (by decide)) rfl rfl rfl kk
theorem ra6_2 {v : Int32} (pc' : Nat) (hd : decode cc pc = .ok (.arraylength, 1)) (hO : kOk G n o) (hc : kci o = 6) (hv : Int32.ofNat 3 = v) (hp : pc + 1 = pc') (kk : kV (X, own, nL, ret, G, R, cs, Q) cc (kgl G n S) lv (.int v :: st) pc') : kV (X, own, nL, ret, G, R, cs, Q) cc (kgl G n S) lv (.ref (kg_ad G (kbo o + 1)) :: st) pc := ka_int (k := 2) pc' hd hO hc hv hp (fun h => absurd h.2 (by decide)) rfl rfl rfl kk
theorem rl6_3 {i x : Int32} (pc' : Nat) (hd : decode cc pc = .ok (.iaload, 1)) (hO : kOk G n o) (hc : kci o = 6) (hi : kin i 15 = true) (hx : kA S o 3 i = x) (hp : pc + 1 = pc') (kk : kV (X, own, nL, ret, G, R, cs, Q) cc (kgl G n S) lv (.int x :: st) pc') : kV (X, own, nL, ret, G, R, cs, Q) cc (kgl G n S) lv (.int i :: .ref (kg_ad G (kbo o + 2)) :: st) pc := kl_int pc' hd hO hc hi hx hp (fun h => absurd h.2 (by decide)) rfl rfl rfl kk
theorem rs6_3 {i x : Int32} {S' : kS} (pc' : Nat) (hd : decode cc pc = .ok (.iastore, 1)) (hO : kOk G n o) (hc : kci o = 6) (hi : kin i 15 = true) (hx : kpA S o 3 i x = S') (hp : pc + 1 = pc') (kk : kV (X, own, nL, ret, G, R, cs, Q) cc (kgl G n S') lv st pc') : kV (X, own, nL, ret, G, R, cs, Q) cc (kgl G n S) lv (.int x :: .int i :: .ref (kg_ad G (kbo o + 2)) :: st) pc := ks_int pc' hd hO hc hi hx hp (fun h => absurd h.2 (by decide)) rfl rfl rfl kk
theorem ra6_3 {v : Int32} (pc' : Nat) (hd : decode cc pc = .ok (.arraylength, 1)) (hO : kOk G n o) (hc : kci o = 6) (hv : Int32.ofNat 15 = v) (hp : pc + 1 = pc') (kk : kV (X, own, nL, ret, G, R, cs, Q) cc (kgl G n S) lv (.int v :: st) pc') : kV (X, own, nL, ret, G, R, cs, Q) cc (kgl G n S) lv (.ref (kg_ad G (kbo o + 2)) :: st) pc := ka_int (k := 3) pc' hd hO hc hv hp (fun h => absurd h.2 (by decide)) rfl rfl rfl kk
theorem rl6_4 {i x : Int32} (pc' : Nat) (hd : decode cc pc = .ok (.iaload, 1)) (hO : kOk G n o) (hc : kci o = 6) (hi : kin i 15 = true) (hx : kA S o 4 i = x) (hp : pc + 1 = pc') (kk : kV (X, own, nL, ret, G, R, cs, Q) cc (kgl G n S) lv (.int x :: st) pc') : kV (X, own, nL, ret, G, R, cs, Q) cc (kgl G n S) lv (.int i :: .ref (kg_ad G (kbo o + 3)) :: st) pc := kl_int pc' hd hO hc hi hx hp (fun h => absurd h.2 (by decide)) rfl rfl rfl kk
theorem rs6_4 {i x : Int32} {S' : kS} (pc' : Nat) (hd : decode cc pc = .ok (.iastore, 1)) (hO : kOk G n o) (hc : kci o = 6) (hi : kin i 15 = true) (hx : kpA S o 4 i x = S') (hp : pc + 1 = pc') (kk : kV (X, own, nL, ret, G, R, cs, Q) cc (kgl G n S') lv st pc') : kV (X, own, nL, ret, G, R, cs, Q) cc (kgl G n S) lv (.int x :: .int i :: .ref (kg_ad G (kbo o + 3)) :: st) pc := ks_int pc' hd hO hc hi hx hp (fun h => absurd h.2 (by decide)) rfl rfl rfl kk
theorem ra6_4 {v : Int32} (pc' : Nat) (hd : decode cc pc = .ok (.arraylength, 1)) (hO : kOk G n o) (hc : kci o = 6) (hv : Int32.ofNat 15 = v) (hp : pc + 1 = pc') (kk : kV (X, own, nL, ret, G, R, cs, Q) cc (kgl G n S) lv (.int v :: st) pc') : kV (X, own, nL, ret, G, R, cs, Q) cc (kgl G n S) lv (.ref (kg_ad G (kbo o + 3)) :: st) pc := ka_int (k := 4) pc' hd hO hc hv hp (fun h => absurd h.2 (by decide)) rfl rfl rfl kk
theorem rl6_5 {i x : Int32} (pc' : Nat) (hd : decode cc pc = .ok (.iaload, 1)) (hO : kOk G n o) (hc : kci o = 6) (hi : kin i 15 = true) (hx : kA S o 5 i = x) (hp : pc + 1 = pc') (kk : kV (X, own, nL, ret, G, R, cs, Q) cc (kgl G n S) lv (.int x :: st) pc') : kV (X, own, nL, ret, G, R, cs, Q) cc (kgl G n S) lv (.int i :: .ref (kg_ad G (kbo o + 4)) :: st) pc := kl_int pc' hd hO hc hi hx hp (fun h => absurd h.2 (by decide)) rfl rfl rfl kk
theorem rs6_5 {i x : Int32} {S' : kS} (pc' : Nat) (hd : decode cc pc = .ok (.iastore, 1)) (hO : kOk G n o) (hc : kci o = 6) (hi : kin i 15 = true) (hx : kpA S o 5 i x = S') (hp : pc + 1 = pc') (kk : kV (X, own, nL, ret, G, R, cs, Q) cc (kgl G n S') lv st pc') : kV (X, own, nL, ret, G, R, cs, Q) cc (kgl G n S) lv (.int x :: .int i :: .ref (kg_ad G (kbo o + 4)) :: st) pc := ks_int pc' hd hO hc hi hx hp (fun h => absurd h.2 (by decide)) rfl rfl rfl kk
theorem ra6_5 {v : Int32} (pc' : Nat) (hd : decode cc pc = .ok (.arraylength, 1)) (hO : kOk G n o) (hc : kci o = 6) (hv : Int32.ofNat 15 = v) (hp : pc + 1 = pc') (kk : kV (X, own, nL, ret, G, R, cs, Q) cc (kgl G n S) lv (.int v :: st) pc') : kV (X, own, nL, ret, G, R, cs, Q) cc (kgl G n S) lv (.ref (kg_ad G (kbo o + 4)) :: st) pc := ka_int (k := 5) pc' hd hO hc hv hp (fun h => absurd h.2 (by decide)) rfl rfl rfl kk
theorem rl6_6 {i x : Int32} (pc' : Nat) (hd : decode cc pc = .ok (.iaload, 1)) (hO : kOk G n o) (hc : kci o = 6) (hi : kin i 15 = true) (hx : kA S o 6 i = x) (hp : pc + 1 = pc') (kk : kV (X, own, nL, ret, G, R, cs, Q) cc (kgl G n S) lv (.int x :: st) pc') : kV (X, own, nL, ret, G, R, cs, Q) cc (kgl G n S) lv (.int i :: .ref (kg_ad G (kbo o + 5)) :: st) pc := kl_int pc' hd hO hc hi hx hp (fun h => absurd h.2 (by decide)) rfl rfl rfl kk
theorem rs6_6 {i x : Int32} {S' : kS} (pc' : Nat) (hd : decode cc pc = .ok (.iastore, 1)) (hO : kOk G n o) (hc : kci o = 6) (hi : kin i 15 = true) (hx : kpA S o 6 i x = S') (hp : pc + 1 = pc') (kk : kV (X, own, nL, ret, G, R, cs, Q) cc (kgl G n S') lv st pc') : kV (X, own, nL, ret, G, R, cs, Q) cc (kgl G n S) lv (.int x :: .int i :: .ref (kg_ad G (kbo o + 5)) :: st) pc := ks_int pc' hd hO hc hi hx hp (fun h => absurd h.2 (by decide)) rfl rfl rfl kk
theorem ra6_6 {v : Int32} (pc' : Nat) (hd : decode cc pc = .ok (.arraylength, 1)) (hO : kOk G n o) (hc : kci o = 6) (hv : Int32.ofNat 15 = v) (hp : pc + 1 = pc') (kk : kV (X, own, nL, ret, G, R, cs, Q) cc (kgl G n S) lv (.int v :: st) pc') : kV (X, own, nL, ret, G, R, cs, Q) cc (kgl G n S) lv (.ref (kg_ad G (kbo o + 5)) :: st) pc := ka_int (k := 6) pc' hd hO hc hv hp (fun h => absurd h.2 (by decide)) rfl rfl rfl kk
theorem rl6_7 {i x : Int32} (pc' : Nat) (hd : decode cc pc = .ok (.iaload, 1)) (hO : kOk G n o) (hc : kci o = 6) (hi : kin i 15 = true) (hx : kA S o 7 i = x) (hp : pc + 1 = pc') (kk : kV (X, own, nL, ret, G, R, cs, Q) cc (kgl G n S) lv (.int x :: st) pc') : kV (X, own, nL, ret, G, R, cs, Q) cc (kgl G n S) lv (.int i :: .ref (kg_ad G (kbo o + 6)) :: st) pc := kl_int pc' hd hO hc hi hx hp (fun h => absurd h.2 (by decide)) rfl rfl rfl kk
theorem rs6_7 {i x : Int32} {S' : kS} (pc' : Nat) (hd : decode cc pc = .ok (.iastore, 1)) (hO : kOk G n o) (hc : kci o = 6) (hi : kin i 15 = true) (hx : kpA S o 7 i x = S') (hp : pc + 1 = pc') (kk : kV (X, own, nL, ret, G, R, cs, Q) cc (kgl G n S') lv st pc') : kV (X, own, nL, ret, G, R, cs, Q) cc (kgl G n S) lv (.int x :: .int i :: .ref (kg_ad G (kbo o + 6)) :: st) pc := ks_int pc' hd hO hc hi hx hp (fun h => absurd h.2 (by decide)) rfl rfl rfl kk
theorem ra6_7 {v : Int32} (pc' : Nat) (hd : decode cc pc = .ok (.arraylength, 1)) (hO : kOk G n o) (hc : kci o = 6) (hv : Int32.ofNat 15 = v) (hp : pc + 1 = pc') (kk : kV (X, own, nL, ret, G, R, cs, Q) cc (kgl G n S) lv (.int v :: st) pc') : kV (X, own, nL, ret, G, R, cs, Q) cc (kgl G n S) lv (.ref (kg_ad G (kbo o + 6)) :: st) pc := ka_int (k := 7) pc' hd hO hc hv hp (fun h => absurd h.2 (by decide)) rfl rfl rfl kk
theorem rl6_8 {i x : Int32} (pc' : Nat) (hd : decode cc pc = .ok (.baload, 1)) (hO : kOk G n o) (hc : kci o = 6) (hi : kin i 15 = true) (hx : kA S o 8 i = x) (hp : pc + 1 = pc') (kk : kV (X, own, nL, ret, G, R, cs, Q) cc (kgl G n S) lv (.int x :: st) pc') : kV (X, own, nL, ret, G, R, cs, Q) cc (kgl G n S) lv (.int i :: .ref (kg_ad G (kbo o + 7)) :: st) pc := kl_boo pc' hd hO hc hi hx hp (fun h => absurd h.2 (by decide)) rfl rfl rfl kk
theorem rs6_8 {i x : Int32} {S' : kS} (pc' : Nat) (hd : decode cc pc = .ok (.bastore, 1)) (hO : kOk G n o) (hc : kci o = 6) (hi : kin i 15 = true) (hx : kpA S o 8 i (x &&& 1) = S') (hp : pc + 1 = pc') (kk : kV (X, own, nL, ret, G, R, cs, Q) cc (kgl G n S') lv st pc') : kV (X, own, nL, ret, G, R, cs, Q) cc (kgl G n S) lv (.int x :: .int i :: .ref (kg_ad G (kbo o + 7)) :: st) pc := ks_boo pc' hd hO hc hi hx hp (fun h => absurd h.2 (by decide)) rfl rfl rfl kk
theorem rl6_9 {i x : Int32} (pc' : Nat) (hd : decode cc pc = .ok (.iaload, 1)) (hO : kOk G n o) (hc : kci o = 6) (hi : kin i 3 = true) (hx : kA S o 9 i = x) (hp : pc + 1 = pc') (kk : kV (X, own, nL, ret, G, R, cs, Q) cc (kgl G n S) lv (.int x :: st) pc') : kV (X, own, nL, ret, G, R, cs, Q) cc (kgl G n S) lv (.int i :: .ref (kg_ad G (kbo o + 8)) :: st) pc := kl_int pc' hd hO hc hi hx hp (fun h => absurd h.2 (by decide)) rfl rfl rfl kk
theorem rs6_9 {i x : Int32} {S' : kS} (pc' : Nat) (hd : decode cc pc = .ok (.iastore, 1)) (hO : kOk G n o) (hc : kci o = 6) (hi : kin i 3 = true) (hx : kpA S o 9 i x = S') (hp : pc + 1 = pc') (kk : kV (X, own, nL, ret, G, R, cs, Q) cc (kgl G n S') lv st pc') : kV (X, own, nL, ret, G, R, cs, Q) cc (kgl G n S) lv (.int x :: .int i :: .ref (kg_ad G (kbo o + 8)) :: st) pc := ks_int pc' hd hO hc hi hx hp (fun h => absurd h.2 (by decide)) rfl rfl rfl kk
theorem ra6_9 {v : Int32} (pc' : Nat) (hd : decode cc pc = .ok (.arraylength, 1)) (hO : kOk G n o) (hc : kci o = 6) (hv : Int32.ofNat 3 = v) (hp : pc + 1 = pc') (kk : kV (X, own, nL, ret, G, R, cs, Q) cc (kgl G n S) lv (.int v :: st) pc') : kV (X, own, nL, ret, G, R, cs, Q) cc (kgl G n S) lv (.ref (kg_ad G (kbo o + 8)) :: st) pc := ka_int (k := 9) pc' hd hO hc hv hp (fun h => absurd h.2 (by decide)) rfl rfl rfl kk
theorem rl6_10 {i x : Int32} (pc' : Nat) (hd : decode cc pc = .ok (.baload, 1)) (hO : kOk G n o) (hc : kci o = 6) (hi : kin i 18 = true) (hx : kA S o 10 i = x) (hp : pc + 1 = pc') (kk : kV (X, own, nL, ret, G, R, cs, Q) cc (kgl G n S) lv (.int x :: st) pc') : kV (X, own, nL, ret, G, R, cs, Q) cc (kgl G n S) lv (.int i :: .ref (kg_ad G (kbo o + 9)) :: st) pc := kl_boo pc' hd hO hc hi hx hp (fun h => absurd h.2 (by decide)) rfl rfl rfl kk
theorem rs6_10 {i x : Int32} {S' : kS} (pc' : Nat) (hd : decode cc pc = .ok (.bastore, 1)) (hO : kOk G n o) (hc : kci o = 6) (hi : kin i 18 = true) (hx : kpA S o 10 i (x &&& 1) = S') (hp : pc + 1 = pc') (kk : kV (X, own, nL, ret, G, R, cs, Q) cc (kgl G n S') lv st pc') : kV (X, own, nL, ret, G, R, cs, Q) cc (kgl G n S) lv (.int x :: .int i :: .ref (kg_ad G (kbo o + 9)) :: st) pc := ks_boo pc' hd hO hc hi hx hp (fun h => absurd h.2 (by decide)) rfl rfl rfl kk
theorem rl6_11 {i x : Int32} (pc' : Nat) (hd : decode cc pc = .ok (.iaload, 1)) (hO : kOk G n o) (hc : kci o = 6) (hi : kin i 18 = true) (hx : kA S o 11 i = x) (hp : pc + 1 = pc') (kk : kV (X, own, nL, ret, G, R, cs, Q) cc (kgl G n S) lv (.int x :: st) pc') : kV (X, own, nL, ret, G, R, cs, Q) cc (kgl G n S) lv (.int i :: .ref (kg_ad G (kbo o + 10)) :: st) pc := kl_int pc' hd hO hc hi hx hp (fun h => absurd h.2 (by decide)) rfl rfl rfl kk
theorem rs6_11 {i x : Int32} {S' : kS} (pc' : Nat) (hd : decode cc pc = .ok (.iastore, 1)) (hO : kOk G n o) (hc : kci o = 6) (hi : kin i 18 = true) (hx : kpA S o 11 i x = S') (hp : pc + 1 = pc') (kk : kV (X, own, nL, ret, G, R, cs, Q) cc (kgl G n S') lv st pc') : kV (X, own, nL, ret, G, R, cs, Q) cc (kgl G n S) lv (.int x :: .int i :: .ref (kg_ad G (kbo o + 10)) :: st) pc := ks_int pc' hd hO hc hi hx hp (fun h => absurd h.2 (by decide)) rfl rfl rfl kk
theorem ra6_11 {v : Int32} (pc' : Nat) (hd : decode cc pc = .ok (.arraylength, 1)) (hO : kOk G n o) (hc : kci o = 6) (hv : Int32.ofNat 18 = v) (hp : pc + 1 = pc') (kk : kV (X, own, nL, ret, G, R, cs, Q) cc (kgl G n S) lv (.int v :: st) pc') : kV (X, own, nL, ret, G, R, cs, Q) cc (kgl G n S) lv (.ref (kg_ad G (kbo o + 10)) :: st) pc := ka_int (k := 11) pc' hd hO hc hv hp (fun h => absurd h.2 (by decide)) rfl rfl rfl kk
theorem rl6_12 {i x : Int32} (pc' : Nat) (hd : decode cc pc = .ok (.iaload, 1)) (hO : kOk G n o) (hc : kci o = 6) (hi : kin i 18 = true) (hx : kA S o 12 i = x) (hp : pc + 1 = pc') (kk : kV (X, own, nL, ret, G, R, cs, Q) cc (kgl G n S) lv (.int x :: st) pc') : kV (X, own, nL, ret, G, R, cs, Q) cc (kgl G n S) lv (.int i :: .ref (kg_ad G (kbo o + 11)) :: st) pc := kl_int pc' hd hO hc hi hx hp (fun h => absurd h.2 (by decide)) rfl rfl rfl kk
theorem rs6_12 {i x : Int32} {S' : kS} (pc' : Nat) (hd : decode cc pc = .ok (.iastore, 1)) (hO : kOk G n o) (hc : kci o = 6) (hi : kin i 18 = true) (hx : kpA S o 12 i x = S') (hp : pc + 1 = pc') (kk : kV (X, own, nL, ret, G, R, cs, Q) cc (kgl G n S') lv st pc') : kV (X, own, nL, ret, G, R, cs, Q) cc (kgl G n S) lv (.int x :: .int i :: .ref (kg_ad G (kbo o + 11)) :: st) pc := ks_int pc' hd hO hc hi hx hp (fun h => absurd h.2 (by decide)) rfl rfl rfl kk
theorem ra6_12 {v : Int32} (pc' : Nat) (hd : decode cc pc = .ok (.arraylength, 1)) (hO : kOk G n o) (hc : kci o = 6) (hv : Int32.ofNat 18 = v) (hp : pc + 1 = pc') (kk : kV (X, own, nL, ret, G, R, cs, Q) cc (kgl G n S) lv (.int v :: st) pc') : kV (X, own, nL, ret, G, R, cs, Q) cc (kgl G n S) lv (.ref (kg_ad G (kbo o + 11)) :: st) pc := ka_int (k := 12) pc' hd hO hc hv hp (fun h => absurd h.2 (by decide)) rfl rfl rfl kk
theorem rl6_13 {i x : Int32} (pc' : Nat) (hd : decode cc pc = .ok (.iaload, 1)) (hO : kOk G n o) (hc : kci o = 6) (hi : kin i 18 = true) (hx : kA S o 13 i = x) (hp : pc + 1 = pc') (kk : kV (X, own, nL, ret, G, R, cs, Q) cc (kgl G n S) lv (.int x :: st) pc') : kV (X, own, nL, ret, G, R, cs, Q) cc (kgl G n S) lv (.int i :: .ref (kg_ad G (kbo o + 12)) :: st) pc := kl_int pc' hd hO hc hi hx hp (fun h => absurd h.2 (by decide)) rfl rfl rfl kk
theorem rs6_13 {i x : Int32} {S' : kS} (pc' : Nat) (hd : decode cc pc = .ok (.iastore, 1)) (hO : kOk G n o) (hc : kci o = 6) (hi : kin i 18 = true) (hx : kpA S o 13 i x = S') (hp : pc + 1 = pc') (kk : kV (X, own, nL, ret, G, R, cs, Q) cc (kgl G n S') lv st pc') : kV (X, own, nL, ret, G, R, cs, Q) cc (kgl G n S) lv (.int x :: .int i :: .ref (kg_ad G (kbo o + 12)) :: st) pc := ks_int pc' hd hO hc hi hx hp (fun h => absurd h.2 (by decide)) rfl rfl rfl kk
theorem ra6_13 {v : Int32} (pc' : Nat) (hd : decode cc pc = .ok (.arraylength, 1)) (hO : kOk G n o) (hc : kci o = 6) (hv : Int32.ofNat 18 = v) (hp : pc + 1 = pc') (kk : kV (X, own, nL, ret, G, R, cs, Q) cc (kgl G n S) lv (.int v :: st) pc') : kV (X, own, nL, ret, G, R, cs, Q) cc (kgl G n S) lv (.ref (kg_ad G (kbo o + 12)) :: st) pc := ka_int (k := 13) pc' hd hO hc hv hp (fun h => absurd h.2 (by decide)) rfl rfl rfl kk
theorem rl6_14 {i x : Int32} (pc' : Nat) (hd : decode cc pc = .ok (.iaload, 1)) (hO : kOk G n o) (hc : kci o = 6) (hi : kin i 18 = true) (hx : kA S o 14 i = x) (hp : pc + 1 = pc') (kk : kV (X, own, nL, ret, G, R, cs, Q) cc (kgl G n S) lv (.int x :: st) pc') : kV (X, own, nL, ret, G, R, cs, Q) cc (kgl G n S) lv (.int i :: .ref (kg_ad G (kbo o + 13)) :: st) pc := kl_int pc' hd hO hc hi hx hp (fun h => absurd h.2 (by decide)) rfl rfl rfl kk
theorem rs6_14 {i x : Int32} {S' : kS} (pc' : Nat) (hd : decode cc pc = .ok (.iastore, 1)) (hO : kOk G n o) (hc : kci o = 6) (hi : kin i 18 = true) (hx : kpA S o 14 i x = S') (hp : pc + 1 = pc') (kk : kV (X, own, nL, ret, G, R, cs, Q) cc (kgl G n S') lv st pc') : kV (X, own, nL, ret, G, R, cs, Q) cc (kgl G n S) lv (.int x :: .int i :: .ref (kg_ad G (kbo o + 13)) :: st) pc := ks_int pc' hd hO hc hi hx hp (fun h => absurd h.2 (by decide)) rfl rfl rfl kk
theorem ra6_14 {v : Int32} (pc' : Nat) (hd : decode cc pc = .ok (.arraylength, 1)) (hO : kOk G n o) (hc : kci o = 6) (hv : Int32.ofNat 18 = v) (hp : pc + 1 = pc') (kk : kV (X, own, nL, ret, G, R, cs, Q) cc (kgl G n S) lv (.int v :: st) pc') : kV (X, own, nL, ret, G, R, cs, Q) cc (kgl G n S) lv (.ref (kg_ad G (kbo o + 13)) :: st) pc := ka_int (k := 14) pc' hd hO hc hv hp (fun h => absurd h.2 (by decide)) rfl rfl rfl kk
theorem rl6_15 {i x : Int32} (pc' : Nat) (hd : decode cc pc = .ok (.iaload, 1)) (hO : kOk G n o) (hc : kci o = 6) (hi : kin i 192 = true) (hx : kA S o 15 i = x) (hp : pc + 1 = pc') (kk : kV (X, own, nL, ret, G, R, cs, Q) cc (kgl G n S) lv (.int x :: st) pc') : kV (X, own, nL, ret, G, R, cs, Q) cc (kgl G n S) lv (.int i :: .ref (kg_ad G (kbo o + 14)) :: st) pc := kl_int pc' hd hO hc hi hx hp (fun h => absurd h.2 (by decide)) rfl rfl rfl kk
theorem rs6_15 {i x : Int32} {S' : kS} (pc' : Nat) (hd : decode cc pc = .ok (.iastore, 1)) (hO : kOk G n o) (hc : kci o = 6) (hi : kin i 192 = true) (hx : kpA S o 15 i x = S') (hp : pc + 1 = pc') (kk : kV (X, own, nL, ret, G, R, cs, Q) cc (kgl G n S') lv st pc') : kV (X, own, nL, ret, G, R, cs, Q) cc (kgl G n S) lv (.int x :: .int i :: .ref (kg_ad G (kbo o + 14)) :: st) pc := ks_int pc' hd hO hc hi hx hp (fun h => absurd h.2 (by decide)) rfl rfl rfl kk
theorem ra6_15 {v : Int32} (pc' : Nat) (hd : decode cc pc = .ok (.arraylength, 1)) (hO : kOk G n o) (hc : kci o = 6) (hv : Int32.ofNat 192 = v) (hp : pc + 1 = pc') (kk : kV (X, own, nL, ret, G, R, cs, Q) cc (kgl G n S) lv (.int v :: st) pc') : kV (X, own, nL, ret, G, R, cs, Q) cc (kgl G n S) lv (.ref (kg_ad G (kbo o + 14)) :: st) pc := ka_int (k := 15) pc' hd hO hc hv hp (fun h => absurd h.2 (by decide)) rfl rfl rfl kk
theorem rl6_17 {i x : Int32} (pc' : Nat) (hd : decode cc pc = .ok (.iaload, 1)) (hO : kOk G n o) (hc : kci o = 6) (hi : kin i 20 = true) (hx : kA S o 17 i = x) (hp : pc + 1 = pc') (kk : kV (X, own, nL, ret, G, R, cs, Q) cc (kgl G n S) lv (.int x :: st) pc') : kV (X, own, nL, ret, G, R, cs, Q) cc (kgl G n S) lv (.int i :: .ref (kg_ad G (kbo o + 15)) :: st) pc := kl_int pc' hd hO hc hi hx hp (fun h => absurd h.2 (by decide)) rfl rfl rfl kk
theorem rs6_17 {i x : Int32} {S' : kS} (pc' : Nat) (hd : decode cc pc = .ok (.iastore, 1)) (hO : kOk G n o) (hc : kci o = 6) (hi : kin i 20 = true) (hx : kpA S o 17 i x = S') (hp : pc + 1 = pc') (kk : kV (X, own, nL, ret, G, R, cs, Q) cc (kgl G n S') lv st pc') : kV (X, own, nL, ret, G, R, cs, Q) cc (kgl G n S) lv (.int x :: .int i :: .ref (kg_ad G (kbo o + 15)) :: st) pc := ks_int pc' hd hO hc hi hx hp (fun h => absurd h.2 (by decide)) rfl rfl rfl kk
theorem ra6_17 {v : Int32} (pc' : Nat) (hd : decode cc pc = .ok (.arraylength, 1)) (hO : kOk G n o) (hc : kci o = 6) (hv : Int32.ofNat 20 = v) (hp : pc + 1 = pc') (kk : kV (X, own, nL, ret, G, R, cs, Q) cc (kgl G n S) lv (.int v :: st) pc') : kV (X, own, nL, ret, G, R, cs, Q) cc (kgl G n S) lv (.ref (kg_ad G (kbo o + 15)) :: st) pc := ka_int (k := 17) pc' hd hO hc hv hp (fun h => absurd h.2 (by decide)) rfl rfl rfl kk
theorem rl6_18 {i x : Int32} (pc' : Nat) (hd : decode cc pc = .ok (.iaload, 1)) (hO : kOk G n o) (hc : kci o = 6) (hi : kin i 20 = true) (hx : kA S o 18 i = x) (hp : pc + 1 = pc') (kk : kV (X, own, nL, ret, G, R, cs, Q) cc (kgl G n S) lv (.int x :: st) pc') : kV (X, own, nL, ret, G, R, cs, Q) cc (kgl G n S) lv (.int i :: .ref (kg_ad G (kbo o + 16)) :: st) pc := kl_int pc' hd hO hc hi hx hp (fun h => absurd h.2 (by decide)) rfl rfl rfl kk
theorem rs6_18 {i x : Int32} {S' : kS} (pc' : Nat) (hd : decode cc pc = .ok (.iastore, 1)) (hO : kOk G n o) (hc : kci o = 6) (hi : kin i 20 = true) (hx : kpA S o 18 i x = S') (hp : pc + 1 = pc') (kk : kV (X, own, nL, ret, G, R, cs, Q) cc (kgl G n S') lv st pc') : kV (X, own, nL, ret, G, R, cs, Q) cc (kgl G n S) lv (.int x :: .int i :: .ref (kg_ad G (kbo o + 16)) :: st) pc := ks_int pc' hd hO hc hi hx hp (fun h => absurd h.2 (by decide)) rfl rfl rfl kk
theorem ra6_18 {v : Int32} (pc' : Nat) (hd : decode cc pc = .ok (.arraylength, 1)) (hO : kOk G n o) (hc : kci o = 6) (hv : Int32.ofNat 20 = v) (hp : pc + 1 = pc') (kk : kV (X, own, nL, ret, G, R, cs, Q) cc (kgl G n S) lv (.int v :: st) pc') : kV (X, own, nL, ret, G, R, cs, Q) cc (kgl G n S) lv (.ref (kg_ad G (kbo o + 16)) :: st) pc := ka_int (k := 18) pc' hd hO hc hv hp (fun h => absurd h.2 (by decide)) rfl rfl rfl kk
theorem rl6_19 {i x : Int32} (pc' : Nat) (hd : decode cc pc = .ok (.iaload, 1)) (hO : kOk G n o) (hc : kci o = 6) (hi : kin i 20 = true) (hx : kA S o 19 i = x) (hp : pc + 1 = pc') (kk : kV (X, own, nL, ret, G, R, cs, Q) cc (kgl G n S) lv (.int x :: st) pc') : kV (X, own, nL, ret, G, R, cs, Q) cc (kgl G n S) lv (.int i :: .ref (kg_ad G (kbo o + 17)) :: st) pc := kl_int pc' hd hO hc hi hx hp (fun h => absurd h.2 (by decide)) rfl rfl rfl kk
theorem rs6_19 {i x : Int32} {S' : kS} (pc' : Nat) (hd : decode cc pc = .ok (.iastore, 1)) (hO : kOk G n o) (hc : kci o = 6) (hi : kin i 20 = true) (hx : kpA S o 19 i x = S') (hp : pc + 1 = pc') (kk : kV (X, own, nL, ret, G, R, cs, Q) cc (kgl G n S') lv st pc') : kV (X, own, nL, ret, G, R, cs, Q) cc (kgl G n S) lv (.int x :: .int i :: .ref (kg_ad G (kbo o + 17)) :: st) pc := ks_int pc' hd hO hc hi hx hp (fun h => absurd h.2 (by decide)) rfl rfl rfl kk
theorem ra6_19 {v : Int32} (pc' : Nat) (hd : decode cc pc = .ok (.arraylength, 1)) (hO : kOk G n o) (hc : kci o = 6) (hv : Int32.ofNat 20 = v) (hp : pc + 1 = pc') (kk : kV (X, own, nL, ret, G, R, cs, Q) cc (kgl G n S) lv (.int v :: st) pc') : kV (X, own, nL, ret, G, R, cs, Q) cc (kgl G n S) lv (.ref (kg_ad G (kbo o + 17)) :: st) pc := ka_int (k := 19) pc' hd hO hc hv hp (fun h => absurd h.2 (by decide)) rfl rfl rfl kk
theorem rl6_20 {i x : Int32} (pc' : Nat) (hd : decode cc pc = .ok (.iaload, 1)) (hO : kOk G n o) (hc : kci o = 6) (hi : kin i 20 = true) (hx : kA S o 20 i = x) (hp : pc + 1 = pc') (kk : kV (X, own, nL, ret, G, R, cs, Q) cc (kgl G n S) lv (.int x :: st) pc') : kV (X, own, nL, ret, G, R, cs, Q) cc (kgl G n S) lv (.int i :: .ref (kg_ad G (kbo o + 18)) :: st) pc := kl_int pc' hd hO hc hi hx hp (fun h => absurd h.2 (by decide)) rfl rfl rfl kk
theorem rs6_20 {i x : Int32} {S' : kS} (pc' : Nat) (hd : decode cc pc = .ok (.iastore, 1)) (hO : kOk G n o) (hc : kci o = 6) (hi : kin i 20 = true) (hx : kpA S o 20 i x = S') (hp : pc + 1 = pc') (kk : kV (X, own, nL, ret, G, R, cs, Q) cc (kgl G n S') lv st pc') : kV (X, own, nL, ret, G, R, cs, Q) cc (kgl G n S) lv (.int x :: .int i :: .ref (kg_ad G (kbo o + 18)) :: st) pc := ks_int pc' hd hO hc hi hx hp (fun h => absurd h.2 (by decide)) rfl rfl rfl kk
theorem ra6_20 {v : Int32} (pc' : Nat) (hd : decode cc pc = .ok (.arraylength, 1)) (hO : kOk G n o) (hc : kci o = 6) (hv : Int32.ofNat 20 = v) (hp : pc + 1 = pc') (kk : kV (X, own, nL, ret, G, R, cs, Q) cc (kgl G n S) lv (.int v :: st) pc') : kV (X, own, nL, ret, G, R, cs, Q) cc (kgl G n S) lv (.ref (kg_ad G (kbo o + 18)) :: st) pc := ka_int (k := 20) pc' hd hO hc hv hp (fun h => absurd h.2 (by decide)) rfl rfl rfl kk
theorem rl6_21 {i x : Int32} (pc' : Nat) (hd : decode cc pc = .ok (.iaload, 1)) (hO : kOk G n o) (hc : kci o = 6) (hi : kin i 84 = true) (hx : kA S o 21 i = x) (hp : pc + 1 = pc') (kk : kV (X, own, nL, ret, G, R, cs, Q) cc (kgl G n S) lv (.int x :: st) pc') : kV (X, own, nL, ret, G, R, cs, Q) cc (kgl G n S) lv (.int i :: .ref (kg_ad G (kbo o + 19)) :: st) pc := kl_int pc' hd hO hc hi hx hp (fun h => absurd h.2 (by decide)) rfl rfl rfl kk
theorem rs6_21 {i x : Int32} {S' : kS} (pc' : Nat) (hd : decode cc pc = .ok (.iastore, 1)) (hO : kOk G n o) (hc : kci o = 6) (hi : kin i 84 = true) (hx : kpA S o 21 i x = S') (hp : pc + 1 = pc') (kk : kV (X, own, nL, ret, G, R, cs, Q) cc (kgl G n S') lv st pc') : kV (X, own, nL, ret, G, R, cs, Q) cc (kgl G n S) lv (.int x :: .int i :: .ref (kg_ad G (kbo o + 19)) :: st) pc := ks_int pc' hd hO hc hi hx hp (fun h => absurd h.2 (by decide)) rfl rfl rfl kk
theorem ra6_21 {v : Int32} (pc' : Nat) (hd : decode cc pc = .ok (.arraylength, 1)) (hO : kOk G n o) (hc : kci o = 6) (hv : Int32.ofNat 84 = v) (hp : pc + 1 = pc') (kk : kV (X, own, nL, ret, G, R, cs, Q) cc (kgl G n S) lv (.int v :: st) pc') : kV (X, own, nL, ret, G, R, cs, Q) cc (kgl G n S) lv (.ref (kg_ad G (kbo o + 19)) :: st) pc := ka_int (k := 21) pc' hd hO hc hv hp (fun h => absurd h.2 (by decide)) rfl rfl rfl kk
theorem rl6_22 {i x : Int32} (pc' : Nat) (hd : decode cc pc = .ok (.iaload, 1)) (hO : kOk G n o) (hc : kci o = 6) (hi : kin i 84 = true) (hx : kA S o 22 i = x) (hp : pc + 1 = pc') (kk : kV (X, own, nL, ret, G, R, cs, Q) cc (kgl G n S) lv (.int x :: st) pc') : kV (X, own, nL, ret, G, R, cs, Q) cc (kgl G n S) lv (.int i :: .ref (kg_ad G (kbo o + 20)) :: st) pc := kl_int pc' hd hO hc hi hx hp (fun h => absurd h.2 (by decide)) rfl rfl rfl kk
theorem rs6_22 {i x : Int32} {S' : kS} (pc' : Nat) (hd : decode cc pc = .ok (.iastore, 1)) (hO : kOk G n o) (hc : kci o = 6) (hi : kin i 84 = true) (hx : kpA S o 22 i x = S') (hp : pc + 1 = pc') (kk : kV (X, own, nL, ret, G, R, cs, Q) cc (kgl G n S') lv st pc') : kV (X, own, nL, ret, G, R, cs, Q) cc (kgl G n S) lv (.int x :: .int i :: .ref (kg_ad G (kbo o + 20)) :: st) pc := ks_int pc' hd hO hc hi hx hp (fun h => absurd h.2 (by decide)) rfl rfl rfl kk
theorem ra6_22 {v : Int32} (pc' : Nat) (hd : decode cc pc = .ok (.arraylength, 1)) (hO : kOk G n o) (hc : kci o = 6) (hv : Int32.ofNat 84 = v) (hp : pc + 1 = pc') (kk : kV (X, own, nL, ret, G, R, cs, Q) cc (kgl G n S) lv (.int v :: st) pc') : kV (X, own, nL, ret, G, R, cs, Q) cc (kgl G n S) lv (.ref (kg_ad G (kbo o + 20)) :: st) pc := ka_int (k := 22) pc' hd hO hc hv hp (fun h => absurd h.2 (by decide)) rfl rfl rfl kk
theorem rl6_24 {i x : Int32} (pc' : Nat) (hd : decode cc pc = .ok (.iaload, 1)) (hO : kOk G n o) (hc : kci o = 6) (hi : kin i 3 = true) (hx : kA S o 24 i = x) (hp : pc + 1 = pc') (kk : kV (X, own, nL, ret, G, R, cs, Q) cc (kgl G n S) lv (.int x :: st) pc') : kV (X, own, nL, ret, G, R, cs, Q) cc (kgl G n S) lv (.int i :: .ref (kg_ad G (kbo o + 21)) :: st) pc := kl_int pc' hd hO hc hi hx hp (fun h => absurd h.2 (by decide)) rfl rfl rfl kk
theorem rs6_24 {i x : Int32} {S' : kS} (pc' : Nat) (hd : decode cc pc = .ok (.iastore, 1)) (hO : kOk G n o) (hc : kci o = 6) (hi : kin i 3 = true) (hx : kpA S o 24 i x = S') (hp : pc + 1 = pc') (kk : kV (X, own, nL, ret, G, R, cs, Q) cc (kgl G n S') lv st pc') : kV (X, own, nL, ret, G, R, cs, Q) cc (kgl G n S) lv (.int x :: .int i :: .ref (kg_ad G (kbo o + 21)) :: st) pc := ks_int pc' hd hO hc hi hx hp (fun h => absurd h.2 (by decide)) rfl rfl rfl kk
theorem ra6_24 {v : Int32} (pc' : Nat) (hd : decode cc pc = .ok (.arraylength, 1)) (hO : kOk G n o) (hc : kci o = 6) (hv : Int32.ofNat 3 = v) (hp : pc + 1 = pc') (kk : kV (X, own, nL, ret, G, R, cs, Q) cc (kgl G n S) lv (.int v :: st) pc') : kV (X, own, nL, ret, G, R, cs, Q) cc (kgl G n S) lv (.ref (kg_ad G (kbo o + 21)) :: st) pc := ka_int (k := 24) pc' hd hO hc hv hp (fun h => absurd h.2 (by decide)) rfl rfl rfl kk
theorem rl6_27 {i x : Int32} (pc' : Nat) (hd : decode cc pc = .ok (.iaload, 1)) (hO : kOk G n o) (hc : kci o = 6) (hi : kin i 150 = true) (hx : kA S o 27 i = x) (hp : pc + 1 = pc') (kk : kV (X, own, nL, ret, G, R, cs, Q) cc (kgl G n S) lv (.int x :: st) pc') : kV (X, own, nL, ret, G, R, cs, Q) cc (kgl G n S) lv (.int i :: .ref (kg_ad G (kbo o + 22)) :: st) pc := kl_int pc' hd hO hc hi hx hp (fun h => absurd h.2 (by decide)) rfl rfl rfl kk
theorem rs6_27 {i x : Int32} {S' : kS} (pc' : Nat) (hd : decode cc pc = .ok (.iastore, 1)) (hO : kOk G n o) (hc : kci o = 6) (hi : kin i 150 = true) (hx : kpA S o 27 i x = S') (hp : pc + 1 = pc') (kk : kV (X, own, nL, ret, G, R, cs, Q) cc (kgl G n S') lv st pc') : kV (X, own, nL, ret, G, R, cs, Q) cc (kgl G n S) lv (.int x :: .int i :: .ref (kg_ad G (kbo o + 22)) :: st) pc := ks_int pc' hd hO hc hi hx hp (fun h => absurd h.2 (by decide)) rfl rfl rfl kk
theorem ra6_27 {v : Int32} (pc' : Nat) (hd : decode cc pc = .ok (.arraylength, 1)) (hO : kOk G n o) (hc : kci o = 6) (hv : Int32.ofNat 150 = v) (hp : pc + 1 = pc') (kk : kV (X, own, nL, ret, G, R, cs, Q) cc (kgl G n S) lv (.int v :: st) pc') : kV (X, own, nL, ret, G, R, cs, Q) cc (kgl G n S) lv (.ref (kg_ad G (kbo o + 22)) :: st) pc := ka_int (k := 27) pc' hd hO hc hv hp (fun h => absurd h.2 (by decide)) rfl rfl rfl kk
theorem rl6_28 {i x : Int32} (pc' : Nat) (hd : decode cc pc = .ok (.baload, 1)) (hO : kOk G n o) (hc : kci o = 6) (hi : kin i 150 = true) (hx : kA S o 28 i = x) (hp : pc + 1 = pc') (kk : kV (X, own, nL, ret, G, R, cs, Q) cc (kgl G n S) lv (.int x :: st) pc') : kV (X, own, nL, ret, G, R, cs, Q) cc (kgl G n S) lv (.int i :: .ref (kg_ad G (kbo o + 23)) :: st) pc := kl_boo pc' hd hO hc hi hx hp (fun h => absurd h.2 (by decide)) rfl rfl rfl kk
theorem rs6_28 {i x : Int32} {S' : kS} (pc' : Nat) (hd : decode cc pc = .ok (.bastore, 1)) (hO : kOk G n o) (hc : kci o = 6) (hi : kin i 150 = true) (hx : kpA S o 28 i (x &&& 1) = S') (hp : pc + 1 = pc') (kk : kV (X, own, nL, ret, G, R, cs, Q) cc (kgl G n S') lv st pc') : kV (X, own, nL, ret, G, R, cs, Q) cc (kgl G n S) lv (.int x :: .int i :: .ref (kg_ad G (kbo o + 23)) :: st) pc := ks_boo pc' hd hO hc hi hx hp (fun h => absurd h.2 (by decide)) rfl rfl rfl kk
theorem rl6_32 {i x : Int32} (pc' : Nat) (hd : decode cc pc = .ok (.iaload, 1)) (hO : kOk G n o) (hc : kci o = 6) (hi : kin i 8 = true) (hx : kA S o 32 i = x) (hp : pc + 1 = pc') (kk : kV (X, own, nL, ret, G, R, cs, Q) cc (kgl G n S) lv (.int x :: st) pc') : kV (X, own, nL, ret, G, R, cs, Q) cc (kgl G n S) lv (.int i :: .ref (kg_ad G (kbo o + 24)) :: st) pc := kl_int pc' hd hO hc hi hx hp (fun h => absurd h.2 (by decide)) rfl rfl rfl kk
theorem rs6_32 {i x : Int32} {S' : kS} (pc' : Nat) (hd : decode cc pc = .ok (.iastore, 1)) (hO : kOk G n o) (hc : kci o = 6) (hi : kin i 8 = true) (hx : kpA S o 32 i x = S') (hp : pc + 1 = pc') (kk : kV (X, own, nL, ret, G, R, cs, Q) cc (kgl G n S') lv st pc') : kV (X, own, nL, ret, G, R, cs, Q) cc (kgl G n S) lv (.int x :: .int i :: .ref (kg_ad G (kbo o + 24)) :: st) pc := ks_int pc' hd hO hc hi hx hp (fun h => absurd h.2 (by decide)) rfl rfl rfl kk
theorem ra6_32 {v : Int32} (pc' : Nat) (hd : decode cc pc = .ok (.arraylength, 1)) (hO : kOk G n o) (hc : kci o = 6) (hv : Int32.ofNat 8 = v) (hp : pc + 1 = pc') (kk : kV (X, own, nL, ret, G, R, cs, Q) cc (kgl G n S) lv (.int v :: st) pc') : kV (X, own, nL, ret, G, R, cs, Q) cc (kgl G n S) lv (.ref (kg_ad G (kbo o + 24)) :: st) pc := ka_int (k := 32) pc' hd hO hc hv hp (fun h => absurd h.2 (by decide)) rfl rfl rfl kk
theorem rl6_34 {i x : Int32} (pc' : Nat) (hd : decode cc pc = .ok (.iaload, 1)) (hO : kOk G n o) (hc : kci o = 6) (hi : kin i 9 = true) (hx : kA S o 34 i = x) (hp : pc + 1 = pc') (kk : kV (X, own, nL, ret, G, R, cs, Q) cc (kgl G n S) lv (.int x :: st) pc') : kV (X, own, nL, ret, G, R, cs, Q) cc (kgl G n S) lv (.int i :: .ref (kg_ad G (kbo o + 25)) :: st) pc := kl_int pc' hd hO hc hi hx hp (fun h => absurd h.2 (by decide)) rfl rfl rfl kk
theorem rs6_34 {i x : Int32} {S' : kS} (pc' : Nat) (hd : decode cc pc = .ok (.iastore, 1)) (hO : kOk G n o) (hc : kci o = 6) (hi : kin i 9 = true) (hx : kpA S o 34 i x = S') (hp : pc + 1 = pc') (kk : kV (X, own, nL, ret, G, R, cs, Q) cc (kgl G n S') lv st pc') : kV (X, own, nL, ret, G, R, cs, Q) cc (kgl G n S) lv (.int x :: .int i :: .ref (kg_ad G (kbo o + 25)) :: st) pc := ks_int pc' hd hO hc hi hx hp (fun h => absurd h.2 (by decide)) rfl rfl rfl kk
theorem ra6_34 {v : Int32} (pc' : Nat) (hd : decode cc pc = .ok (.arraylength, 1)) (hO : kOk G n o) (hc : kci o = 6) (hv : Int32.ofNat 9 = v) (hp : pc + 1 = pc') (kk : kV (X, own, nL, ret, G, R, cs, Q) cc (kgl G n S) lv (.int v :: st) pc') : kV (X, own, nL, ret, G, R, cs, Q) cc (kgl G n S) lv (.ref (kg_ad G (kbo o + 25)) :: st) pc := ka_int (k := 34) pc' hd hO hc hv hp (fun h => absurd h.2 (by decide)) rfl rfl rfl kk
theorem rl6_35 {i x : Int32} (pc' : Nat) (hd : decode cc pc = .ok (.iaload, 1)) (hO : kOk G n o) (hc : kci o = 6) (hi : kin i 9 = true) (hx : kA S o 35 i = x) (hp : pc + 1 = pc') (kk : kV (X, own, nL, ret, G, R, cs, Q) cc (kgl G n S) lv (.int x :: st) pc') : kV (X, own, nL, ret, G, R, cs, Q) cc (kgl G n S) lv (.int i :: .ref (kg_ad G (kbo o + 26)) :: st) pc := kl_int pc' hd hO hc hi hx hp (fun h => absurd h.2 (by decide)) rfl rfl rfl kk
theorem rs6_35 {i x : Int32} {S' : kS} (pc' : Nat) (hd : decode cc pc = .ok (.iastore, 1)) (hO : kOk G n o) (hc : kci o = 6) (hi : kin i 9 = true) (hx : kpA S o 35 i x = S') (hp : pc + 1 = pc') (kk : kV (X, own, nL, ret, G, R, cs, Q) cc (kgl G n S') lv st pc') : kV (X, own, nL, ret, G, R, cs, Q) cc (kgl G n S) lv (.int x :: .int i :: .ref (kg_ad G (kbo o + 26)) :: st) pc := ks_int pc' hd hO hc hi hx hp (fun h => absurd h.2 (by decide)) rfl rfl rfl kk
theorem ra6_35 {v : Int32} (pc' : Nat) (hd : decode cc pc = .ok (.arraylength, 1)) (hO : kOk G n o) (hc : kci o = 6) (hv : Int32.ofNat 9 = v) (hp : pc + 1 = pc') (kk : kV (X, own, nL, ret, G, R, cs, Q) cc (kgl G n S) lv (.int v :: st) pc') : kV (X, own, nL, ret, G, R, cs, Q) cc (kgl G n S) lv (.ref (kg_ad G (kbo o + 26)) :: st) pc := ka_int (k := 35) pc' hd hO hc hv hp (fun h => absurd h.2 (by decide)) rfl rfl rfl kk
theorem rl6_36 {i x : Int32} (pc' : Nat) (hd : decode cc pc = .ok (.iaload, 1)) (hO : kOk G n o) (hc : kci o = 6) (hi : kin i 9 = true) (hx : kA S o 36 i = x) (hp : pc + 1 = pc') (kk : kV (X, own, nL, ret, G, R, cs, Q) cc (kgl G n S) lv (.int x :: st) pc') : kV (X, own, nL, ret, G, R, cs, Q) cc (kgl G n S) lv (.int i :: .ref (kg_ad G (kbo o + 27)) :: st) pc := kl_int pc' hd hO hc hi hx hp (fun h => absurd h.2 (by decide)) rfl rfl rfl kk
theorem rs6_36 {i x : Int32} {S' : kS} (pc' : Nat) (hd : decode cc pc = .ok (.iastore, 1)) (hO : kOk G n o) (hc : kci o = 6) (hi : kin i 9 = true) (hx : kpA S o 36 i x = S') (hp : pc + 1 = pc') (kk : kV (X, own, nL, ret, G, R, cs, Q) cc (kgl G n S') lv st pc') : kV (X, own, nL, ret, G, R, cs, Q) cc (kgl G n S) lv (.int x :: .int i :: .ref (kg_ad G (kbo o + 27)) :: st) pc := ks_int pc' hd hO hc hi hx hp (fun h => absurd h.2 (by decide)) rfl rfl rfl kk
theorem ra6_36 {v : Int32} (pc' : Nat) (hd : decode cc pc = .ok (.arraylength, 1)) (hO : kOk G n o) (hc : kci o = 6) (hv : Int32.ofNat 9 = v) (hp : pc + 1 = pc') (kk : kV (X, own, nL, ret, G, R, cs, Q) cc (kgl G n S) lv (.int v :: st) pc') : kV (X, own, nL, ret, G, R, cs, Q) cc (kgl G n S) lv (.ref (kg_ad G (kbo o + 27)) :: st) pc := ka_int (k := 36) pc' hd hO hc hv hp (fun h => absurd h.2 (by decide)) rfl rfl rfl kk
theorem rl6_37 {i x : Int32} (pc' : Nat) (hd : decode cc pc = .ok (.baload, 1)) (hO : kOk G n o) (hc : kci o = 6) (hi : kin i 9 = true) (hx : kA S o 37 i = x) (hp : pc + 1 = pc') (kk : kV (X, own, nL, ret, G, R, cs, Q) cc (kgl G n S) lv (.int x :: st) pc') : kV (X, own, nL, ret, G, R, cs, Q) cc (kgl G n S) lv (.int i :: .ref (kg_ad G (kbo o + 28)) :: st) pc := kl_boo pc' hd hO hc hi hx hp (fun h => absurd h.2 (by decide)) rfl rfl rfl kk
theorem rs6_37 {i x : Int32} {S' : kS} (pc' : Nat) (hd : decode cc pc = .ok (.bastore, 1)) (hO : kOk G n o) (hc : kci o = 6) (hi : kin i 9 = true) (hx : kpA S o 37 i (x &&& 1) = S') (hp : pc + 1 = pc') (kk : kV (X, own, nL, ret, G, R, cs, Q) cc (kgl G n S') lv st pc') : kV (X, own, nL, ret, G, R, cs, Q) cc (kgl G n S) lv (.int x :: .int i :: .ref (kg_ad G (kbo o + 28)) :: st) pc := ks_boo pc' hd hO hc hi hx hp (fun h => absurd h.2 (by decide)) rfl rfl rfl kk
theorem rl6_38 {i x : Int32} (pc' : Nat) (hd : decode cc pc = .ok (.iaload, 1)) (hO : kOk G n o) (hc : kci o = 6) (hi : kin i 9 = true) (hx : kA S o 38 i = x) (hp : pc + 1 = pc') (kk : kV (X, own, nL, ret, G, R, cs, Q) cc (kgl G n S) lv (.int x :: st) pc') : kV (X, own, nL, ret, G, R, cs, Q) cc (kgl G n S) lv (.int i :: .ref (kg_ad G (kbo o + 29)) :: st) pc := kl_int pc' hd hO hc hi hx hp (fun h => absurd h.2 (by decide)) rfl rfl rfl kk
theorem rs6_38 {i x : Int32} {S' : kS} (pc' : Nat) (hd : decode cc pc = .ok (.iastore, 1)) (hO : kOk G n o) (hc : kci o = 6) (hi : kin i 9 = true) (hx : kpA S o 38 i x = S') (hp : pc + 1 = pc') (kk : kV (X, own, nL, ret, G, R, cs, Q) cc (kgl G n S') lv st pc') : kV (X, own, nL, ret, G, R, cs, Q) cc (kgl G n S) lv (.int x :: .int i :: .ref (kg_ad G (kbo o + 29)) :: st) pc := ks_int pc' hd hO hc hi hx hp (fun h => absurd h.2 (by decide)) rfl rfl rfl kk
theorem ra6_38 {v : Int32} (pc' : Nat) (hd : decode cc pc = .ok (.arraylength, 1)) (hO : kOk G n o) (hc : kci o = 6) (hv : Int32.ofNat 9 = v) (hp : pc + 1 = pc') (kk : kV (X, own, nL, ret, G, R, cs, Q) cc (kgl G n S) lv (.int v :: st) pc') : kV (X, own, nL, ret, G, R, cs, Q) cc (kgl G n S) lv (.ref (kg_ad G (kbo o + 29)) :: st) pc := ka_int (k := 38) pc' hd hO hc hv hp (fun h => absurd h.2 (by decide)) rfl rfl rfl kk
theorem rl6_44 {i x : Int32} (pc' : Nat) (hd : decode cc pc = .ok (.iaload, 1)) (hO : kOk G n o) (hc : kci o = 6) (hi : kin i 3125 = true) (hx : kA S o 44 i = x) (hp : pc + 1 = pc') (kk : kV (X, own, nL, ret, G, R, cs, Q) cc (kgl G n S) lv (.int x :: st) pc') : kV (X, own, nL, ret, G, R, cs, Q) cc (kgl G n S) lv (.int i :: .ref (kg_ad G (kbo o + 30)) :: st) pc := kl_int pc' hd hO hc hi hx hp (fun h => absurd h.2 (by decide)) rfl rfl rfl kk
theorem rs6_44 {i x : Int32} {S' : kS} (pc' : Nat) (hd : decode cc pc = .ok (.iastore, 1)) (hO : kOk G n o) (hc : kci o = 6) (hi : kin i 3125 = true) (hx : kpA S o 44 i x = S') (hp : pc + 1 = pc') (kk : kV (X, own, nL, ret, G, R, cs, Q) cc (kgl G n S') lv st pc') : kV (X, own, nL, ret, G, R, cs, Q) cc (kgl G n S) lv (.int x :: .int i :: .ref (kg_ad G (kbo o + 30)) :: st) pc := ks_int pc' hd hO hc hi hx hp (fun h => absurd h.2 (by decide)) rfl rfl rfl kk
theorem ra6_44 {v : Int32} (pc' : Nat) (hd : decode cc pc = .ok (.arraylength, 1)) (hO : kOk G n o) (hc : kci o = 6) (hv : Int32.ofNat 3125 = v) (hp : pc + 1 = pc') (kk : kV (X, own, nL, ret, G, R, cs, Q) cc (kgl G n S) lv (.int v :: st) pc') : kV (X, own, nL, ret, G, R, cs, Q) cc (kgl G n S) lv (.ref (kg_ad G (kbo o + 30)) :: st) pc := ka_int (k := 44) pc' hd hO hc hv hp (fun h => absurd h.2 (by decide)) rfl rfl rfl kk
/-- a form out of the row of forms -/
theorem rf_get {i : Int32} {v : Value} (pc' : Nat) (hd : decode cc pc = .ok (.aaload, 1)) (hO : kOk G n 0) (hi : kin i 3 = true) (hx : va_rf (krf (kg_ad G) n i.toNatClampNeg) = v) (hp : pc + 1 = pc') (kk : kV (X, own, nL, ret, G, R, cs, Q) cc (kgl G n S) lv (v :: st) pc') : kV (X, own, nL, ret, G, R, cs, Q) cc (kgl G n S) lv (.int i :: .ref (kg_ad G (kbo 0 + 1)) :: st) pc := by
  subst hx
  exact kV_aald (Y := (X, own, nL, ret, G, R, cs, Q)) (d := 1) pc' hd (by have := hO.2; show 1 < kg_N G; omega) rfl hi hp kk
theorem rf_len {v : Int32} (pc' : Nat) (hd : decode cc pc = .ok (.arraylength, 1)) (hO : kOk G n 0) (hv : Int32.ofNat 3 = v) (hp : pc + 1 = pc') (kk : kV (X, own, nL, ret, G, R, cs, Q) cc (kgl G n S) lv (.int v :: st) pc') : kV (X, own, nL, ret, G, R, cs, Q) cc (kgl G n S) lv (.ref (kg_ad G (kbo 0 + 1)) :: st) pc :=
  kV_alen (Y := (X, own, nL, ret, G, R, cs, Q)) (d := 1) (t0 := 2) pc' hd (by have := hO.2; show 1 < kg_N G; omega) rfl rfl hv hp kk
end KTYP
def kb {α β : Type} (v : α) (k : α → Option β) : Option β := k v
theorem kb_ex {α β : Type} {v : α} {k : α → Option β} {r : β} (h : kb v k = some r) : ∃ x, v = x ∧ k x = some r := ⟨v, rfl, h⟩
def kgd {β : Type} (c : Bool) (k : Option β) : Option β := match c with
  | true => k
  | false => none
theorem kgd_ex {β : Type} {c : Bool} {k : Option β} {r : β} (h : kgd c k = some r) : c = true ∧ k = some r := by
  cases c with
  | false => cases h
  | true => exact ⟨rfl, h⟩
theorem kbi_ex {α β : Type} {v : Option α} {k : α → Option β} {r : β} (h : v.bind k = some r) : ∃ x, v = some x ∧ k x = some r := Option.bind_eq_some_iff.mp h
end
