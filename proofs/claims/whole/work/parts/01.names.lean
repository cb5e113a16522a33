-- ===== PART A: goes FIRST, ahead of the names: the tables' words, and 'selects' of the private methods out of them =====
/-- a private method of a class that the tables say can be made, by its rows of tables_1 -/
def lw_okq (q : MethodName × Nat) : Prop := (q.1.cls ≠ "java/lang/invoke/MethodHandle" ∧ q.1.cls ≠ "java/lang/invoke/VarHandle") ∧ Cond.instantiable q.1.cls q.2 ∈ tables_1 ∧ Cond.privateMethod q.1 ∈ tables_1 ∧ Cond.instanceMethod q.1 ∈ tables_1
theorem lw_p0 : lw_okq (⟨"TalkKeeper", "formAt", "(I)LTalkKeeper$Form;"⟩, 14) := ⟨⟨by decide +kernel, by decide +kernel⟩, List.mem_of_getElem? (i := 13) (by decide +kernel), List.mem_of_getElem? (i := 225) (by decide +kernel), List.mem_of_getElem? (i := 226) (by decide +kernel)⟩
theorem lw_p1 : lw_okq (⟨"TalkKeeper", "isInTalk", "(I)Z"⟩, 14) := ⟨⟨by decide +kernel, by decide +kernel⟩, List.mem_of_getElem? (i := 13) (by decide +kernel), List.mem_of_getElem? (i := 232) (by decide +kernel), List.mem_of_getElem? (i := 233) (by decide +kernel)⟩
theorem lw_p2 : lw_okq (⟨"TalkKeeper", "turnPage", "()V"⟩, 14) := ⟨⟨by decide +kernel, by decide +kernel⟩, List.mem_of_getElem? (i := 13) (by decide +kernel), List.mem_of_getElem? (i := 326) (by decide +kernel), List.mem_of_getElem? (i := 327) (by decide +kernel)⟩
theorem lw_p3 : lw_okq (⟨"TalkKeeper", "forgetConfirm", "()V"⟩, 14) := ⟨⟨by decide +kernel, by decide +kernel⟩, List.mem_of_getElem? (i := 13) (by decide +kernel), List.mem_of_getElem? (i := 334) (by decide +kernel), List.mem_of_getElem? (i := 335) (by decide +kernel)⟩
theorem lw_p4 : lw_okq (⟨"TalkKeeper", "uppermost", "()I"⟩, 14) := ⟨⟨by decide +kernel, by decide +kernel⟩, List.mem_of_getElem? (i := 13) (by decide +kernel), List.mem_of_getElem? (i := 350) (by decide +kernel), List.mem_of_getElem? (i := 351) (by decide +kernel)⟩
theorem lw_p5 : lw_okq (⟨"TalkKeeper$Reader", "startAtEnd", "()V"⟩, 8) := ⟨⟨by decide +kernel, by decide +kernel⟩, List.mem_of_getElem? (i := 55) (by decide +kernel), List.mem_of_getElem? (i := 361) (by decide +kernel), List.mem_of_getElem? (i := 362) (by decide +kernel)⟩
theorem lw_p6 : lw_okq (⟨"TalkKeeper$Reader", "passWord", "(I)V"⟩, 8) := ⟨⟨by decide +kernel, by decide +kernel⟩, List.mem_of_getElem? (i := 55) (by decide +kernel), List.mem_of_getElem? (i := 365) (by decide +kernel), List.mem_of_getElem? (i := 366) (by decide +kernel)⟩
theorem lw_p7 : lw_okq (⟨"TalkKeeper$RowBook", "isRow", "(I)Z"⟩, 8) := ⟨⟨by decide +kernel, by decide +kernel⟩, List.mem_of_getElem? (i := 23) (by decide +kernel), List.mem_of_getElem? (i := 377) (by decide +kernel), List.mem_of_getElem? (i := 378) (by decide +kernel)⟩
theorem lw_p8 : lw_okq (⟨"TalkKeeper$Reader", "fits", "(LTalkKeeper$Form;LTalkKeeper$RowBook;II)Z"⟩, 8) := ⟨⟨by decide +kernel, by decide +kernel⟩, List.mem_of_getElem? (i := 55) (by decide +kernel), List.mem_of_getElem? (i := 381) (by decide +kernel), List.mem_of_getElem? (i := 382) (by decide +kernel)⟩
theorem lw_p9 : lw_okq (⟨"TalkKeeper$RowBook", "isItemOf", "(II)Z"⟩, 8) := ⟨⟨by decide +kernel, by decide +kernel⟩, List.mem_of_getElem? (i := 23) (by decide +kernel), List.mem_of_getElem? (i := 393) (by decide +kernel), List.mem_of_getElem? (i := 394) (by decide +kernel)⟩
theorem lw_p10 : lw_okq (⟨"TalkKeeper$Reader", "useRow", "(LTalkKeeper$Form;LTalkKeeper$RowBook;II)V"⟩, 8) := ⟨⟨by decide +kernel, by decide +kernel⟩, List.mem_of_getElem? (i := 55) (by decide +kernel), List.mem_of_getElem? (i := 405) (by decide +kernel), List.mem_of_getElem? (i := 406) (by decide +kernel)⟩
theorem lw_p11 : lw_okq (⟨"TalkKeeper$Reader", "clearAt", "(II)V"⟩, 8) := ⟨⟨by decide +kernel, by decide +kernel⟩, List.mem_of_getElem? (i := 55) (by decide +kernel), List.mem_of_getElem? (i := 413) (by decide +kernel), List.mem_of_getElem? (i := 414) (by decide +kernel)⟩
theorem lw_p12 : lw_okq (⟨"TalkKeeper$Reader", "fillingByRow", "(LTalkKeeper$Form;LTalkKeeper$RowBook;III)I"⟩, 8) := ⟨⟨by decide +kernel, by decide +kernel⟩, List.mem_of_getElem? (i := 55) (by decide +kernel), List.mem_of_getElem? (i := 421) (by decide +kernel), List.mem_of_getElem? (i := 422) (by decide +kernel)⟩
theorem lw_p13 : lw_okq (⟨"TalkKeeper$Reader", "commonAnswer", "(LTalkKeeper$Form;ILTalkKeeper$RowBook;)I"⟩, 8) := ⟨⟨by decide +kernel, by decide +kernel⟩, List.mem_of_getElem? (i := 55) (by decide +kernel), List.mem_of_getElem? (i := 429) (by decide +kernel), List.mem_of_getElem? (i := 430) (by decide +kernel)⟩
theorem lw_p14 : lw_okq (⟨"TalkKeeper", "takeLine", "(LTalkKeeper$Form;)I"⟩, 14) := ⟨⟨by decide +kernel, by decide +kernel⟩, List.mem_of_getElem? (i := 13) (by decide +kernel), List.mem_of_getElem? (i := 461) (by decide +kernel), List.mem_of_getElem? (i := 462) (by decide +kernel)⟩
theorem lw_p15 : lw_okq (⟨"TalkKeeper", "fillPlaces", "(LTalkKeeper$Form;)I"⟩, 14) := ⟨⟨by decide +kernel, by decide +kernel⟩, List.mem_of_getElem? (i := 13) (by decide +kernel), List.mem_of_getElem? (i := 469) (by decide +kernel), List.mem_of_getElem? (i := 470) (by decide +kernel)⟩
def lw_privs_1 : List (MethodName × Nat) := [(⟨"TalkKeeper", "formAt", "(I)LTalkKeeper$Form;"⟩, 14), (⟨"TalkKeeper", "isInTalk", "(I)Z"⟩, 14), (⟨"TalkKeeper", "turnPage", "()V"⟩, 14), (⟨"TalkKeeper", "forgetConfirm", "()V"⟩, 14), (⟨"TalkKeeper", "uppermost", "()I"⟩, 14), (⟨"TalkKeeper$Reader", "startAtEnd", "()V"⟩, 8), (⟨"TalkKeeper$Reader", "passWord", "(I)V"⟩, 8), (⟨"TalkKeeper$RowBook", "isRow", "(I)Z"⟩, 8), (⟨"TalkKeeper$Reader", "fits", "(LTalkKeeper$Form;LTalkKeeper$RowBook;II)Z"⟩, 8), (⟨"TalkKeeper$RowBook", "isItemOf", "(II)Z"⟩, 8), (⟨"TalkKeeper$Reader", "useRow", "(LTalkKeeper$Form;LTalkKeeper$RowBook;II)V"⟩, 8), (⟨"TalkKeeper$Reader", "clearAt", "(II)V"⟩, 8), (⟨"TalkKeeper$Reader", "fillingByRow", "(LTalkKeeper$Form;LTalkKeeper$RowBook;III)I"⟩, 8), (⟨"TalkKeeper$Reader", "commonAnswer", "(LTalkKeeper$Form;ILTalkKeeper$RowBook;)I"⟩, 8), (⟨"TalkKeeper", "takeLine", "(LTalkKeeper$Form;)I"⟩, 14), (⟨"TalkKeeper", "fillPlaces", "(LTalkKeeper$Form;)I"⟩, 14)]
theorem lw_r1 : ∀ q ∈ lw_privs_1, lw_okq q := List.forall_mem_cons.mpr ⟨lw_p0, List.forall_mem_cons.mpr ⟨lw_p1, List.forall_mem_cons.mpr ⟨lw_p2, List.forall_mem_cons.mpr ⟨lw_p3, List.forall_mem_cons.mpr ⟨lw_p4, List.forall_mem_cons.mpr ⟨lw_p5, List.forall_mem_cons.mpr ⟨lw_p6, List.forall_mem_cons.mpr ⟨lw_p7, List.forall_mem_cons.mpr ⟨lw_p8, List.forall_mem_cons.mpr ⟨lw_p9, List.forall_mem_cons.mpr ⟨lw_p10, List.forall_mem_cons.mpr ⟨lw_p11, List.forall_mem_cons.mpr ⟨lw_p12, List.forall_mem_cons.mpr ⟨lw_p13, List.forall_mem_cons.mpr ⟨lw_p14, List.forall_mem_cons.mpr ⟨lw_p15, fun _ h => absurd h List.not_mem_nil⟩⟩⟩⟩⟩⟩⟩⟩⟩⟩⟩⟩⟩⟩⟩⟩
theorem lw_p16 : lw_okq (⟨"TalkKeeper", "fillPlace", "(LTalkKeeper$Form;I)I"⟩, 14) := ⟨⟨by decide +kernel, by decide +kernel⟩, List.mem_of_getElem? (i := 13) (by decide +kernel), List.mem_of_getElem? (i := 477) (by decide +kernel), List.mem_of_getElem? (i := 478) (by decide +kernel)⟩
theorem lw_p17 : lw_okq (⟨"TalkKeeper$Planner", "startFrom", "(LTalkKeeper$Form;)V"⟩, 2) := ⟨⟨by decide +kernel, by decide +kernel⟩, List.mem_of_getElem? (i := 87) (by decide +kernel), List.mem_of_getElem? (i := 561) (by decide +kernel), List.mem_of_getElem? (i := 562) (by decide +kernel)⟩
theorem lw_p18 : lw_okq (⟨"TalkKeeper$Planner", "fewestBy", "(LTalkKeeper$Form;III)I"⟩, 2) := ⟨⟨by decide +kernel, by decide +kernel⟩, List.mem_of_getElem? (i := 87) (by decide +kernel), List.mem_of_getElem? (i := 573) (by decide +kernel), List.mem_of_getElem? (i := 574) (by decide +kernel)⟩
theorem lw_p19 : lw_okq (⟨"TalkKeeper$Planner", "fewest", "(LTalkKeeper$Form;II)I"⟩, 2) := ⟨⟨by decide +kernel, by decide +kernel⟩, List.mem_of_getElem? (i := 87) (by decide +kernel), List.mem_of_getElem? (i := 580) (by decide +kernel), List.mem_of_getElem? (i := 581) (by decide +kernel)⟩
theorem lw_p20 : lw_okq (⟨"TalkKeeperModel", "isForm", "(I)Z"⟩, 45) := ⟨⟨by decide +kernel, by decide +kernel⟩, List.mem_of_getElem? (i := 643) (by decide +kernel), List.mem_of_getElem? (i := 792) (by decide +kernel), List.mem_of_getElem? (i := 793) (by decide +kernel)⟩
theorem lw_p21 : lw_okq (⟨"TalkKeeperModel", "isOpen", "(I)Z"⟩, 45) := ⟨⟨by decide +kernel, by decide +kernel⟩, List.mem_of_getElem? (i := 643) (by decide +kernel), List.mem_of_getElem? (i := 799) (by decide +kernel), List.mem_of_getElem? (i := 800) (by decide +kernel)⟩
theorem lw_p22 : lw_okq (⟨"TalkKeeperModel", "comes", "(III)I"⟩, 45) := ⟨⟨by decide +kernel, by decide +kernel⟩, List.mem_of_getElem? (i := 643) (by decide +kernel), List.mem_of_getElem? (i := 803) (by decide +kernel), List.mem_of_getElem? (i := 804) (by decide +kernel)⟩
theorem lw_p23 : lw_okq (⟨"TalkKeeperModel", "isPlace", "(II)Z"⟩, 45) := ⟨⟨by decide +kernel, by decide +kernel⟩, List.mem_of_getElem? (i := 643) (by decide +kernel), List.mem_of_getElem? (i := 811) (by decide +kernel), List.mem_of_getElem? (i := 812) (by decide +kernel)⟩
theorem lw_p24 : lw_okq (⟨"TalkKeeperModel", "isValue", "(III)Z"⟩, 45) := ⟨⟨by decide +kernel, by decide +kernel⟩, List.mem_of_getElem? (i := 643) (by decide +kernel), List.mem_of_getElem? (i := 819) (by decide +kernel), List.mem_of_getElem? (i := 820) (by decide +kernel)⟩
theorem lw_p25 : lw_okq (⟨"TalkKeeperModel", "rule", "(IZIIII)I"⟩, 45) := ⟨⟨by decide +kernel, by decide +kernel⟩, List.mem_of_getElem? (i := 643) (by decide +kernel), List.mem_of_getElem? (i := 823) (by decide +kernel), List.mem_of_getElem? (i := 824) (by decide +kernel)⟩
theorem lw_p26 : lw_okq (⟨"TalkKeeperModel", "work", "(I)V"⟩, 45) := ⟨⟨by decide +kernel, by decide +kernel⟩, List.mem_of_getElem? (i := 643) (by decide +kernel), List.mem_of_getElem? (i := 863) (by decide +kernel), List.mem_of_getElem? (i := 864) (by decide +kernel)⟩
theorem lw_p27 : lw_okq (⟨"TalkKeeperModel", "fits", "(III)Z"⟩, 45) := ⟨⟨by decide +kernel, by decide +kernel⟩, List.mem_of_getElem? (i := 643) (by decide +kernel), List.mem_of_getElem? (i := 867) (by decide +kernel), List.mem_of_getElem? (i := 868) (by decide +kernel)⟩
theorem lw_p28 : lw_okq (⟨"TalkKeeperModel", "mayPass", "(I)Z"⟩, 45) := ⟨⟨by decide +kernel, by decide +kernel⟩, List.mem_of_getElem? (i := 643) (by decide +kernel), List.mem_of_getElem? (i := 871) (by decide +kernel), List.mem_of_getElem? (i := 872) (by decide +kernel)⟩
theorem lw_p29 : lw_okq (⟨"TalkKeeperModel", "isLeast", "(III)Z"⟩, 45) := ⟨⟨by decide +kernel, by decide +kernel⟩, List.mem_of_getElem? (i := 643) (by decide +kernel), List.mem_of_getElem? (i := 875) (by decide +kernel), List.mem_of_getElem? (i := 876) (by decide +kernel)⟩
theorem lw_p30 : lw_okq (⟨"TalkKeeperModel", "keep", "()V"⟩, 45) := ⟨⟨by decide +kernel, by decide +kernel⟩, List.mem_of_getElem? (i := 643) (by decide +kernel), List.mem_of_getElem? (i := 880) (by decide +kernel), List.mem_of_getElem? (i := 881) (by decide +kernel)⟩
theorem lw_p31 : lw_okq (⟨"TalkKeeperModel", "fills", "(I)V"⟩, 45) := ⟨⟨by decide +kernel, by decide +kernel⟩, List.mem_of_getElem? (i := 643) (by decide +kernel), List.mem_of_getElem? (i := 884) (by decide +kernel), List.mem_of_getElem? (i := 885) (by decide +kernel)⟩
def lw_privs_2 : List (MethodName × Nat) := [(⟨"TalkKeeper", "fillPlace", "(LTalkKeeper$Form;I)I"⟩, 14), (⟨"TalkKeeper$Planner", "startFrom", "(LTalkKeeper$Form;)V"⟩, 2), (⟨"TalkKeeper$Planner", "fewestBy", "(LTalkKeeper$Form;III)I"⟩, 2), (⟨"TalkKeeper$Planner", "fewest", "(LTalkKeeper$Form;II)I"⟩, 2), (⟨"TalkKeeperModel", "isForm", "(I)Z"⟩, 45), (⟨"TalkKeeperModel", "isOpen", "(I)Z"⟩, 45), (⟨"TalkKeeperModel", "comes", "(III)I"⟩, 45), (⟨"TalkKeeperModel", "isPlace", "(II)Z"⟩, 45), (⟨"TalkKeeperModel", "isValue", "(III)Z"⟩, 45), (⟨"TalkKeeperModel", "rule", "(IZIIII)I"⟩, 45), (⟨"TalkKeeperModel", "work", "(I)V"⟩, 45), (⟨"TalkKeeperModel", "fits", "(III)Z"⟩, 45), (⟨"TalkKeeperModel", "mayPass", "(I)Z"⟩, 45), (⟨"TalkKeeperModel", "isLeast", "(III)Z"⟩, 45), (⟨"TalkKeeperModel", "keep", "()V"⟩, 45), (⟨"TalkKeeperModel", "fills", "(I)V"⟩, 45)]
theorem lw_r2 : ∀ q ∈ lw_privs_2, lw_okq q := List.forall_mem_cons.mpr ⟨lw_p16, List.forall_mem_cons.mpr ⟨lw_p17, List.forall_mem_cons.mpr ⟨lw_p18, List.forall_mem_cons.mpr ⟨lw_p19, List.forall_mem_cons.mpr ⟨lw_p20, List.forall_mem_cons.mpr ⟨lw_p21, List.forall_mem_cons.mpr ⟨lw_p22, List.forall_mem_cons.mpr ⟨lw_p23, List.forall_mem_cons.mpr ⟨lw_p24, List.forall_mem_cons.mpr ⟨lw_p25, List.forall_mem_cons.mpr ⟨lw_p26, List.forall_mem_cons.mpr ⟨lw_p27, List.forall_mem_cons.mpr ⟨lw_p28, List.forall_mem_cons.mpr ⟨lw_p29, List.forall_mem_cons.mpr ⟨lw_p30, List.forall_mem_cons.mpr ⟨lw_p31, fun _ h => absurd h List.not_mem_nil⟩⟩⟩⟩⟩⟩⟩⟩⟩⟩⟩⟩⟩⟩⟩⟩
theorem lw_p32 : lw_okq (⟨"TalkKeeperModel", "outcomes", "(II)I"⟩, 45) := ⟨⟨by decide +kernel, by decide +kernel⟩, List.mem_of_getElem? (i := 643) (by decide +kernel), List.mem_of_getElem? (i := 888) (by decide +kernel), List.mem_of_getElem? (i := 889) (by decide +kernel)⟩
theorem lw_p33 : lw_okq (⟨"TalkKeeperModel", "filled", "(IIIII)I"⟩, 45) := ⟨⟨by decide +kernel, by decide +kernel⟩, List.mem_of_getElem? (i := 643) (by decide +kernel), List.mem_of_getElem? (i := 892) (by decide +kernel), List.mem_of_getElem? (i := 893) (by decide +kernel)⟩
theorem lw_p34 : lw_okq (⟨"TalkKeeperModel", "reverts", "(IIIZ)V"⟩, 45) := ⟨⟨by decide +kernel, by decide +kernel⟩, List.mem_of_getElem? (i := 643) (by decide +kernel), List.mem_of_getElem? (i := 899) (by decide +kernel), List.mem_of_getElem? (i := 900) (by decide +kernel)⟩
theorem lw_p35 : lw_okq (⟨"TalkKeeperModel", "broken", "(I)I"⟩, 45) := ⟨⟨by decide +kernel, by decide +kernel⟩, List.mem_of_getElem? (i := 643) (by decide +kernel), List.mem_of_getElem? (i := 903) (by decide +kernel), List.mem_of_getElem? (i := 904) (by decide +kernel)⟩
theorem lw_p36 : lw_okq (⟨"TalkKeeperModel", "valueOf", "(I)I"⟩, 45) := ⟨⟨by decide +kernel, by decide +kernel⟩, List.mem_of_getElem? (i := 643) (by decide +kernel), List.mem_of_getElem? (i := 907) (by decide +kernel), List.mem_of_getElem? (i := 908) (by decide +kernel)⟩
theorem lw_p37 : lw_okq (⟨"TalkKeeperModel", "answers", "(I)V"⟩, 45) := ⟨⟨by decide +kernel, by decide +kernel⟩, List.mem_of_getElem? (i := 643) (by decide +kernel), List.mem_of_getElem? (i := 914) (by decide +kernel), List.mem_of_getElem? (i := 915) (by decide +kernel)⟩
theorem lw_p38 : lw_okq (⟨"TalkKeeperModel", "isAll", "(II)Z"⟩, 45) := ⟨⟨by decide +kernel, by decide +kernel⟩, List.mem_of_getElem? (i := 643) (by decide +kernel), List.mem_of_getElem? (i := 918) (by decide +kernel), List.mem_of_getElem? (i := 919) (by decide +kernel)⟩
theorem lw_p39 : lw_okq (⟨"TalkKeeperModel", "forget", "()V"⟩, 45) := ⟨⟨by decide +kernel, by decide +kernel⟩, List.mem_of_getElem? (i := 643) (by decide +kernel), List.mem_of_getElem? (i := 926) (by decide +kernel), List.mem_of_getElem? (i := 927) (by decide +kernel)⟩
theorem lw_p40 : lw_okq (⟨"TalkKeeperModel", "worstOf", "(I)I"⟩, 45) := ⟨⟨by decide +kernel, by decide +kernel⟩, List.mem_of_getElem? (i := 643) (by decide +kernel), List.mem_of_getElem? (i := 930) (by decide +kernel), List.mem_of_getElem? (i := 931) (by decide +kernel)⟩
theorem lw_p41 : lw_okq (⟨"TalkKeeperModel", "state", "(I)I"⟩, 45) := ⟨⟨by decide +kernel, by decide +kernel⟩, List.mem_of_getElem? (i := 643) (by decide +kernel), List.mem_of_getElem? (i := 934) (by decide +kernel), List.mem_of_getElem? (i := 935) (by decide +kernel)⟩
theorem lw_p42 : lw_okq (⟨"TalkKeeperModel", "isWanted", "(II)Z"⟩, 45) := ⟨⟨by decide +kernel, by decide +kernel⟩, List.mem_of_getElem? (i := 643) (by decide +kernel), List.mem_of_getElem? (i := 938) (by decide +kernel), List.mem_of_getElem? (i := 939) (by decide +kernel)⟩
theorem lw_p43 : lw_okq (⟨"TalkKeeperModel", "worstBy", "(II)I"⟩, 45) := ⟨⟨by decide +kernel, by decide +kernel⟩, List.mem_of_getElem? (i := 643) (by decide +kernel), List.mem_of_getElem? (i := 942) (by decide +kernel), List.mem_of_getElem? (i := 943) (by decide +kernel)⟩
def lw_privs_3 : List (MethodName × Nat) := [(⟨"TalkKeeperModel", "outcomes", "(II)I"⟩, 45), (⟨"TalkKeeperModel", "filled", "(IIIII)I"⟩, 45), (⟨"TalkKeeperModel", "reverts", "(IIIZ)V"⟩, 45), (⟨"TalkKeeperModel", "broken", "(I)I"⟩, 45), (⟨"TalkKeeperModel", "valueOf", "(I)I"⟩, 45), (⟨"TalkKeeperModel", "answers", "(I)V"⟩, 45), (⟨"TalkKeeperModel", "isAll", "(II)Z"⟩, 45), (⟨"TalkKeeperModel", "forget", "()V"⟩, 45), (⟨"TalkKeeperModel", "worstOf", "(I)I"⟩, 45), (⟨"TalkKeeperModel", "state", "(I)I"⟩, 45), (⟨"TalkKeeperModel", "isWanted", "(II)Z"⟩, 45), (⟨"TalkKeeperModel", "worstBy", "(II)I"⟩, 45)]
theorem lw_r3 : ∀ q ∈ lw_privs_3, lw_okq q := List.forall_mem_cons.mpr ⟨lw_p32, List.forall_mem_cons.mpr ⟨lw_p33, List.forall_mem_cons.mpr ⟨lw_p34, List.forall_mem_cons.mpr ⟨lw_p35, List.forall_mem_cons.mpr ⟨lw_p36, List.forall_mem_cons.mpr ⟨lw_p37, List.forall_mem_cons.mpr ⟨lw_p38, List.forall_mem_cons.mpr ⟨lw_p39, List.forall_mem_cons.mpr ⟨lw_p40, List.forall_mem_cons.mpr ⟨lw_p41, List.forall_mem_cons.mpr ⟨lw_p42, List.forall_mem_cons.mpr ⟨lw_p43, fun _ h => absurd h List.not_mem_nil⟩⟩⟩⟩⟩⟩⟩⟩⟩⟩⟩⟩
def lw_privs : List (MethodName × Nat) := lw_privs_1 ++ (lw_privs_2 ++ (lw_privs_3))
def lw_tbl : List Cond := k2_sels lw_privs ++ tables_1
theorem lw_privs_ok : ∀ q ∈ lw_privs, lw_okq q := by
  show ∀ q ∈ lw_privs_1 ++ (lw_privs_2 ++ (lw_privs_3)), lw_okq q
  exact List.forall_mem_append.mpr ⟨lw_r1, List.forall_mem_append.mpr ⟨lw_r2, lw_r3⟩⟩
theorem goodIn_r {big : List Cond} (ws : List Cond) (ps : List Nat) (hp : ws = ps.filterMap (fun i => big[i]?)) (h : ws.all goodWord = true) : GoodIn big ws := by
  intro w hw
  have h1 := List.all_eq_true.mp h w hw
  rw [hp] at hw
  obtain ⟨i, -, hi⟩ := List.mem_filterMap.mp hw
  have hm : w ∈ big := by first | exact List.mem_of_getElem? hi | exact List.getElem?_mem hi
  exact ⟨hm, good_of_word h1⟩
theorem goodIn_app {big a b : List Cond} (ha : GoodIn big a) (hb : GoodIn big b) : GoodIn big (a ++ b) := fun w h => (List.mem_append.mp h).elim (ha w) (hb w)
theorem goodIn_ca {big a b : List Cond} {c : Cond} (ha : GoodIn big (c :: a)) (hb : GoodIn big b) : GoodIn big (c :: (a ++ b)) := fun w h => (List.mem_cons.mp h).elim (fun e => ha w (List.mem_cons.mpr (Or.inl e))) (fun h => (List.mem_append.mp h).elim (fun h => ha w (List.mem_cons.mpr (Or.inr h))) (hb w))
theorem goodIn_sub {big ws : List Cond} (hm : ∀ w ∈ ws, w ∈ big) (h : ws.all goodWord = true) : GoodIn big ws := fun w hw => ⟨hm w hw, good_of_word (List.all_eq_true.mp h w hw)⟩
def RX0 : String := "TalkKeeper$Form"
def TX0 : u_T := fun k => match k with
  | 0 => ("TalkKeeper$Form", "places", "I", false)
  | 1 => ("TalkKeeper$Form", "kinds", "[I", true)
  | 2 => ("TalkKeeper$Form", "sizes", "[I", true)
  | 3 => ("TalkKeeper$Form", "firstParts", "[I", true)
  | 4 => ("TalkKeeper$Form", "secondParts", "[I", true)
  | 5 => ("TalkKeeper$Form", "sets", "[I", true)
  | 6 => ("TalkKeeper$Form", "sureValues", "[I", true)
  | 7 => ("TalkKeeper$Form", "rules", "I", false)
  | 8 => ("TalkKeeper$Form", "ruleKinds", "[I", true)
  | 9 => ("TalkKeeper$Form", "leftPlaces", "[I", true)
  | 10 => ("TalkKeeper$Form", "leftValues", "[I", true)
  | 11 => ("TalkKeeper$Form", "rightPlaces", "[I", true)
  | 12 => ("TalkKeeper$Form", "rightValues", "[I", true)
  | 13 => ("TalkKeeper$Form", "wordPlaces", "[I", true)
  | _ => ("TalkKeeper$Form", "wordValues", "[I", true)
def tyX0 : Nat → FieldType := fun k => match k with
  | 0 => .int
  | 1 => .array .int
  | 2 => .array .int
  | 3 => .array .int
  | 4 => .array .int
  | 5 => .array .int
  | 6 => .array .int
  | 7 => .int
  | 8 => .array .int
  | 9 => .array .int
  | 10 => .array .int
  | 11 => .array .int
  | 12 => .array .int
  | 13 => .array .int
  | _ => .array .int
abbrev wsX00 : List Cond := u_ws RX0 TX0 15
theorem nmX0 : ∀ a, a < 15 → ∀ b, b < 15 → a ≠ b → (TX0 a).2.1 ≠ (TX0 b).2.1 := by decide +kernel
theorem tyX0_ok : ∀ k, k < 15 → parseFieldDescriptor (TX0 k).2.2.1 = some (tyX0 k) := by decide +kernel
abbrev cX0_init : ByteArray := prog_2_method_1_code
def yX0_init : MethodName := ⟨RX0, "<init>", "()V"⟩
abbrev cX0_placeCount : ByteArray := prog_2_method_2_code
def yX0_placeCount : MethodName := ⟨RX0, "placeCount", "()I"⟩
abbrev cX0_hasPlace : ByteArray := prog_2_method_3_code
def yX0_hasPlace : MethodName := ⟨RX0, "hasPlace", "(I)Z"⟩
abbrev cX0_hasValue : ByteArray := prog_2_method_4_code
def yX0_hasValue : MethodName := ⟨RX0, "hasValue", "(II)Z"⟩
abbrev cX0_isWorked : ByteArray := prog_2_method_5_code
def yX0_isWorked : MethodName := ⟨RX0, "isWorked", "(I)Z"⟩
abbrev cX0_kindOf : ByteArray := prog_2_method_6_code
def yX0_kindOf : MethodName := ⟨RX0, "kindOf", "(I)I"⟩
abbrev cX0_sizeOf : ByteArray := prog_2_method_7_code
def yX0_sizeOf : MethodName := ⟨RX0, "sizeOf", "(I)I"⟩
abbrev cX0_addPlace : ByteArray := prog_2_method_8_code
def yX0_addPlace : MethodName := ⟨RX0, "addPlace", "(IIII)I"⟩
abbrev cX0_addRule : ByteArray := prog_2_method_9_code
def yX0_addRule : MethodName := ⟨RX0, "addRule", "(IIIII)I"⟩
abbrev cX0_teach : ByteArray := prog_2_method_10_code
def yX0_teach : MethodName := ⟨RX0, "teach", "(III)V"⟩
abbrev cX0_placeSaidBy : ByteArray := prog_2_method_11_code
def yX0_placeSaidBy : MethodName := ⟨RX0, "placeSaidBy", "(I)I"⟩
abbrev cX0_valueSaidBy : ByteArray := prog_2_method_12_code
def yX0_valueSaidBy : MethodName := ⟨RX0, "valueSaidBy", "(I)I"⟩
abbrev cX0_leastWord : ByteArray := prog_2_method_13_code
def yX0_leastWord : MethodName := ⟨RX0, "leastWord", "(II)I"⟩
abbrev cX0_empty : ByteArray := prog_2_method_14_code
def yX0_empty : MethodName := ⟨RX0, "empty", "()V"⟩
abbrev cX0_sureValue : ByteArray := prog_2_method_15_code
def yX0_sureValue : MethodName := ⟨RX0, "sureValue", "(I)I"⟩
abbrev cX0_setOf : ByteArray := prog_2_method_16_code
def yX0_setOf : MethodName := ⟨RX0, "setOf", "(I)I"⟩
abbrev cX0_leastValue : ByteArray := prog_2_method_17_code
def yX0_leastValue : MethodName := ⟨RX0, "leastValue", "(I)I"⟩
abbrev cX0_isWanted : ByteArray := prog_2_method_18_code
def yX0_isWanted : MethodName := ⟨RX0, "isWanted", "(I)Z"⟩
abbrev cX0_questions : ByteArray := prog_2_method_19_code
def yX0_questions : MethodName := ⟨RX0, "questions", "()I"⟩
abbrev cX0_placeToConfirm : ByteArray := prog_2_method_20_code
def yX0_placeToConfirm : MethodName := ⟨RX0, "placeToConfirm", "()I"⟩
abbrev cX0_firstBrokenBar : ByteArray := prog_2_method_21_code
def yX0_firstBrokenBar : MethodName := ⟨RX0, "firstBrokenBar", "()I"⟩
abbrev cX0_put : ByteArray := prog_2_method_22_code
def yX0_put : MethodName := ⟨RX0, "put", "(III)V"⟩
abbrev cX0_settle : ByteArray := prog_2_method_23_code
def yX0_settle : MethodName := ⟨RX0, "settle", "(III)I"⟩
abbrev cX0_strike : ByteArray := prog_2_method_24_code
def yX0_strike : MethodName := ⟨RX0, "strike", "(II)V"⟩
abbrev cX0_copyTo : ByteArray := prog_2_method_25_code
def yX0_copyTo : MethodName := ⟨RX0, "copyTo", "([I[II)V"⟩
abbrev cX0_copyFrom : ByteArray := prog_2_method_26_code
def yX0_copyFrom : MethodName := ⟨RX0, "copyFrom", "([I[II)V"⟩
abbrev cX0_holdsForm : ByteArray := prog_2_method_27_code
def yX0_holdsForm : MethodName := ⟨RX0, "holdsForm", "([II)Z"⟩
def RX1 : String := "TalkKeeper$History"
def TX1 : u_T := fun k => match k with
  | 0 => ("TalkKeeper$History", "sets", "[I", true)
  | 1 => ("TalkKeeper$History", "sureValues", "[I", true)
  | 2 => ("TalkKeeper$History", "next", "I", false)
  | _ => ("TalkKeeper$History", "size", "I", false)
def tyX1 : Nat → FieldType := fun k => match k with
  | 0 => .array .int
  | 1 => .array .int
  | 2 => .int
  | _ => .int
abbrev wsX10 : List Cond := u_ws RX1 TX1 4
theorem nmX1 : ∀ a, a < 4 → ∀ b, b < 4 → a ≠ b → (TX1 a).2.1 ≠ (TX1 b).2.1 := by decide +kernel
theorem tyX1_ok : ∀ k, k < 4 → parseFieldDescriptor (TX1 k).2.2.1 = some (tyX1 k) := by decide +kernel
abbrev cX1_init : ByteArray := prog_3_method_1_code
def yX1_init : MethodName := ⟨RX1, "<init>", "()V"⟩
abbrev cX1_size : ByteArray := prog_3_method_2_code
def yX1_size : MethodName := ⟨RX1, "size", "()I"⟩
abbrev cX1_clear : ByteArray := prog_3_method_3_code
def yX1_clear : MethodName := ⟨RX1, "clear", "()V"⟩
abbrev cX1_keep : ByteArray := prog_3_method_4_code
def yX1_keep : MethodName := ⟨RX1, "keep", "([LTalkKeeper$Form;)V"⟩
abbrev cX1_restore : ByteArray := prog_3_method_5_code
def yX1_restore : MethodName := ⟨RX1, "restore", "([LTalkKeeper$Form;)V"⟩
def RX2 : String := "TalkKeeper$Planner"
def TX2 : u_T := fun k => match k with
  | 0 => ("TalkKeeper$Planner", "found", "[I", true)
  | _ => ("TalkKeeper$Planner", "weights", "[I", true)
def tyX2 : Nat → FieldType := fun k => match k with
  | 0 => .array .int
  | _ => .array .int
abbrev wsX20 : List Cond := u_ws RX2 TX2 2
theorem nmX2 : ∀ a, a < 2 → ∀ b, b < 2 → a ≠ b → (TX2 a).2.1 ≠ (TX2 b).2.1 := by decide +kernel
theorem tyX2_ok : ∀ k, k < 2 → parseFieldDescriptor (TX2 k).2.2.1 = some (tyX2 k) := by decide +kernel
abbrev cX2_init : ByteArray := prog_4_method_1_code
def yX2_init : MethodName := ⟨RX2, "<init>", "()V"⟩
abbrev cX2_fewestQuestions : ByteArray := prog_4_method_2_code
def yX2_fewestQuestions : MethodName := ⟨RX2, "fewestQuestions", "(LTalkKeeper$Form;)I"⟩
abbrev cX2_placeToAsk : ByteArray := prog_4_method_3_code
def yX2_placeToAsk : MethodName := ⟨RX2, "placeToAsk", "(LTalkKeeper$Form;)I"⟩
abbrev cX2_startFrom : ByteArray := prog_4_method_4_code
def yX2_startFrom : MethodName := ⟨RX2, "startFrom", "(LTalkKeeper$Form;)V"⟩
abbrev cX2_fewest : ByteArray := prog_4_method_5_code
def yX2_fewest : MethodName := ⟨RX2, "fewest", "(LTalkKeeper$Form;II)I"⟩
abbrev cX2_fewestBy : ByteArray := prog_4_method_6_code
def yX2_fewestBy : MethodName := ⟨RX2, "fewestBy", "(LTalkKeeper$Form;III)I"⟩
def RX3 : String := "TalkKeeper$Reader"
def TX3 : u_T := fun k => match k with
  | 0 => ("TalkKeeper$Reader", "words", "[I", true)
  | 1 => ("TalkKeeper$Reader", "length", "I", false)
  | 2 => ("TalkKeeper$Reader", "costs", "[I", true)
  | 3 => ("TalkKeeper$Reader", "ways", "[I", true)
  | 4 => ("TalkKeeper$Reader", "passed", "[I", true)
  | 5 => ("TalkKeeper$Reader", "usesRow", "[Z", true)
  | 6 => ("TalkKeeper$Reader", "fillings", "[I", true)
  | _ => ("TalkKeeper$Reader", "answer", "I", false)
def tyX3 : Nat → FieldType := fun k => match k with
  | 0 => .array .int
  | 1 => .int
  | 2 => .array .int
  | 3 => .array .int
  | 4 => .array .int
  | 5 => .array .boolean
  | 6 => .array .int
  | _ => .int
abbrev wsX30 : List Cond := u_ws RX3 TX3 8
theorem nmX3 : ∀ a, a < 8 → ∀ b, b < 8 → a ≠ b → (TX3 a).2.1 ≠ (TX3 b).2.1 := by decide +kernel
theorem tyX3_ok : ∀ k, k < 8 → parseFieldDescriptor (TX3 k).2.2.1 = some (tyX3 k) := by decide +kernel
abbrev cX3_init : ByteArray := prog_5_method_1_code
def yX3_init : MethodName := ⟨RX3, "<init>", "()V"⟩
abbrev cX3_leastCost : ByteArray := prog_5_method_2_code
def yX3_leastCost : MethodName := ⟨RX3, "leastCost", "()I"⟩
abbrev cX3_isHeard : ByteArray := prog_5_method_3_code
def yX3_isHeard : MethodName := ⟨RX3, "isHeard", "()Z"⟩
abbrev cX3_mostPassed : ByteArray := prog_5_method_4_code
def yX3_mostPassed : MethodName := ⟨RX3, "mostPassed", "()I"⟩
abbrev cX3_leastReadings : ByteArray := prog_5_method_5_code
def yX3_leastReadings : MethodName := ⟨RX3, "leastReadings", "()I"⟩
abbrev cX3_answer : ByteArray := prog_5_method_6_code
def yX3_answer : MethodName := ⟨RX3, "answer", "()I"⟩
abbrev cX3_valuesFor : ByteArray := prog_5_method_7_code
def yX3_valuesFor : MethodName := ⟨RX3, "valuesFor", "(I)I"⟩
abbrev cX3_mayLeave : ByteArray := prog_5_method_8_code
def yX3_mayLeave : MethodName := ⟨RX3, "mayLeave", "(I)Z"⟩
abbrev cX3_read : ByteArray := prog_5_method_9_code
def yX3_read : MethodName := ⟨RX3, "read", "(LTalkKeeper$Form;ILTalkKeeper$RowBook;[II)V"⟩
abbrev cX3_startAtEnd : ByteArray := prog_5_method_10_code
def yX3_startAtEnd : MethodName := ⟨RX3, "startAtEnd", "()V"⟩
abbrev cX3_passWord : ByteArray := prog_5_method_11_code
def yX3_passWord : MethodName := ⟨RX3, "passWord", "(I)V"⟩
abbrev cX3_useRow : ByteArray := prog_5_method_12_code
def yX3_useRow : MethodName := ⟨RX3, "useRow", "(LTalkKeeper$Form;LTalkKeeper$RowBook;II)V"⟩
abbrev cX3_clearAt : ByteArray := prog_5_method_13_code
def yX3_clearAt : MethodName := ⟨RX3, "clearAt", "(II)V"⟩
abbrev cX3_fillingByRow : ByteArray := prog_5_method_14_code
def yX3_fillingByRow : MethodName := ⟨RX3, "fillingByRow", "(LTalkKeeper$Form;LTalkKeeper$RowBook;III)I"⟩
abbrev cX3_fits : ByteArray := prog_5_method_15_code
def yX3_fits : MethodName := ⟨RX3, "fits", "(LTalkKeeper$Form;LTalkKeeper$RowBook;II)Z"⟩
abbrev cX3_itemFits : ByteArray := prog_5_method_16_code
def yX3_itemFits : MethodName := ⟨RX3, "itemFits", "(LTalkKeeper$Form;III)Z"⟩
abbrev cX3_commonAnswer : ByteArray := prog_5_method_17_code
def yX3_commonAnswer : MethodName := ⟨RX3, "commonAnswer", "(LTalkKeeper$Form;ILTalkKeeper$RowBook;)I"⟩
def RX4 : String := "TalkKeeper$RowBook"
def TX4 : u_T := fun k => match k with
  | 0 => ("TalkKeeper$RowBook", "rowCount", "I", false)
  | 1 => ("TalkKeeper$RowBook", "waiting", "I", false)
  | 2 => ("TalkKeeper$RowBook", "rowForms", "[I", true)
  | 3 => ("TalkKeeper$RowBook", "costs", "[I", true)
  | 4 => ("TalkKeeper$RowBook", "acts", "[I", true)
  | 5 => ("TalkKeeper$RowBook", "lengths", "[I", true)
  | 6 => ("TalkKeeper$RowBook", "kinds", "[I", true)
  | _ => ("TalkKeeper$RowBook", "keys", "[I", true)
def tyX4 : Nat → FieldType := fun k => match k with
  | 0 => .int
  | 1 => .int
  | 2 => .array .int
  | 3 => .array .int
  | 4 => .array .int
  | 5 => .array .int
  | 6 => .array .int
  | _ => .array .int
abbrev wsX40 : List Cond := u_ws RX4 TX4 8
theorem nmX4 : ∀ a, a < 8 → ∀ b, b < 8 → a ≠ b → (TX4 a).2.1 ≠ (TX4 b).2.1 := by decide +kernel
theorem tyX4_ok : ∀ k, k < 8 → parseFieldDescriptor (TX4 k).2.2.1 = some (tyX4 k) := by decide +kernel
abbrev cX4_init : ByteArray := prog_6_method_1_code
def yX4_init : MethodName := ⟨RX4, "<init>", "()V"⟩
abbrev cX4_rowCount : ByteArray := prog_6_method_2_code
def yX4_rowCount : MethodName := ⟨RX4, "rowCount", "()I"⟩
abbrev cX4_itemCount : ByteArray := prog_6_method_3_code
def yX4_itemCount : MethodName := ⟨RX4, "itemCount", "()I"⟩
abbrev cX4_addItem : ByteArray := prog_6_method_4_code
def yX4_addItem : MethodName := ⟨RX4, "addItem", "(II)I"⟩
abbrev cX4_itemsNamePlace : ByteArray := prog_6_method_5_code
def yX4_itemsNamePlace : MethodName := ⟨RX4, "itemsNamePlace", "()Z"⟩
abbrev cX4_itemsLackPlace : ByteArray := prog_6_method_6_code
def yX4_itemsLackPlace : MethodName := ⟨RX4, "itemsLackPlace", "(LTalkKeeper$Form;)Z"⟩
abbrev cX4_itemsNameWorked : ByteArray := prog_6_method_7_code
def yX4_itemsNameWorked : MethodName := ⟨RX4, "itemsNameWorked", "(LTalkKeeper$Form;)Z"⟩
abbrev cX4_addRow : ByteArray := prog_6_method_8_code
def yX4_addRow : MethodName := ⟨RX4, "addRow", "(III)I"⟩
abbrev cX4_isOfForm : ByteArray := prog_6_method_9_code
def yX4_isOfForm : MethodName := ⟨RX4, "isOfForm", "(II)Z"⟩
abbrev cX4_costOf : ByteArray := prog_6_method_10_code
def yX4_costOf : MethodName := ⟨RX4, "costOf", "(I)I"⟩
abbrev cX4_actOf : ByteArray := prog_6_method_11_code
def yX4_actOf : MethodName := ⟨RX4, "actOf", "(I)I"⟩
abbrev cX4_lengthOf : ByteArray := prog_6_method_12_code
def yX4_lengthOf : MethodName := ⟨RX4, "lengthOf", "(I)I"⟩
abbrev cX4_kindOfItem : ByteArray := prog_6_method_13_code
def yX4_kindOfItem : MethodName := ⟨RX4, "kindOfItem", "(II)I"⟩
abbrev cX4_keyOfItem : ByteArray := prog_6_method_14_code
def yX4_keyOfItem : MethodName := ⟨RX4, "keyOfItem", "(II)I"⟩
abbrev cX4_isRow : ByteArray := prog_6_method_15_code
def yX4_isRow : MethodName := ⟨RX4, "isRow", "(I)Z"⟩
abbrev cX4_isItemOf : ByteArray := prog_6_method_16_code
def yX4_isItemOf : MethodName := ⟨RX4, "isItemOf", "(II)Z"⟩
def RX5 : String := "TalkKeeper"
def TX5 : u_T := fun k => match k with
  | 0 => ("TalkKeeper", "forms", "[LTalkKeeper$Form;", true)
  | 1 => ("TalkKeeper", "formCount", "I", false)
  | 2 => ("TalkKeeper", "rows", "LTalkKeeper$RowBook;", true)
  | 3 => ("TalkKeeper", "pile", "[I", true)
  | 4 => ("TalkKeeper", "pileSize", "I", false)
  | 5 => ("TalkKeeper", "line", "[I", true)
  | 6 => ("TalkKeeper", "lineLength", "I", false)
  | 7 => ("TalkKeeper", "reader", "LTalkKeeper$Reader;", true)
  | 8 => ("TalkKeeper", "planner", "LTalkKeeper$Planner;", true)
  | 9 => ("TalkKeeper", "history", "LTalkKeeper$History;", true)
  | 10 => ("TalkKeeper", "misses", "I", false)
  | 11 => ("TalkKeeper", "brokenRule", "I", false)
  | 12 => ("TalkKeeper", "confirmPlace", "I", false)
  | _ => ("TalkKeeper", "confirmValue", "I", false)
def tyX5 : Nat → FieldType := fun k => match k with
  | 0 => .array (.object "TalkKeeper$Form")
  | 1 => .int
  | 2 => .object "TalkKeeper$RowBook"
  | 3 => .array .int
  | 4 => .int
  | 5 => .array .int
  | 6 => .int
  | 7 => .object "TalkKeeper$Reader"
  | 8 => .object "TalkKeeper$Planner"
  | 9 => .object "TalkKeeper$History"
  | 10 => .int
  | 11 => .int
  | 12 => .int
  | _ => .int
abbrev wsX50 : List Cond := u_ws RX5 TX5 14
theorem nmX5 : ∀ a, a < 14 → ∀ b, b < 14 → a ≠ b → (TX5 a).2.1 ≠ (TX5 b).2.1 := by decide +kernel
theorem tyX5_ok : ∀ k, k < 14 → parseFieldDescriptor (TX5 k).2.2.1 = some (tyX5 k) := by decide +kernel
abbrev cX5_init : ByteArray := prog_1_method_1_code
def yX5_init : MethodName := ⟨RX5, "<init>", "()V"⟩
abbrev cX5_form : ByteArray := prog_1_method_2_code
def yX5_form : MethodName := ⟨RX5, "form", "()I"⟩
abbrev cX5_place : ByteArray := prog_1_method_3_code
def yX5_place : MethodName := ⟨RX5, "place", "(III)I"⟩
abbrev cX5_worked : ByteArray := prog_1_method_4_code
def yX5_worked : MethodName := ⟨RX5, "worked", "(IIII)I"⟩
abbrev cX5_bar : ByteArray := prog_1_method_5_code
def yX5_bar : MethodName := ⟨RX5, "bar", "(IIIII)I"⟩
abbrev cX5_need : ByteArray := prog_1_method_6_code
def yX5_need : MethodName := ⟨RX5, "need", "(IIII)I"⟩
abbrev cX5_word : ByteArray := prog_1_method_7_code
def yX5_word : MethodName := ⟨RX5, "word", "(IIII)I"⟩
abbrev cX5_item : ByteArray := prog_1_method_8_code
def yX5_item : MethodName := ⟨RX5, "item", "(II)I"⟩
abbrev cX5_row : ByteArray := prog_1_method_9_code
def yX5_row : MethodName := ⟨RX5, "row", "(III)I"⟩
abbrev cX5_open : ByteArray := prog_1_method_10_code
def yX5_open : MethodName := ⟨RX5, "open", "(I)I"⟩
abbrev cX5_close : ByteArray := prog_1_method_11_code
def yX5_close : MethodName := ⟨RX5, "close", "()I"⟩
abbrev cX5_say : ByteArray := prog_1_method_12_code
def yX5_say : MethodName := ⟨RX5, "say", "(I)I"⟩
abbrev cX5_hear : ByteArray := prog_1_method_13_code
def yX5_hear : MethodName := ⟨RX5, "hear", "()I"⟩
abbrev cX5_back : ByteArray := prog_1_method_14_code
def yX5_back : MethodName := ⟨RX5, "back", "()I"⟩
abbrev cX5_act : ByteArray := prog_1_method_15_code
def yX5_act : MethodName := ⟨RX5, "act", "()I"⟩
abbrev cX5_worst : ByteArray := prog_1_method_16_code
def yX5_worst : MethodName := ⟨RX5, "worst", "()I"⟩
abbrev cX5_about : ByteArray := prog_1_method_17_code
def yX5_about : MethodName := ⟨RX5, "about", "(III)I"⟩
abbrev cX5_said : ByteArray := prog_1_method_18_code
def yX5_said : MethodName := ⟨RX5, "said", "(III)I"⟩
abbrev cX5_heard : ByteArray := prog_1_method_19_code
def yX5_heard : MethodName := ⟨RX5, "heard", "(I)I"⟩
abbrev cX5_count : ByteArray := prog_1_method_20_code
def yX5_count : MethodName := ⟨RX5, "count", "(I)I"⟩
abbrev cX5_asNumber : ByteArray := prog_1_method_21_code
def yX5_asNumber : MethodName := ⟨RX5, "asNumber", "(Z)I"⟩
abbrev cX5_isSize : ByteArray := prog_1_method_22_code
def yX5_isSize : MethodName := ⟨RX5, "isSize", "(I)Z"⟩
abbrev cX5_isWord : ByteArray := prog_1_method_23_code
def yX5_isWord : MethodName := ⟨RX5, "isWord", "(I)Z"⟩
abbrev cX5_isItem : ByteArray := prog_1_method_24_code
def yX5_isItem : MethodName := ⟨RX5, "isItem", "(II)Z"⟩
abbrev cX5_formAt : ByteArray := prog_1_method_25_code
def yX5_formAt : MethodName := ⟨RX5, "formAt", "(I)LTalkKeeper$Form;"⟩
abbrev cX5_isInTalk : ByteArray := prog_1_method_26_code
def yX5_isInTalk : MethodName := ⟨RX5, "isInTalk", "(I)Z"⟩
abbrev cX5_uppermost : ByteArray := prog_1_method_27_code
def yX5_uppermost : MethodName := ⟨RX5, "uppermost", "()I"⟩
abbrev cX5_turnPage : ByteArray := prog_1_method_28_code
def yX5_turnPage : MethodName := ⟨RX5, "turnPage", "()V"⟩
abbrev cX5_forgetConfirm : ByteArray := prog_1_method_29_code
def yX5_forgetConfirm : MethodName := ⟨RX5, "forgetConfirm", "()V"⟩
abbrev cX5_takeLine : ByteArray := prog_1_method_30_code
def yX5_takeLine : MethodName := ⟨RX5, "takeLine", "(LTalkKeeper$Form;)I"⟩
abbrev cX5_fillPlaces : ByteArray := prog_1_method_31_code
def yX5_fillPlaces : MethodName := ⟨RX5, "fillPlaces", "(LTalkKeeper$Form;)I"⟩
abbrev cX5_fillPlace : ByteArray := prog_1_method_32_code
def yX5_fillPlace : MethodName := ⟨RX5, "fillPlace", "(LTalkKeeper$Form;I)I"⟩
abbrev cX5_onlyValue : ByteArray := prog_1_method_33_code
def yX5_onlyValue : MethodName := ⟨RX5, "onlyValue", "(I)I"⟩
def RX6 : String := "TalkKeeperModel"
def TX6 : u_T := fun k => match k with
  | 0 => ("TalkKeeperModel", "thrown", "I", false)
  | 1 => ("TalkKeeperModel", "forms", "I", false)
  | 2 => ("TalkKeeperModel", "places", "[I", true)
  | 3 => ("TalkKeeperModel", "kind", "[I", true)
  | 4 => ("TalkKeeperModel", "values", "[I", true)
  | 5 => ("TalkKeeperModel", "partA", "[I", true)
  | 6 => ("TalkKeeperModel", "partB", "[I", true)
  | 7 => ("TalkKeeperModel", "set", "[I", true)
  | 8 => ("TalkKeeperModel", "sure", "[Z", true)
  | 9 => ("TalkKeeperModel", "rules", "[I", true)
  | 10 => ("TalkKeeperModel", "isBar", "[Z", true)
  | 11 => ("TalkKeeperModel", "ruleA", "[I", true)
  | 12 => ("TalkKeeperModel", "ruleV", "[I", true)
  | 13 => ("TalkKeeperModel", "ruleB", "[I", true)
  | 14 => ("TalkKeeperModel", "ruleW", "[I", true)
  | 15 => ("TalkKeeperModel", "says", "[I", true)
  | 16 => ("TalkKeeperModel", "rows", "I", false)
  | 17 => ("TalkKeeperModel", "rowForm", "[I", true)
  | 18 => ("TalkKeeperModel", "rowCost", "[I", true)
  | 19 => ("TalkKeeperModel", "rowAct", "[I", true)
  | 20 => ("TalkKeeperModel", "rowSize", "[I", true)
  | 21 => ("TalkKeeperModel", "itemWhat", "[I", true)
  | 22 => ("TalkKeeperModel", "itemOf", "[I", true)
  | 23 => ("TalkKeeperModel", "items", "I", false)
  | 24 => ("TalkKeeperModel", "pile", "[I", true)
  | 25 => ("TalkKeeperModel", "piled", "I", false)
  | 26 => ("TalkKeeperModel", "kept", "I", false)
  | 27 => ("TalkKeeperModel", "keptSet", "[I", true)
  | 28 => ("TalkKeeperModel", "keptSure", "[Z", true)
  | 29 => ("TalkKeeperModel", "askedPlace", "I", false)
  | 30 => ("TalkKeeperModel", "askedValue", "I", false)
  | 31 => ("TalkKeeperModel", "unheard", "I", false)
  | 32 => ("TalkKeeperModel", "line", "[I", true)
  | 33 => ("TalkKeeperModel", "said", "I", false)
  | 34 => ("TalkKeeperModel", "cost", "[I", true)
  | 35 => ("TalkKeeperModel", "many", "[I", true)
  | 36 => ("TalkKeeperModel", "passed", "[I", true)
  | 37 => ("TalkKeeperModel", "uses", "[Z", true)
  | 38 => ("TalkKeeperModel", "outcome", "[I", true)
  | 39 => ("TalkKeeperModel", "lastCost", "I", false)
  | 40 => ("TalkKeeperModel", "lastHeard", "I", false)
  | 41 => ("TalkKeeperModel", "lastPassed", "I", false)
  | 42 => ("TalkKeeperModel", "lastMany", "I", false)
  | 43 => ("TalkKeeperModel", "lastBroken", "I", false)
  | _ => ("TalkKeeperModel", "worsts", "[I", true)
def tyX6 : Nat → FieldType := fun k => match k with
  | 0 => .int
  | 1 => .int
  | 2 => .array .int
  | 3 => .array .int
  | 4 => .array .int
  | 5 => .array .int
  | 6 => .array .int
  | 7 => .array .int
  | 8 => .array .boolean
  | 9 => .array .int
  | 10 => .array .boolean
  | 11 => .array .int
  | 12 => .array .int
  | 13 => .array .int
  | 14 => .array .int
  | 15 => .array .int
  | 16 => .int
  | 17 => .array .int
  | 18 => .array .int
  | 19 => .array .int
  | 20 => .array .int
  | 21 => .array .int
  | 22 => .array .int
  | 23 => .int
  | 24 => .array .int
  | 25 => .int
  | 26 => .int
  | 27 => .array .int
  | 28 => .array .boolean
  | 29 => .int
  | 30 => .int
  | 31 => .int
  | 32 => .array .int
  | 33 => .int
  | 34 => .array .int
  | 35 => .array .int
  | 36 => .array .int
  | 37 => .array .boolean
  | 38 => .array .int
  | 39 => .int
  | 40 => .int
  | 41 => .int
  | 42 => .int
  | 43 => .int
  | _ => .array .int
abbrev wsX60 : List Cond := u_ws RX6 TX6 45
theorem nmX6 : ∀ a, a < 45 → ∀ b, b < 45 → a ≠ b → (TX6 a).2.1 ≠ (TX6 b).2.1 := by decide +kernel
theorem tyX6_ok : ∀ k, k < 45 → parseFieldDescriptor (TX6 k).2.2.1 = some (tyX6 k) := by decide +kernel
abbrev cX6_init : ByteArray := prog_8_method_1_code
def yX6_init : MethodName := ⟨RX6, "<init>", "()V"⟩
abbrev cX6_in : ByteArray := prog_8_method_3_code
def yX6_in : MethodName := ⟨RX6, "in", "(III)Z"⟩
abbrev cX6_isForm : ByteArray := prog_8_method_4_code
def yX6_isForm : MethodName := ⟨RX6, "isForm", "(I)Z"⟩
abbrev cX6_isPlace : ByteArray := prog_8_method_5_code
def yX6_isPlace : MethodName := ⟨RX6, "isPlace", "(II)Z"⟩
abbrev cX6_isValue : ByteArray := prog_8_method_6_code
def yX6_isValue : MethodName := ⟨RX6, "isValue", "(III)Z"⟩
abbrev cX6_isOpen : ByteArray := prog_8_method_7_code
def yX6_isOpen : MethodName := ⟨RX6, "isOpen", "(I)Z"⟩
abbrev cX6_form : ByteArray := prog_8_method_8_code
def yX6_form : MethodName := ⟨RX6, "form", "()I"⟩
abbrev cX6_comes : ByteArray := prog_8_method_9_code
def yX6_comes : MethodName := ⟨RX6, "comes", "(III)I"⟩
abbrev cX6_place : ByteArray := prog_8_method_10_code
def yX6_place : MethodName := ⟨RX6, "place", "(III)I"⟩
abbrev cX6_worked : ByteArray := prog_8_method_11_code
def yX6_worked : MethodName := ⟨RX6, "worked", "(IIII)I"⟩
abbrev cX6_rule : ByteArray := prog_8_method_12_code
def yX6_rule : MethodName := ⟨RX6, "rule", "(IZIIII)I"⟩
abbrev cX6_bar : ByteArray := prog_8_method_13_code
def yX6_bar : MethodName := ⟨RX6, "bar", "(IIIII)I"⟩
abbrev cX6_need : ByteArray := prog_8_method_14_code
def yX6_need : MethodName := ⟨RX6, "need", "(IIII)I"⟩
abbrev cX6_word : ByteArray := prog_8_method_15_code
def yX6_word : MethodName := ⟨RX6, "word", "(IIII)I"⟩
abbrev cX6_item : ByteArray := prog_8_method_16_code
def yX6_item : MethodName := ⟨RX6, "item", "(II)I"⟩
abbrev cX6_row : ByteArray := prog_8_method_17_code
def yX6_row : MethodName := ⟨RX6, "row", "(III)I"⟩
abbrev cX6_lowest : ByteArray := prog_8_method_18_code
def yX6_lowest : MethodName := ⟨RX6, "lowest", "(I)I"⟩
abbrev cX6_valueOf : ByteArray := prog_8_method_19_code
def yX6_valueOf : MethodName := ⟨RX6, "valueOf", "(I)I"⟩
abbrev cX6_isWanted : ByteArray := prog_8_method_20_code
def yX6_isWanted : MethodName := ⟨RX6, "isWanted", "(II)Z"⟩
abbrev cX6_broken : ByteArray := prog_8_method_21_code
def yX6_broken : MethodName := ⟨RX6, "broken", "(I)I"⟩
abbrev cX6_open : ByteArray := prog_8_method_22_code
def yX6_open : MethodName := ⟨RX6, "open", "(I)I"⟩
abbrev cX6_close : ByteArray := prog_8_method_23_code
def yX6_close : MethodName := ⟨RX6, "close", "()I"⟩
abbrev cX6_keep : ByteArray := prog_8_method_24_code
def yX6_keep : MethodName := ⟨RX6, "keep", "()V"⟩
abbrev cX6_back : ByteArray := prog_8_method_25_code
def yX6_back : MethodName := ⟨RX6, "back", "()I"⟩
abbrev cX6_say : ByteArray := prog_8_method_26_code
def yX6_say : MethodName := ⟨RX6, "say", "(I)I"⟩
abbrev cX6_fits : ByteArray := prog_8_method_27_code
def yX6_fits : MethodName := ⟨RX6, "fits", "(III)Z"⟩
abbrev cX6_isLeast : ByteArray := prog_8_method_28_code
def yX6_isLeast : MethodName := ⟨RX6, "isLeast", "(III)Z"⟩
abbrev cX6_mayPass : ByteArray := prog_8_method_29_code
def yX6_mayPass : MethodName := ⟨RX6, "mayPass", "(I)Z"⟩
abbrev cX6_work : ByteArray := prog_8_method_30_code
def yX6_work : MethodName := ⟨RX6, "work", "(I)V"⟩
abbrev cX6_filled : ByteArray := prog_8_method_31_code
def yX6_filled : MethodName := ⟨RX6, "filled", "(IIIII)I"⟩
abbrev cX6_outcomes : ByteArray := prog_8_method_32_code
def yX6_outcomes : MethodName := ⟨RX6, "outcomes", "(II)I"⟩
abbrev cX6_isOne : ByteArray := prog_8_method_33_code
def yX6_isOne : MethodName := ⟨RX6, "isOne", "(I)Z"⟩
abbrev cX6_fills : ByteArray := prog_8_method_34_code
def yX6_fills : MethodName := ⟨RX6, "fills", "(I)V"⟩
abbrev cX6_reverts : ByteArray := prog_8_method_35_code
def yX6_reverts : MethodName := ⟨RX6, "reverts", "(IIIZ)V"⟩
abbrev cX6_isAll : ByteArray := prog_8_method_36_code
def yX6_isAll : MethodName := ⟨RX6, "isAll", "(II)Z"⟩
abbrev cX6_answers : ByteArray := prog_8_method_37_code
def yX6_answers : MethodName := ⟨RX6, "answers", "(I)V"⟩
abbrev cX6_hear : ByteArray := prog_8_method_38_code
def yX6_hear : MethodName := ⟨RX6, "hear", "()I"⟩
abbrev cX6_state : ByteArray := prog_8_method_39_code
def yX6_state : MethodName := ⟨RX6, "state", "(I)I"⟩
abbrev cX6_worstBy : ByteArray := prog_8_method_40_code
def yX6_worstBy : MethodName := ⟨RX6, "worstBy", "(II)I"⟩
abbrev cX6_worstOf : ByteArray := prog_8_method_41_code
def yX6_worstOf : MethodName := ⟨RX6, "worstOf", "(I)I"⟩
abbrev cX6_forget : ByteArray := prog_8_method_42_code
def yX6_forget : MethodName := ⟨RX6, "forget", "()V"⟩
abbrev cX6_worst : ByteArray := prog_8_method_43_code
def yX6_worst : MethodName := ⟨RX6, "worst", "()I"⟩
abbrev cX6_act : ByteArray := prog_8_method_44_code
def yX6_act : MethodName := ⟨RX6, "act", "()I"⟩
abbrev cX6_about : ByteArray := prog_8_method_45_code
def yX6_about : MethodName := ⟨RX6, "about", "(III)I"⟩
abbrev cX6_said : ByteArray := prog_8_method_46_code
def yX6_said : MethodName := ⟨RX6, "said", "(III)I"⟩
abbrev cX6_heard : ByteArray := prog_8_method_47_code
def yX6_heard : MethodName := ⟨RX6, "heard", "(I)I"⟩
abbrev cX6_count : ByteArray := prog_8_method_48_code
def yX6_count : MethodName := ⟨RX6, "count", "(I)I"⟩
def RJ6 : String := "java/lang/Integer"
def TJ6 : u_T := fun k => match k with
  | _ => ("", "", "", false)
def tyJ6 : Nat → FieldType := fun k => match k with
  | _ => .int
theorem nmJ6 : ∀ a, a < 0 → ∀ b, b < 0 → a ≠ b → (TJ6 a).2.1 ≠ (TJ6 b).2.1 := by decide +kernel
theorem tyJ6_ok : ∀ k, k < 0 → parseFieldDescriptor (TJ6 k).2.2.1 = some (tyJ6 k) := by decide +kernel
abbrev cJ6_bitCount_0f7a4 : ByteArray := prog_9_method_49_code
def yJ6_bitCount_0f7a4 : MethodName := ⟨RJ6, "bitCount", "(I)I"⟩
def RJ9 : String := "java/lang/Math"
def TJ9 : u_T := fun k => match k with
  | _ => ("", "", "", false)
def tyJ9 : Nat → FieldType := fun k => match k with
  | _ => .int
theorem nmJ9 : ∀ a, a < 0 → ∀ b, b < 0 → a ≠ b → (TJ9 a).2.1 ≠ (TJ9 b).2.1 := by decide +kernel
theorem tyJ9_ok : ∀ k, k < 0 → parseFieldDescriptor (TJ9 k).2.2.1 = some (tyJ9 k) := by decide +kernel
abbrev cJ9_max_7cf53 : ByteArray := prog_10_method_65_code
def yJ9_max_7cf53 : MethodName := ⟨RJ9, "max", "(II)I"⟩
abbrev cJ9_min_7cf53 : ByteArray := prog_10_method_69_code
def yJ9_min_7cf53 : MethodName := ⟨RJ9, "min", "(II)I"⟩
def RJ10 : String := "java/lang/System"
def TJ10 : u_T := fun k => match k with
  | _ => ("", "", "", false)
def tyJ10 : Nat → FieldType := fun k => match k with
  | _ => .int
theorem nmJ10 : ∀ a, a < 0 → ∀ b, b < 0 → a ≠ b → (TJ10 a).2.1 ≠ (TJ10 b).2.1 := by decide +kernel
theorem tyJ10_ok : ∀ k, k < 0 → parseFieldDescriptor (TJ10 k).2.2.1 = some (tyJ10 k) := by decide +kernel
def RJ7 : String := "java/util/Arrays"
def TJ7 : u_T := fun k => match k with
  | _ => ("", "", "", false)
def tyJ7 : Nat → FieldType := fun k => match k with
  | _ => .int
theorem nmJ7 : ∀ a, a < 0 → ∀ b, b < 0 → a ≠ b → (TJ7 a).2.1 ≠ (TJ7 b).2.1 := by decide +kernel
theorem tyJ7_ok : ∀ k, k < 0 → parseFieldDescriptor (TJ7 k).2.2.1 = some (tyJ7 k) := by decide +kernel
abbrev cJ7_fill_53178 : ByteArray := prog_12_method_103_code
def yJ7_fill_53178 : MethodName := ⟨RJ7, "fill", "([II)V"⟩
def RL : String := "TalkKeeperLaw"
abbrev cL_law : ByteArray := code
def yL_law : MethodName := ⟨RL, "law", "([I)Z"⟩
def wsL_law_r1 : List Cond := [Cond.classLink RL 7 RX5, Cond.instantiable RX5 14, Cond.initialized RX5, Cond.classLink RL 10 RX6, Cond.instantiable RX6 45, Cond.initialized RX6, Cond.methodLink RL 9 yX5_init, Cond.instanceMethod yX5_init, Cond.code yX5_init cX5_init 1 none, Cond.methodLink RX5 1 objectInit, Cond.instanceMethod objectInit, Cond.code objectInit ⟨#[0xb1]⟩ 1 none, Cond.classLink RX5 9 RX0, Cond.fieldLink RX5 11 "TalkKeeper" "forms" "[LTalkKeeper$Form;", Cond.fieldLink RX5 15 "TalkKeeper" "formCount" "I", Cond.classLink RX5 19 RX4, Cond.instantiable RX4 8, Cond.initialized RX4, Cond.fieldLink RX5 22 "TalkKeeper" "rows" "LTalkKeeper$RowBook;", Cond.arrayClass .int, Cond.fieldLink RX5 26 "TalkKeeper" "pile" "[I", Cond.fieldLink RX5 30 "TalkKeeper" "pileSize" "I", Cond.fieldLink RX5 33 "TalkKeeper" "line" "[I", Cond.fieldLink RX5 36 "TalkKeeper" "lineLength" "I"]
def wsL_law_r2 : List Cond := [Cond.classLink RX5 39 RX3, Cond.instantiable RX3 8, Cond.initialized RX3, Cond.fieldLink RX5 42 "TalkKeeper" "reader" "LTalkKeeper$Reader;", Cond.classLink RX5 46 RX2, Cond.instantiable RX2 2, Cond.initialized RX2, Cond.fieldLink RX5 49 "TalkKeeper" "planner" "LTalkKeeper$Planner;", Cond.classLink RX5 53 RX1, Cond.instantiable RX1 4, Cond.initialized RX1, Cond.fieldLink RX5 56 "TalkKeeper" "history" "LTalkKeeper$History;", Cond.fieldLink RX5 60 "TalkKeeper" "misses" "I", Cond.fieldLink RX5 63 "TalkKeeper" "brokenRule" "I", Cond.fieldLink RX5 66 "TalkKeeper" "confirmPlace" "I", Cond.fieldLink RX5 69 "TalkKeeper" "confirmValue" "I", Cond.instanceMethod yX4_init, Cond.code yX4_init cX4_init 1 none, Cond.methodLink RX4 3 objectInit, Cond.fieldLink RX4 9 "TalkKeeper$RowBook" "rowCount" "I", Cond.fieldLink RX4 15 "TalkKeeper$RowBook" "waiting" "I", Cond.fieldLink RX4 18 "TalkKeeper$RowBook" "rowForms" "[I", Cond.fieldLink RX4 22 "TalkKeeper$RowBook" "costs" "[I", Cond.fieldLink RX4 25 "TalkKeeper$RowBook" "acts" "[I"]
def wsL_law_r3 : List Cond := [Cond.fieldLink RX4 28 "TalkKeeper$RowBook" "lengths" "[I", Cond.fieldLink RX4 31 "TalkKeeper$RowBook" "kinds" "[I", Cond.fieldLink RX4 34 "TalkKeeper$RowBook" "keys" "[I", Cond.instanceMethod yX3_init, Cond.code yX3_init cX3_init 1 none, Cond.methodLink RX3 5 objectInit, Cond.fieldLink RX3 11 "TalkKeeper$Reader" "words" "[I", Cond.fieldLink RX3 15 "TalkKeeper$Reader" "length" "I", Cond.fieldLink RX3 19 "TalkKeeper$Reader" "costs" "[I", Cond.fieldLink RX3 22 "TalkKeeper$Reader" "ways" "[I", Cond.fieldLink RX3 25 "TalkKeeper$Reader" "passed" "[I", Cond.arrayClass .boolean, Cond.fieldLink RX3 28 "TalkKeeper$Reader" "usesRow" "[Z", Cond.fieldLink RX3 32 "TalkKeeper$Reader" "fillings" "[I", Cond.fieldLink RX3 35 "TalkKeeper$Reader" "answer" "I", Cond.instanceMethod yX2_init, Cond.code yX2_init cX2_init 1 none, Cond.methodLink RX2 3 objectInit, Cond.fieldLink RX2 11 "TalkKeeper$Planner" "found" "[I", Cond.fieldLink RX2 15 "TalkKeeper$Planner" "weights" "[I", Cond.methodLink RX5 55 yX1_init, Cond.instanceMethod yX1_init, Cond.code yX1_init cX1_init 1 none, Cond.methodLink RX1 3 objectInit]
def wsL_law_r4 : List Cond := [Cond.fieldLink RX1 11 "TalkKeeper$History" "sets" "[I", Cond.fieldLink RX1 15 "TalkKeeper$History" "sureValues" "[I", Cond.fieldLink RX1 18 "TalkKeeper$History" "next" "I", Cond.fieldLink RX1 22 "TalkKeeper$History" "size" "I", Cond.methodLink RX1 25 yJ7_fill_53178, Cond.static yJ7_fill_53178, Cond.initialized RJ7, Cond.code yJ7_fill_53178 cJ7_fill_53178 4 none, Cond.methodLink RL 12 yX6_init, Cond.instanceMethod yX6_init, Cond.code yX6_init cX6_init 1 none, Cond.methodLink RX6 1 objectInit, Cond.fieldLink RX6 7 "TalkKeeperModel" "places" "[I", Cond.fieldLink RX6 13 "TalkKeeperModel" "kind" "[I", Cond.fieldLink RX6 16 "TalkKeeperModel" "values" "[I", Cond.fieldLink RX6 19 "TalkKeeperModel" "partA" "[I", Cond.fieldLink RX6 22 "TalkKeeperModel" "partB" "[I", Cond.fieldLink RX6 25 "TalkKeeperModel" "set" "[I", Cond.fieldLink RX6 28 "TalkKeeperModel" "sure" "[Z", Cond.fieldLink RX6 32 "TalkKeeperModel" "rules" "[I", Cond.fieldLink RX6 35 "TalkKeeperModel" "isBar" "[Z", Cond.fieldLink RX6 38 "TalkKeeperModel" "ruleA" "[I", Cond.fieldLink RX6 41 "TalkKeeperModel" "ruleV" "[I", Cond.fieldLink RX6 44 "TalkKeeperModel" "ruleB" "[I"]
def wsL_law_r5 : List Cond := [Cond.fieldLink RX6 47 "TalkKeeperModel" "ruleW" "[I", Cond.fieldLink RX6 50 "TalkKeeperModel" "says" "[I", Cond.fieldLink RX6 53 "TalkKeeperModel" "rowForm" "[I", Cond.fieldLink RX6 56 "TalkKeeperModel" "rowCost" "[I", Cond.fieldLink RX6 59 "TalkKeeperModel" "rowAct" "[I", Cond.fieldLink RX6 62 "TalkKeeperModel" "rowSize" "[I", Cond.fieldLink RX6 65 "TalkKeeperModel" "itemWhat" "[I", Cond.fieldLink RX6 68 "TalkKeeperModel" "itemOf" "[I", Cond.fieldLink RX6 71 "TalkKeeperModel" "pile" "[I", Cond.fieldLink RX6 74 "TalkKeeperModel" "keptSet" "[I", Cond.fieldLink RX6 77 "TalkKeeperModel" "keptSure" "[Z", Cond.fieldLink RX6 80 "TalkKeeperModel" "askedPlace" "I", Cond.fieldLink RX6 84 "TalkKeeperModel" "line" "[I", Cond.fieldLink RX6 87 "TalkKeeperModel" "cost" "[I", Cond.fieldLink RX6 90 "TalkKeeperModel" "many" "[I", Cond.fieldLink RX6 93 "TalkKeeperModel" "passed" "[I", Cond.fieldLink RX6 96 "TalkKeeperModel" "uses" "[Z", Cond.fieldLink RX6 99 "TalkKeeperModel" "outcome" "[I", Cond.fieldLink RX6 102 "TalkKeeperModel" "lastBroken" "I", Cond.fieldLink RX6 105 "TalkKeeperModel" "worsts" "[I", Cond.methodLink RL 13 yX5_form, Cond.instanceMethod yX5_form, Cond.selects RX5 yX5_form yX5_form, Cond.code yX5_form cX5_form 1 (some .int)]
def wsL_law_r6 : List Cond := [Cond.instantiable RX0 15, Cond.initialized RX0, Cond.methodLink RX5 72 yX0_init, Cond.instanceMethod yX0_init, Cond.code yX0_init cX0_init 1 none, Cond.methodLink RX0 3 objectInit, Cond.fieldLink RX0 9 "TalkKeeper$Form" "places" "I", Cond.fieldLink RX0 15 "TalkKeeper$Form" "kinds" "[I", Cond.fieldLink RX0 19 "TalkKeeper$Form" "sizes" "[I", Cond.fieldLink RX0 22 "TalkKeeper$Form" "firstParts" "[I", Cond.fieldLink RX0 25 "TalkKeeper$Form" "secondParts" "[I", Cond.fieldLink RX0 28 "TalkKeeper$Form" "sets" "[I", Cond.fieldLink RX0 31 "TalkKeeper$Form" "sureValues" "[I", Cond.fieldLink RX0 34 "TalkKeeper$Form" "rules" "I", Cond.fieldLink RX0 37 "TalkKeeper$Form" "ruleKinds" "[I", Cond.fieldLink RX0 40 "TalkKeeper$Form" "leftPlaces" "[I", Cond.fieldLink RX0 43 "TalkKeeper$Form" "leftValues" "[I", Cond.fieldLink RX0 46 "TalkKeeper$Form" "rightPlaces" "[I", Cond.fieldLink RX0 49 "TalkKeeper$Form" "rightValues" "[I", Cond.fieldLink RX0 52 "TalkKeeper$Form" "wordPlaces" "[I", Cond.fieldLink RX0 55 "TalkKeeper$Form" "wordValues" "[I", Cond.methodLink RX0 58 yJ7_fill_53178, Cond.methodLink RL 17 yX6_form, Cond.instanceMethod yX6_form]
def wsL_law_r7 : List Cond := [Cond.selects RX6 yX6_form yX6_form, Cond.code yX6_form cX6_form 2 (some .int), Cond.fieldLink RX6 111 "TalkKeeperModel" "forms" "I", Cond.methodLink RL 18 yX5_place, Cond.instanceMethod yX5_place, Cond.selects RX5 yX5_place yX5_place, Cond.code yX5_place cX5_place 5 (some .int), Cond.methodLink RX5 73 yX5_formAt, Cond.instanceMethod yX5_formAt, Cond.selects RX5 yX5_formAt yX5_formAt, Cond.code yX5_formAt cX5_formAt 2 (some (.object "TalkKeeper$Form")), Cond.methodLink RX5 77 yX5_isSize, Cond.static yX5_isSize, Cond.code yX5_isSize cX5_isSize 1 (some .boolean), Cond.methodLink RX5 81 yX5_isInTalk, Cond.instanceMethod yX5_isInTalk, Cond.selects RX5 yX5_isInTalk yX5_isInTalk, Cond.code yX5_isInTalk cX5_isInTalk 3 (some .boolean), Cond.methodLink RX5 84 yX0_addPlace, Cond.instanceMethod yX0_addPlace, Cond.selects RX0 yX0_addPlace yX0_addPlace, Cond.code yX0_addPlace cX0_addPlace 5 (some .int), Cond.methodLink RL 22 yX6_place, Cond.instanceMethod yX6_place]
def wsL_law_r8 : List Cond := [Cond.selects RX6 yX6_place yX6_place, Cond.code yX6_place cX6_place 4 (some .int), Cond.methodLink RX6 118 yX6_isForm, Cond.instanceMethod yX6_isForm, Cond.selects RX6 yX6_isForm yX6_isForm, Cond.code yX6_isForm cX6_isForm 2 (some .boolean), Cond.methodLink RX6 114 yX6_in, Cond.static yX6_in, Cond.code yX6_in cX6_in 3 (some .boolean), Cond.methodLink RX6 129 yX6_isOpen, Cond.instanceMethod yX6_isOpen, Cond.selects RX6 yX6_isOpen yX6_isOpen, Cond.code yX6_isOpen cX6_isOpen 4 (some .boolean), Cond.fieldLink RX6 126 "TalkKeeperModel" "piled" "I", Cond.methodLink RX6 132 yX6_comes, Cond.instanceMethod yX6_comes, Cond.selects RX6 yX6_comes yX6_comes, Cond.code yX6_comes cX6_comes 5 (some .int), Cond.methodLink RL 23 yX5_worked, Cond.instanceMethod yX5_worked, Cond.selects RX5 yX5_worked yX5_worked, Cond.code yX5_worked cX5_worked 6 (some .int), Cond.methodLink RX5 88 yX0_hasPlace, Cond.instanceMethod yX0_hasPlace]
def wsL_law_r9 : List Cond := [Cond.selects RX0 yX0_hasPlace yX0_hasPlace, Cond.code yX0_hasPlace cX0_hasPlace 2 (some .boolean), Cond.methodLink RX5 91 yX0_isWorked, Cond.instanceMethod yX0_isWorked, Cond.selects RX0 yX0_isWorked yX0_isWorked, Cond.code yX0_isWorked cX0_isWorked 2 (some .boolean), Cond.methodLink RX0 64 yX0_hasPlace, Cond.methodLink RL 27 yX6_worked, Cond.instanceMethod yX6_worked, Cond.selects RX6 yX6_worked yX6_worked, Cond.code yX6_worked cX6_worked 6 (some .int), Cond.methodLink RX6 122 yX6_isPlace, Cond.instanceMethod yX6_isPlace, Cond.selects RX6 yX6_isPlace yX6_isPlace, Cond.code yX6_isPlace cX6_isPlace 3 (some .boolean), Cond.methodLink RL 28 yX5_bar, Cond.instanceMethod yX5_bar, Cond.selects RX5 yX5_bar yX5_bar, Cond.code yX5_bar cX5_bar 7 (some .int), Cond.methodLink RX5 94 yX0_hasValue, Cond.instanceMethod yX0_hasValue, Cond.selects RX0 yX0_hasValue yX0_hasValue, Cond.code yX0_hasValue cX0_hasValue 3 (some .boolean), Cond.methodLink RX5 98 yX0_addRule]
def wsL_law_r10 : List Cond := [Cond.instanceMethod yX0_addRule, Cond.selects RX0 yX0_addRule yX0_addRule, Cond.code yX0_addRule cX0_addRule 6 (some .int), Cond.methodLink RL 32 yX6_bar, Cond.instanceMethod yX6_bar, Cond.selects RX6 yX6_bar yX6_bar, Cond.code yX6_bar cX6_bar 6 (some .int), Cond.methodLink RX6 136 yX6_isValue, Cond.instanceMethod yX6_isValue, Cond.selects RX6 yX6_isValue yX6_isValue, Cond.code yX6_isValue cX6_isValue 4 (some .boolean), Cond.methodLink RX6 139 yX6_rule, Cond.instanceMethod yX6_rule, Cond.selects RX6 yX6_rule yX6_rule, Cond.code yX6_rule cX6_rule 8 (some .int), Cond.methodLink RL 33 yX5_need, Cond.instanceMethod yX5_need, Cond.selects RX5 yX5_need yX5_need, Cond.code yX5_need cX5_need 6 (some .int), Cond.methodLink RL 36 yX6_need, Cond.instanceMethod yX6_need, Cond.selects RX6 yX6_need yX6_need, Cond.code yX6_need cX6_need 5 (some .int), Cond.methodLink RL 37 yX5_word]
def wsL_law_r11 : List Cond := [Cond.instanceMethod yX5_word, Cond.selects RX5 yX5_word yX5_word, Cond.code yX5_word cX5_word 6 (some .int), Cond.methodLink RX5 102 yX5_isWord, Cond.static yX5_isWord, Cond.code yX5_isWord cX5_isWord 1 (some .boolean), Cond.methodLink RX5 105 yX0_placeSaidBy, Cond.instanceMethod yX0_placeSaidBy, Cond.selects RX0 yX0_placeSaidBy yX0_placeSaidBy, Cond.code yX0_placeSaidBy cX0_placeSaidBy 2 (some .int), Cond.methodLink RX5 109 yX0_teach, Cond.instanceMethod yX0_teach, Cond.selects RX0 yX0_teach yX0_teach, Cond.code yX0_teach cX0_teach 4 none, Cond.methodLink RL 40 yX6_word, Cond.instanceMethod yX6_word, Cond.selects RX6 yX6_word yX6_word, Cond.code yX6_word cX6_word 5 (some .int), Cond.methodLink RL 41 yX5_item, Cond.instanceMethod yX5_item, Cond.selects RX5 yX5_item yX5_item, Cond.code yX5_item cX5_item 3 (some .int), Cond.methodLink RX5 113 yX5_isItem, Cond.static yX5_isItem]
def wsL_law_r12 : List Cond := [Cond.code yX5_isItem cX5_isItem 2 (some .boolean), Cond.methodLink RX5 116 yX4_addItem, Cond.instanceMethod yX4_addItem, Cond.selects RX4 yX4_addItem yX4_addItem, Cond.code yX4_addItem cX4_addItem 3 (some .int), Cond.methodLink RL 45 yX6_item, Cond.instanceMethod yX6_item, Cond.selects RX6 yX6_item yX6_item, Cond.code yX6_item cX6_item 3 (some .int), Cond.fieldLink RX6 143 "TalkKeeperModel" "items" "I", Cond.methodLink RL 46 yX5_row, Cond.instanceMethod yX5_row, Cond.selects RX5 yX5_row yX5_row, Cond.code yX5_row cX5_row 5 (some .int), Cond.methodLink RX5 120 yX4_itemsLackPlace, Cond.instanceMethod yX4_itemsLackPlace, Cond.selects RX4 yX4_itemsLackPlace yX4_itemsLackPlace, Cond.code yX4_itemsLackPlace cX4_itemsLackPlace 4 (some .boolean), Cond.methodLink RX4 37 yX0_hasPlace, Cond.methodLink RX5 124 yX4_itemsNameWorked, Cond.instanceMethod yX4_itemsNameWorked, Cond.selects RX4 yX4_itemsNameWorked yX4_itemsNameWorked, Cond.code yX4_itemsNameWorked cX4_itemsNameWorked 4 (some .boolean), Cond.methodLink RX4 43 yX0_isWorked]
def wsL_law_r13 : List Cond := [Cond.methodLink RX5 127 yX4_itemsNamePlace, Cond.instanceMethod yX4_itemsNamePlace, Cond.selects RX4 yX4_itemsNamePlace yX4_itemsNamePlace, Cond.code yX4_itemsNamePlace cX4_itemsNamePlace 2 (some .boolean), Cond.methodLink RX5 131 yX4_addRow, Cond.instanceMethod yX4_addRow, Cond.selects RX4 yX4_addRow yX4_addRow, Cond.code yX4_addRow cX4_addRow 4 (some .int), Cond.methodLink RL 49 yX6_row, Cond.instanceMethod yX6_row, Cond.selects RX6 yX6_row yX6_row, Cond.code yX6_row cX6_row 7 (some .int), Cond.fieldLink RX6 146 "TalkKeeperModel" "rows" "I", Cond.methodLink RL 50 yX5_open, Cond.instanceMethod yX5_open, Cond.selects RX5 yX5_open yX5_open, Cond.code yX5_open cX5_open 3 (some .int), Cond.methodLink RX5 135 yX0_empty, Cond.instanceMethod yX0_empty, Cond.selects RX0 yX0_empty yX0_empty, Cond.code yX0_empty cX0_empty 1 none, Cond.methodLink RX5 138 yX5_turnPage, Cond.instanceMethod yX5_turnPage, Cond.selects RX5 yX5_turnPage yX5_turnPage]
def wsL_law_r14 : List Cond := [Cond.code yX5_turnPage cX5_turnPage 1 none, Cond.methodLink RX5 226 yX1_clear, Cond.instanceMethod yX1_clear, Cond.selects RX1 yX1_clear yX1_clear, Cond.code yX1_clear cX1_clear 1 none, Cond.methodLink RX5 168 yX5_forgetConfirm, Cond.instanceMethod yX5_forgetConfirm, Cond.selects RX5 yX5_forgetConfirm yX5_forgetConfirm, Cond.code yX5_forgetConfirm cX5_forgetConfirm 1 none, Cond.methodLink RL 54 yX6_open, Cond.instanceMethod yX6_open, Cond.selects RX6 yX6_open yX6_open, Cond.code yX6_open cX6_open 3 (some .int), Cond.fieldLink RX6 156 "TalkKeeperModel" "kept" "I", Cond.methodLink RL 55 yX5_close, Cond.instanceMethod yX5_close, Cond.selects RX5 yX5_close yX5_close, Cond.code yX5_close cX5_close 1 (some .int), Cond.methodLink RL 58 yX6_close, Cond.instanceMethod yX6_close, Cond.selects RX6 yX6_close yX6_close, Cond.code yX6_close cX6_close 1 (some .int), Cond.methodLink RL 59 yX5_say, Cond.instanceMethod yX5_say]
def wsL_law_r15 : List Cond := [Cond.selects RX5 yX5_say yX5_say, Cond.code yX5_say cX5_say 2 (some .int), Cond.methodLink RL 62 yX6_say, Cond.instanceMethod yX6_say, Cond.selects RX6 yX6_say yX6_say, Cond.code yX6_say cX6_say 2 (some .int), Cond.fieldLink RX6 159 "TalkKeeperModel" "said" "I", Cond.methodLink RL 63 yX5_hear, Cond.instanceMethod yX5_hear, Cond.selects RX5 yX5_hear yX5_hear, Cond.code yX5_hear cX5_hear 2 (some .int), Cond.methodLink RX5 152 Lib.Math.min.name, Cond.static Lib.Math.min.name, Cond.initialized "java/lang/Math", Cond.code Lib.Math.min.name Lib.Math.min.code 2 (some .int), Cond.methodLink RX5 141 yX5_uppermost, Cond.instanceMethod yX5_uppermost, Cond.selects RX5 yX5_uppermost yX5_uppermost, Cond.code yX5_uppermost cX5_uppermost 1 (some .int), Cond.methodLink RX5 145 yX3_read, Cond.instanceMethod yX3_read, Cond.selects RX3 yX3_read yX3_read, Cond.code yX3_read cX3_read 8 none, Cond.methodLink RX3 38 Lib.Math.min.name]
def wsL_law_r16 : List Cond := [Cond.methodLink RX3 44 yX3_startAtEnd, Cond.instanceMethod yX3_startAtEnd, Cond.selects RX3 yX3_startAtEnd yX3_startAtEnd, Cond.code yX3_startAtEnd cX3_startAtEnd 2 none, Cond.methodLink RX3 47 yX3_passWord, Cond.instanceMethod yX3_passWord, Cond.selects RX3 yX3_passWord yX3_passWord, Cond.code yX3_passWord cX3_passWord 3 none, Cond.methodLink RX3 51 yX4_rowCount, Cond.instanceMethod yX4_rowCount, Cond.selects RX4 yX4_rowCount yX4_rowCount, Cond.code yX4_rowCount cX4_rowCount 1 (some .int), Cond.methodLink RX3 57 yX4_isOfForm, Cond.instanceMethod yX4_isOfForm, Cond.selects RX4 yX4_isOfForm yX4_isOfForm, Cond.code yX4_isOfForm cX4_isOfForm 3 (some .boolean), Cond.methodLink RX4 46 yX4_isRow, Cond.instanceMethod yX4_isRow, Cond.selects RX4 yX4_isRow yX4_isRow, Cond.code yX4_isRow cX4_isRow 2 (some .boolean), Cond.methodLink RX3 61 yX3_fits, Cond.instanceMethod yX3_fits, Cond.selects RX3 yX3_fits yX3_fits, Cond.code yX3_fits cX3_fits 7 (some .boolean)]
def wsL_law_r17 : List Cond := [Cond.methodLink RX3 73 yX4_lengthOf, Cond.instanceMethod yX4_lengthOf, Cond.selects RX4 yX4_lengthOf yX4_lengthOf, Cond.code yX4_lengthOf cX4_lengthOf 2 (some .int), Cond.methodLink RX3 92 yX4_kindOfItem, Cond.instanceMethod yX4_kindOfItem, Cond.selects RX4 yX4_kindOfItem yX4_kindOfItem, Cond.code yX4_kindOfItem cX4_kindOfItem 3 (some .int), Cond.methodLink RX4 49 yX4_isItemOf, Cond.instanceMethod yX4_isItemOf, Cond.selects RX4 yX4_isItemOf yX4_isItemOf, Cond.code yX4_isItemOf cX4_isItemOf 3 (some .boolean), Cond.methodLink RX3 95 yX4_keyOfItem, Cond.instanceMethod yX4_keyOfItem, Cond.selects RX4 yX4_keyOfItem yX4_keyOfItem, Cond.code yX4_keyOfItem cX4_keyOfItem 3 (some .int), Cond.methodLink RX3 103 yX3_itemFits, Cond.static yX3_itemFits, Cond.code yX3_itemFits cX3_itemFits 4 (some .boolean), Cond.methodLink RX3 107 yX0_placeSaidBy, Cond.methodLink RX3 65 yX3_useRow, Cond.instanceMethod yX3_useRow, Cond.selects RX3 yX3_useRow yX3_useRow, Cond.code yX3_useRow cX3_useRow 10 none]
def wsL_law_r18 : List Cond := [Cond.constant RX3 84 (1000000), Cond.methodLink RX3 85 Lib.Math.max.name, Cond.static Lib.Math.max.name, Cond.code Lib.Math.max.name Lib.Math.max.code 2 (some .int), Cond.methodLink RX3 77 yX4_costOf, Cond.instanceMethod yX4_costOf, Cond.selects RX4 yX4_costOf yX4_costOf, Cond.code yX4_costOf cX4_costOf 2 (some .int), Cond.methodLink RX3 80 yX3_clearAt, Cond.instanceMethod yX3_clearAt, Cond.selects RX3 yX3_clearAt yX3_clearAt, Cond.code yX3_clearAt cX3_clearAt 4 none, Cond.methodLink RX3 88 yX3_fillingByRow, Cond.instanceMethod yX3_fillingByRow, Cond.selects RX3 yX3_fillingByRow yX3_fillingByRow, Cond.code yX3_fillingByRow cX3_fillingByRow 7 (some .int), Cond.methodLink RX3 98 yX0_valueSaidBy, Cond.instanceMethod yX0_valueSaidBy, Cond.selects RX0 yX0_valueSaidBy yX0_valueSaidBy, Cond.code yX0_valueSaidBy cX0_valueSaidBy 2 (some .int), Cond.methodLink RX3 69 yX3_commonAnswer, Cond.instanceMethod yX3_commonAnswer, Cond.selects RX3 yX3_commonAnswer yX3_commonAnswer, Cond.code yX3_commonAnswer cX3_commonAnswer 7 (some .int)]
def wsL_law_r19 : List Cond := [Cond.methodLink RX3 110 yX4_actOf, Cond.instanceMethod yX4_actOf, Cond.selects RX4 yX4_actOf yX4_actOf, Cond.code yX4_actOf cX4_actOf 2 (some .int), Cond.methodLink RX5 149 yX3_isHeard, Cond.instanceMethod yX3_isHeard, Cond.selects RX3 yX3_isHeard yX3_isHeard, Cond.code yX3_isHeard cX3_isHeard 1 (some .boolean), Cond.methodLink RX5 157 yX3_leastCost, Cond.instanceMethod yX3_leastCost, Cond.selects RX3 yX3_leastCost yX3_leastCost, Cond.code yX3_leastCost cX3_leastCost 1 (some .int), Cond.methodLink RX5 160 yX1_keep, Cond.instanceMethod yX1_keep, Cond.selects RX1 yX1_keep yX1_keep, Cond.code yX1_keep cX1_keep 3 none, Cond.methodLink RX1 37 Lib.Math.min.name, Cond.methodLink RX1 31 yX0_copyTo, Cond.instanceMethod yX0_copyTo, Cond.selects RX0 yX0_copyTo yX0_copyTo, Cond.code yX0_copyTo cX0_copyTo 4 none, Cond.methodLink RX0 103 arraycopyName, Cond.native arraycopyName, Cond.static arraycopyName]
def wsL_law_r20 : List Cond := [Cond.initialized "java/lang/System", Cond.methodLink RX0 99 yX0_holdsForm, Cond.static yX0_holdsForm, Cond.code yX0_holdsForm cX0_holdsForm 2 (some .boolean), Cond.methodLink RX5 164 yX5_takeLine, Cond.instanceMethod yX5_takeLine, Cond.selects RX5 yX5_takeLine yX5_takeLine, Cond.code yX5_takeLine cX5_takeLine 3 (some .int), Cond.methodLink RX5 229 yX3_answer, Cond.instanceMethod yX3_answer, Cond.selects RX3 yX3_answer yX3_answer, Cond.code yX3_answer cX3_answer 1 (some .int), Cond.methodLink RX5 232 yX5_fillPlaces, Cond.instanceMethod yX5_fillPlaces, Cond.selects RX5 yX5_fillPlaces yX5_fillPlaces, Cond.code yX5_fillPlaces cX5_fillPlaces 5 (some .int), Cond.methodLink RX5 242 yX0_placeCount, Cond.instanceMethod yX0_placeCount, Cond.selects RX0 yX0_placeCount yX0_placeCount, Cond.code yX0_placeCount cX0_placeCount 1 (some .int), Cond.methodLink RX5 245 yX5_fillPlace, Cond.instanceMethod yX5_fillPlace, Cond.selects RX5 yX5_fillPlace yX5_fillPlace, Cond.code yX5_fillPlace cX5_fillPlace 4 (some .int)]
def wsL_law_r21 : List Cond := [Cond.methodLink RX5 249 yX3_valuesFor, Cond.instanceMethod yX3_valuesFor, Cond.selects RX3 yX3_valuesFor yX3_valuesFor, Cond.code yX3_valuesFor cX3_valuesFor 2 (some .int), Cond.methodLink RX5 252 yX3_mayLeave, Cond.instanceMethod yX3_mayLeave, Cond.selects RX3 yX3_mayLeave yX3_mayLeave, Cond.code yX3_mayLeave cX3_mayLeave 2 (some .boolean), Cond.methodLink RX5 192 yX0_setOf, Cond.instanceMethod yX0_setOf, Cond.selects RX0 yX0_setOf yX0_setOf, Cond.code yX0_setOf cX0_setOf 3 (some .int), Cond.methodLink RX0 71 yX0_isWorked, Cond.methodLink RX0 74 yX0_sureValue, Cond.instanceMethod yX0_sureValue, Cond.selects RX0 yX0_sureValue yX0_sureValue, Cond.code yX0_sureValue cX0_sureValue 4 (some .int), Cond.methodLink RX5 235 yX0_settle, Cond.instanceMethod yX0_settle, Cond.selects RX0 yX0_settle yX0_settle, Cond.code yX0_settle cX0_settle 7 (some .int), Cond.methodLink RX0 78 yX0_setOf, Cond.methodLink RX0 88 yX0_put, Cond.instanceMethod yX0_put]
def wsL_law_r22 : List Cond := [Cond.selects RX0 yX0_put yX0_put, Cond.code yX0_put cX0_put 4 none, Cond.methodLink RX0 92 yX0_firstBrokenBar, Cond.instanceMethod yX0_firstBrokenBar, Cond.selects RX0 yX0_firstBrokenBar yX0_firstBrokenBar, Cond.code yX0_firstBrokenBar cX0_firstBrokenBar 2 (some .int), Cond.methodLink RX5 255 yX5_onlyValue, Cond.static yX5_onlyValue, Cond.code yX5_onlyValue cX5_onlyValue 2 (some .int), Cond.methodLink RX5 238 yX0_strike, Cond.instanceMethod yX0_strike, Cond.selects RX0 yX0_strike yX0_strike, Cond.code yX0_strike cX0_strike 3 none, Cond.methodLink RX0 95 yX0_hasValue, Cond.methodLink RL 66 yX6_hear, Cond.instanceMethod yX6_hear, Cond.selects RX6 yX6_hear yX6_hear, Cond.code yX6_hear cX6_hear 2 (some .int), Cond.fieldLink RX6 200 "TalkKeeperModel" "lastCost" "I", Cond.fieldLink RX6 203 "TalkKeeperModel" "lastHeard" "I", Cond.fieldLink RX6 206 "TalkKeeperModel" "lastPassed" "I", Cond.fieldLink RX6 209 "TalkKeeperModel" "lastMany" "I", Cond.fieldLink RX6 215 "TalkKeeperModel" "unheard" "I", Cond.methodLink RX6 196 yX6_work]
def wsL_law_r23 : List Cond := [Cond.instanceMethod yX6_work, Cond.selects RX6 yX6_work yX6_work, Cond.code yX6_work cX6_work 5 none, Cond.constant RX6 171 (1000000), Cond.methodLink RX6 162 yX6_fits, Cond.instanceMethod yX6_fits, Cond.selects RX6 yX6_fits yX6_fits, Cond.code yX6_fits cX6_fits 8 (some .boolean), Cond.methodLink RX6 165 yX6_mayPass, Cond.instanceMethod yX6_mayPass, Cond.selects RX6 yX6_mayPass yX6_mayPass, Cond.code yX6_mayPass cX6_mayPass 2 (some .boolean), Cond.methodLink RX6 168 yX6_isLeast, Cond.instanceMethod yX6_isLeast, Cond.selects RX6 yX6_isLeast yX6_isLeast, Cond.code yX6_isLeast cX6_isLeast 4 (some .boolean), Cond.methodLink RX6 212 yX6_keep, Cond.instanceMethod yX6_keep, Cond.selects RX6 yX6_keep yX6_keep, Cond.code yX6_keep cX6_keep 2 none, Cond.methodLink RX6 218 yX6_fills, Cond.instanceMethod yX6_fills, Cond.selects RX6 yX6_fills yX6_fills, Cond.code yX6_fills cX6_fills 8 none]
def wsL_law_r24 : List Cond := [Cond.methodLink RX6 176 yX6_outcomes, Cond.instanceMethod yX6_outcomes, Cond.selects RX6 yX6_outcomes yX6_outcomes, Cond.code yX6_outcomes cX6_outcomes 5 (some .int), Cond.methodLink RX6 172 yX6_filled, Cond.instanceMethod yX6_filled, Cond.selects RX6 yX6_filled yX6_filled, Cond.code yX6_filled cX6_filled 8 (some .int), Cond.methodLink RX6 180 yX6_isOne, Cond.static yX6_isOne, Cond.code yX6_isOne cX6_isOne 1 (some .boolean), Cond.methodLink RX6 183 yX6_reverts, Cond.instanceMethod yX6_reverts, Cond.selects RX6 yX6_reverts yX6_reverts, Cond.code yX6_reverts cX6_reverts 6 none, Cond.methodLink RX6 187 yX6_broken, Cond.instanceMethod yX6_broken, Cond.selects RX6 yX6_broken yX6_broken, Cond.code yX6_broken cX6_broken 3 (some .int), Cond.methodLink RX6 153 yX6_valueOf, Cond.instanceMethod yX6_valueOf, Cond.selects RX6 yX6_valueOf yX6_valueOf, Cond.code yX6_valueOf cX6_valueOf 4 (some .int), Cond.methodLink RX6 149 yX6_lowest]
def wsL_law_r25 : List Cond := [Cond.static yX6_lowest, Cond.code yX6_lowest cX6_lowest 2 (some .int), Cond.methodLink RX6 221 yX6_answers, Cond.instanceMethod yX6_answers, Cond.selects RX6 yX6_answers yX6_answers, Cond.code yX6_answers cX6_answers 4 none, Cond.fieldLink RX6 193 "TalkKeeperModel" "askedValue" "I", Cond.methodLink RX6 190 yX6_isAll, Cond.instanceMethod yX6_isAll, Cond.selects RX6 yX6_isAll yX6_isAll, Cond.code yX6_isAll cX6_isAll 5 (some .boolean), Cond.methodLink RL 67 yX5_back, Cond.instanceMethod yX5_back, Cond.selects RX5 yX5_back yX5_back, Cond.code yX5_back cX5_back 1 (some .int), Cond.methodLink RX5 171 yX1_size, Cond.instanceMethod yX1_size, Cond.selects RX1 yX1_size yX1_size, Cond.code yX1_size cX1_size 1 (some .int), Cond.methodLink RX5 174 yX1_restore, Cond.instanceMethod yX1_restore, Cond.selects RX1 yX1_restore yX1_restore, Cond.code yX1_restore cX1_restore 3 none, Cond.methodLink RX1 43 Lib.Math.max.name]
def wsL_law_r26 : List Cond := [Cond.methodLink RX1 46 yX0_copyFrom, Cond.instanceMethod yX0_copyFrom, Cond.selects RX0 yX0_copyFrom yX0_copyFrom, Cond.code yX0_copyFrom cX0_copyFrom 4 none, Cond.methodLink RL 70 yX6_back, Cond.instanceMethod yX6_back, Cond.selects RX6 yX6_back yX6_back, Cond.code yX6_back cX6_back 2 (some .int), Cond.methodLink RL 71 yX5_act, Cond.instanceMethod yX5_act, Cond.selects RX5 yX5_act yX5_act, Cond.code yX5_act cX5_act 3 (some .int), Cond.methodLink RX5 177 yX0_questions, Cond.instanceMethod yX0_questions, Cond.selects RX0 yX0_questions yX0_questions, Cond.code yX0_questions cX0_questions 3 (some .int), Cond.methodLink RX0 81 yX0_isWanted, Cond.instanceMethod yX0_isWanted, Cond.selects RX0 yX0_isWanted yX0_isWanted, Cond.code yX0_isWanted cX0_isWanted 4 (some .boolean), Cond.methodLink RX5 180 yX0_placeToConfirm, Cond.instanceMethod yX0_placeToConfirm, Cond.selects RX0 yX0_placeToConfirm yX0_placeToConfirm, Cond.code yX0_placeToConfirm cX0_placeToConfirm 3 (some .int)]
def wsL_law_r27 : List Cond := [Cond.methodLink RX0 84 yX0_questions, Cond.methodLink RX5 183 yX0_leastValue, Cond.instanceMethod yX0_leastValue, Cond.selects RX0 yX0_leastValue yX0_leastValue, Cond.code yX0_leastValue cX0_leastValue 4 (some .int), Cond.methodLink RX5 186 yX2_placeToAsk, Cond.instanceMethod yX2_placeToAsk, Cond.selects RX2 yX2_placeToAsk yX2_placeToAsk, Cond.code yX2_placeToAsk cX2_placeToAsk 7 (some .int), Cond.methodLink RX2 18 yX2_startFrom, Cond.instanceMethod yX2_startFrom, Cond.selects RX2 yX2_startFrom yX2_startFrom, Cond.code yX2_startFrom cX2_startFrom 4 none, Cond.methodLink RX2 36 yX0_hasPlace, Cond.methodLink RX2 40 yX0_isWorked, Cond.methodLink RX2 43 yX0_sureValue, Cond.methodLink RX2 47 yX0_sizeOf, Cond.instanceMethod yX0_sizeOf, Cond.selects RX0 yX0_sizeOf yX0_sizeOf, Cond.code yX0_sizeOf cX0_sizeOf 2 (some .int), Cond.methodLink RX2 26 yX0_questions, Cond.methodLink RX2 32 yX2_fewestBy, Cond.instanceMethod yX2_fewestBy, Cond.selects RX2 yX2_fewestBy yX2_fewestBy]
def wsL_law_r28 : List Cond := [Cond.code yX2_fewestBy cX2_fewestBy 9 (some .int), Cond.methodLink RX2 71 Lib.Math.max.name, Cond.methodLink RX2 55 Lib.Math.min.name, Cond.methodLink RX2 61 yX0_setOf, Cond.methodLink RX2 64 yX0_put, Cond.methodLink RX2 68 yX0_firstBrokenBar, Cond.methodLink RX2 22 yX2_fewest, Cond.instanceMethod yX2_fewest, Cond.selects RX2 yX2_fewest yX2_fewest, Cond.code yX2_fewest cX2_fewest 8 (some .int), Cond.methodLink RX2 50 yJ6_bitCount_0f7a4, Cond.static yJ6_bitCount_0f7a4, Cond.initialized RJ6, Cond.code yJ6_bitCount_0f7a4 cJ6_bitCount_0f7a4 1 (some .int), Cond.constant RJ6 265 (1431655765), Cond.constant RJ6 266 (858993459), Cond.constant RJ6 267 (252645135), Cond.methodLink RL 74 yX6_act, Cond.instanceMethod yX6_act, Cond.selects RX6 yX6_act yX6_act, Cond.code yX6_act cX6_act 7 (some .int), Cond.methodLink RX6 230 yX6_isWanted, Cond.instanceMethod yX6_isWanted, Cond.selects RX6 yX6_isWanted yX6_isWanted]
def wsL_law_r29 : List Cond := [Cond.code yX6_isWanted cX6_isWanted 6 (some .boolean), Cond.methodLink RX6 236 yX6_forget, Cond.instanceMethod yX6_forget, Cond.selects RX6 yX6_forget yX6_forget, Cond.code yX6_forget cX6_forget 2 none, Cond.methodLink RX6 233 yX6_worstBy, Cond.instanceMethod yX6_worstBy, Cond.selects RX6 yX6_worstBy yX6_worstBy, Cond.code yX6_worstBy cX6_worstBy 8 (some .int), Cond.methodLink RX6 224 yX6_worstOf, Cond.instanceMethod yX6_worstOf, Cond.selects RX6 yX6_worstOf yX6_worstOf, Cond.code yX6_worstOf cX6_worstOf 7 (some .int), Cond.methodLink RX6 227 yX6_state, Cond.instanceMethod yX6_state, Cond.selects RX6 yX6_state yX6_state, Cond.code yX6_state cX6_state 5 (some .int), Cond.methodLink RL 75 yX5_worst, Cond.instanceMethod yX5_worst, Cond.selects RX5 yX5_worst yX5_worst, Cond.code yX5_worst cX5_worst 2 (some .int), Cond.methodLink RX5 189 yX2_fewestQuestions, Cond.instanceMethod yX2_fewestQuestions, Cond.selects RX2 yX2_fewestQuestions yX2_fewestQuestions]
def wsL_law_r30 : List Cond := [Cond.code yX2_fewestQuestions cX2_fewestQuestions 2 (some .int), Cond.methodLink RL 78 yX6_worst, Cond.instanceMethod yX6_worst, Cond.selects RX6 yX6_worst yX6_worst, Cond.code yX6_worst cX6_worst 1 (some .int), Cond.methodLink RL 79 yX5_about, Cond.instanceMethod yX5_about, Cond.selects RX5 yX5_about yX5_about, Cond.code yX5_about cX5_about 5 (some .int), Cond.methodLink RX5 195 yX0_sureValue, Cond.methodLink RX5 198 yX5_asNumber, Cond.static yX5_asNumber, Cond.code yX5_asNumber cX5_asNumber 1 (some .int), Cond.methodLink RX5 202 yX0_isWanted, Cond.methodLink RX5 205 yX0_kindOf, Cond.instanceMethod yX0_kindOf, Cond.selects RX0 yX0_kindOf yX0_kindOf, Cond.code yX0_kindOf cX0_kindOf 2 (some .int), Cond.methodLink RX5 208 yX0_sizeOf, Cond.methodLink RL 82 yX6_about, Cond.instanceMethod yX6_about, Cond.selects RX6 yX6_about yX6_about, Cond.code yX6_about cX6_about 6 (some .int), Cond.methodLink RL 83 yX5_said]
def wsL_law_r31 : List Cond := [Cond.instanceMethod yX5_said, Cond.selects RX5 yX5_said yX5_said, Cond.code yX5_said cX5_said 5 (some .int), Cond.methodLink RX5 211 yX0_leastWord, Cond.instanceMethod yX0_leastWord, Cond.selects RX0 yX0_leastWord yX0_leastWord, Cond.code yX0_leastWord cX0_leastWord 4 (some .int), Cond.methodLink RL 86 yX6_said, Cond.instanceMethod yX6_said, Cond.selects RX6 yX6_said yX6_said, Cond.code yX6_said cX6_said 5 (some .int), Cond.methodLink RL 87 yX5_heard, Cond.instanceMethod yX5_heard, Cond.selects RX5 yX5_heard yX5_heard, Cond.code yX5_heard cX5_heard 2 (some .int), Cond.methodLink RX5 214 yX3_mostPassed, Cond.instanceMethod yX3_mostPassed, Cond.selects RX3 yX3_mostPassed yX3_mostPassed, Cond.code yX3_mostPassed cX3_mostPassed 1 (some .int), Cond.methodLink RX5 217 yX3_leastReadings, Cond.instanceMethod yX3_leastReadings, Cond.selects RX3 yX3_leastReadings yX3_leastReadings, Cond.code yX3_leastReadings cX3_leastReadings 1 (some .int), Cond.methodLink RL 90 yX6_heard]
def wsL_law_r32 : List Cond := [Cond.instanceMethod yX6_heard, Cond.selects RX6 yX6_heard yX6_heard, Cond.code yX6_heard cX6_heard 2 (some .int), Cond.methodLink RL 91 yX5_count, Cond.instanceMethod yX5_count, Cond.selects RX5 yX5_count yX5_count, Cond.code yX5_count cX5_count 2 (some .int), Cond.methodLink RX5 220 yX4_itemCount, Cond.instanceMethod yX4_itemCount, Cond.selects RX4 yX4_itemCount yX4_itemCount, Cond.code yX4_itemCount cX4_itemCount 1 (some .int), Cond.methodLink RX5 223 yX4_rowCount, Cond.methodLink RL 94 yX6_count, Cond.instanceMethod yX6_count, Cond.selects RX6 yX6_count yX6_count, Cond.code yX6_count cX6_count 2 (some .int)]
def wsL_law : List Cond := (wsL_law_r1 ++ (wsL_law_r2 ++ (wsL_law_r3 ++ (wsL_law_r4 ++ (wsL_law_r5 ++ (wsL_law_r6 ++ (wsL_law_r7 ++ (wsL_law_r8 ++ (wsL_law_r9 ++ (wsL_law_r10 ++ (wsL_law_r11 ++ (wsL_law_r12 ++ (wsL_law_r13 ++ (wsL_law_r14 ++ (wsL_law_r15 ++ (wsL_law_r16 ++ (wsL_law_r17 ++ (wsL_law_r18 ++ (wsL_law_r19 ++ (wsL_law_r20 ++ (wsL_law_r21 ++ (wsL_law_r22 ++ (wsL_law_r23 ++ (wsL_law_r24 ++ (wsL_law_r25 ++ (wsL_law_r26 ++ (wsL_law_r27 ++ (wsL_law_r28 ++ (wsL_law_r29 ++ (wsL_law_r30 ++ (wsL_law_r31 ++ wsL_law_r32))))))))))))))))))))))))))))))) ++ wsX50 ++ wsX60 ++ wsX40 ++ wsX30 ++ wsX20 ++ wsX10 ++ wsX00 ++ ([] : List Cond)
theorem inlX0 : ∀ w ∈ wsX00, w ∈ wsL_law := fun _ h => List.mem_append_left _ (List.mem_append_right _ h)
theorem inlX1 : ∀ w ∈ wsX10, w ∈ wsL_law := fun _ h => List.mem_append_left _ (List.mem_append_left _ (List.mem_append_right _ h))
theorem inlX2 : ∀ w ∈ wsX20, w ∈ wsL_law := fun _ h => List.mem_append_left _ (List.mem_append_left _ (List.mem_append_left _ (List.mem_append_right _ h)))
theorem inlX3 : ∀ w ∈ wsX30, w ∈ wsL_law := fun _ h => List.mem_append_left _ (List.mem_append_left _ (List.mem_append_left _ (List.mem_append_left _ (List.mem_append_right _ h))))
theorem inlX4 : ∀ w ∈ wsX40, w ∈ wsL_law := fun _ h => List.mem_append_left _ (List.mem_append_left _ (List.mem_append_left _ (List.mem_append_left _ (List.mem_append_left _ (List.mem_append_right _ h)))))
theorem inlX5 : ∀ w ∈ wsX50, w ∈ wsL_law := fun _ h => List.mem_append_left _ (List.mem_append_left _ (List.mem_append_left _ (List.mem_append_left _ (List.mem_append_left _ (List.mem_append_left _ (List.mem_append_left _ (List.mem_append_right _ h)))))))
theorem inlX6 : ∀ w ∈ wsX60, w ∈ wsL_law := fun _ h => List.mem_append_left _ (List.mem_append_left _ (List.mem_append_left _ (List.mem_append_left _ (List.mem_append_left _ (List.mem_append_left _ (List.mem_append_right _ h))))))
abbrev vwCl : List vw_C := [(RX0, TX0, 15), (RX1, TX1, 4), (RX2, TX2, 2), (RX3, TX3, 8), (RX4, TX4, 8), (RX5, TX5, 14), (RX6, TX6, 45)]
theorem wg_r1 : wsL_law_r1.all goodWord = true := by decide +kernel
theorem wg_r2 : wsL_law_r2.all goodWord = true := by decide +kernel
theorem wg_r3 : wsL_law_r3.all goodWord = true := by decide +kernel
theorem wg_r4 : wsL_law_r4.all goodWord = true := by decide +kernel
theorem wg_r5 : wsL_law_r5.all goodWord = true := by decide +kernel
theorem wg_r6 : wsL_law_r6.all goodWord = true := by decide +kernel
theorem wg_r7 : wsL_law_r7.all goodWord = true := by decide +kernel
theorem wg_r8 : wsL_law_r8.all goodWord = true := by decide +kernel
theorem wg_r9 : wsL_law_r9.all goodWord = true := by decide +kernel
theorem wg_r10 : wsL_law_r10.all goodWord = true := by decide +kernel
theorem wg_r11 : wsL_law_r11.all goodWord = true := by decide +kernel
theorem wg_r12 : wsL_law_r12.all goodWord = true := by decide +kernel
theorem wg_r13 : wsL_law_r13.all goodWord = true := by decide +kernel
theorem wg_r14 : wsL_law_r14.all goodWord = true := by decide +kernel
theorem wg_r15 : wsL_law_r15.all goodWord = true := by decide +kernel
theorem wg_r16 : wsL_law_r16.all goodWord = true := by decide +kernel
theorem wg_r17 : wsL_law_r17.all goodWord = true := by decide +kernel
theorem wg_r18 : wsL_law_r18.all goodWord = true := by decide +kernel
theorem wg_r19 : wsL_law_r19.all goodWord = true := by decide +kernel
theorem wg_r20 : wsL_law_r20.all goodWord = true := by decide +kernel
theorem wg_r21 : wsL_law_r21.all goodWord = true := by decide +kernel
theorem wg_r22 : wsL_law_r22.all goodWord = true := by decide +kernel
theorem wg_r23 : wsL_law_r23.all goodWord = true := by decide +kernel
theorem wg_r24 : wsL_law_r24.all goodWord = true := by decide +kernel
theorem wg_r25 : wsL_law_r25.all goodWord = true := by decide +kernel
theorem wg_r26 : wsL_law_r26.all goodWord = true := by decide +kernel
theorem wg_r27 : wsL_law_r27.all goodWord = true := by decide +kernel
theorem wg_r28 : wsL_law_r28.all goodWord = true := by decide +kernel
theorem wg_r29 : wsL_law_r29.all goodWord = true := by decide +kernel
theorem wg_r30 : wsL_law_r30.all goodWord = true := by decide +kernel
theorem wg_r31 : wsL_law_r31.all goodWord = true := by decide +kernel
theorem wg_r32 : wsL_law_r32.all goodWord = true := by decide +kernel
theorem wi_r1 : ∀ w ∈ wsL_law_r1, w ∈ wsL_law := fun w h => List.mem_append_left _ (List.mem_append_left _ (List.mem_append_left _ (List.mem_append_left _ (List.mem_append_left _ (List.mem_append_left _ (List.mem_append_left _ (List.mem_append_left _ (List.mem_append_left _ h))))))))
theorem wi_r2 : ∀ w ∈ wsL_law_r2, w ∈ wsL_law := fun w h => List.mem_append_left _ (List.mem_append_left _ (List.mem_append_left _ (List.mem_append_left _ (List.mem_append_left _ (List.mem_append_left _ (List.mem_append_left _ (List.mem_append_left _ (List.mem_append_right _ (List.mem_append_left _ h)))))))))
theorem wi_r3 : ∀ w ∈ wsL_law_r3, w ∈ wsL_law := fun w h => List.mem_append_left _ (List.mem_append_left _ (List.mem_append_left _ (List.mem_append_left _ (List.mem_append_left _ (List.mem_append_left _ (List.mem_append_left _ (List.mem_append_left _ (List.mem_append_right _ (List.mem_append_right _ (List.mem_append_left _ h))))))))))
theorem wi_r4 : ∀ w ∈ wsL_law_r4, w ∈ wsL_law := fun w h => List.mem_append_left _ (List.mem_append_left _ (List.mem_append_left _ (List.mem_append_left _ (List.mem_append_left _ (List.mem_append_left _ (List.mem_append_left _ (List.mem_append_left _ (List.mem_append_right _ (List.mem_append_right _ (List.mem_append_right _ (List.mem_append_left _ h)))))))))))
theorem wi_r5 : ∀ w ∈ wsL_law_r5, w ∈ wsL_law := fun w h => List.mem_append_left _ (List.mem_append_left _ (List.mem_append_left _ (List.mem_append_left _ (List.mem_append_left _ (List.mem_append_left _ (List.mem_append_left _ (List.mem_append_left _ (List.mem_append_right _ (List.mem_append_right _ (List.mem_append_right _ (List.mem_append_right _ (List.mem_append_left _ h))))))))))))
theorem wi_r6 : ∀ w ∈ wsL_law_r6, w ∈ wsL_law := fun w h => List.mem_append_left _ (List.mem_append_left _ (List.mem_append_left _ (List.mem_append_left _ (List.mem_append_left _ (List.mem_append_left _ (List.mem_append_left _ (List.mem_append_left _ (List.mem_append_right _ (List.mem_append_right _ (List.mem_append_right _ (List.mem_append_right _ (List.mem_append_right _ (List.mem_append_left _ h)))))))))))))
theorem wi_r7 : ∀ w ∈ wsL_law_r7, w ∈ wsL_law := fun w h => List.mem_append_left _ (List.mem_append_left _ (List.mem_append_left _ (List.mem_append_left _ (List.mem_append_left _ (List.mem_append_left _ (List.mem_append_left _ (List.mem_append_left _ (List.mem_append_right _ (List.mem_append_right _ (List.mem_append_right _ (List.mem_append_right _ (List.mem_append_right _ (List.mem_append_right _ (List.mem_append_left _ h))))))))))))))
theorem wi_r8 : ∀ w ∈ wsL_law_r8, w ∈ wsL_law := fun w h => List.mem_append_left _ (List.mem_append_left _ (List.mem_append_left _ (List.mem_append_left _ (List.mem_append_left _ (List.mem_append_left _ (List.mem_append_left _ (List.mem_append_left _ (List.mem_append_right _ (List.mem_append_right _ (List.mem_append_right _ (List.mem_append_right _ (List.mem_append_right _ (List.mem_append_right _ (List.mem_append_right _ (List.mem_append_left _ h)))))))))))))))
theorem wi_r9 : ∀ w ∈ wsL_law_r9, w ∈ wsL_law := fun w h => List.mem_append_left _ (List.mem_append_left _ (List.mem_append_left _ (List.mem_append_left _ (List.mem_append_left _ (List.mem_append_left _ (List.mem_append_left _ (List.mem_append_left _ (List.mem_append_right _ (List.mem_append_right _ (List.mem_append_right _ (List.mem_append_right _ (List.mem_append_right _ (List.mem_append_right _ (List.mem_append_right _ (List.mem_append_right _ (List.mem_append_left _ h))))))))))))))))
theorem wi_r10 : ∀ w ∈ wsL_law_r10, w ∈ wsL_law := fun w h => List.mem_append_left _ (List.mem_append_left _ (List.mem_append_left _ (List.mem_append_left _ (List.mem_append_left _ (List.mem_append_left _ (List.mem_append_left _ (List.mem_append_left _ (List.mem_append_right _ (List.mem_append_right _ (List.mem_append_right _ (List.mem_append_right _ (List.mem_append_right _ (List.mem_append_right _ (List.mem_append_right _ (List.mem_append_right _ (List.mem_append_right _ (List.mem_append_left _ h)))))))))))))))))
theorem wi_r11 : ∀ w ∈ wsL_law_r11, w ∈ wsL_law := fun w h => List.mem_append_left _ (List.mem_append_left _ (List.mem_append_left _ (List.mem_append_left _ (List.mem_append_left _ (List.mem_append_left _ (List.mem_append_left _ (List.mem_append_left _ (List.mem_append_right _ (List.mem_append_right _ (List.mem_append_right _ (List.mem_append_right _ (List.mem_append_right _ (List.mem_append_right _ (List.mem_append_right _ (List.mem_append_right _ (List.mem_append_right _ (List.mem_append_right _ (List.mem_append_left _ h))))))))))))))))))
theorem wi_r12 : ∀ w ∈ wsL_law_r12, w ∈ wsL_law := fun w h => List.mem_append_left _ (List.mem_append_left _ (List.mem_append_left _ (List.mem_append_left _ (List.mem_append_left _ (List.mem_append_left _ (List.mem_append_left _ (List.mem_append_left _ (List.mem_append_right _ (List.mem_append_right _ (List.mem_append_right _ (List.mem_append_right _ (List.mem_append_right _ (List.mem_append_right _ (List.mem_append_right _ (List.mem_append_right _ (List.mem_append_right _ (List.mem_append_right _ (List.mem_append_right _ (List.mem_append_left _ h)))))))))))))))))))
theorem wi_r13 : ∀ w ∈ wsL_law_r13, w ∈ wsL_law := fun w h => List.mem_append_left _ (List.mem_append_left _ (List.mem_append_left _ (List.mem_append_left _ (List.mem_append_left _ (List.mem_append_left _ (List.mem_append_left _ (List.mem_append_left _ (List.mem_append_right _ (List.mem_append_right _ (List.mem_append_right _ (List.mem_append_right _ (List.mem_append_right _ (List.mem_append_right _ (List.mem_append_right _ (List.mem_append_right _ (List.mem_append_right _ (List.mem_append_right _ (List.mem_append_right _ (List.mem_append_right _ (List.mem_append_left _ h))))))))))))))))))))
theorem wi_r14 : ∀ w ∈ wsL_law_r14, w ∈ wsL_law := fun w h => List.mem_append_left _ (List.mem_append_left _ (List.mem_append_left _ (List.mem_append_left _ (List.mem_append_left _ (List.mem_append_left _ (List.mem_append_left _ (List.mem_append_left _ (List.mem_append_right _ (List.mem_append_right _ (List.mem_append_right _ (List.mem_append_right _ (List.mem_append_right _ (List.mem_append_right _ (List.mem_append_right _ (List.mem_append_right _ (List.mem_append_right _ (List.mem_append_right _ (List.mem_append_right _ (List.mem_append_right _ (List.mem_append_right _ (List.mem_append_left _ h)))))))))))))))))))))
theorem wi_r15 : ∀ w ∈ wsL_law_r15, w ∈ wsL_law := fun w h => List.mem_append_left _ (List.mem_append_left _ (List.mem_append_left _ (List.mem_append_left _ (List.mem_append_left _ (List.mem_append_left _ (List.mem_append_left _ (List.mem_append_left _ (List.mem_append_right _ (List.mem_append_right _ (List.mem_append_right _ (List.mem_append_right _ (List.mem_append_right _ (List.mem_append_right _ (List.mem_append_right _ (List.mem_append_right _ (List.mem_append_right _ (List.mem_append_right _ (List.mem_append_right _ (List.mem_append_right _ (List.mem_append_right _ (List.mem_append_right _ (List.mem_append_left _ h))))))))))))))))))))))
theorem wi_r16 : ∀ w ∈ wsL_law_r16, w ∈ wsL_law := fun w h => List.mem_append_left _ (List.mem_append_left _ (List.mem_append_left _ (List.mem_append_left _ (List.mem_append_left _ (List.mem_append_left _ (List.mem_append_left _ (List.mem_append_left _ (List.mem_append_right _ (List.mem_append_right _ (List.mem_append_right _ (List.mem_append_right _ (List.mem_append_right _ (List.mem_append_right _ (List.mem_append_right _ (List.mem_append_right _ (List.mem_append_right _ (List.mem_append_right _ (List.mem_append_right _ (List.mem_append_right _ (List.mem_append_right _ (List.mem_append_right _ (List.mem_append_right _ (List.mem_append_left _ h)))))))))))))))))))))))
theorem wi_r17 : ∀ w ∈ wsL_law_r17, w ∈ wsL_law := fun w h => List.mem_append_left _ (List.mem_append_left _ (List.mem_append_left _ (List.mem_append_left _ (List.mem_append_left _ (List.mem_append_left _ (List.mem_append_left _ (List.mem_append_left _ (List.mem_append_right _ (List.mem_append_right _ (List.mem_append_right _ (List.mem_append_right _ (List.mem_append_right _ (List.mem_append_right _ (List.mem_append_right _ (List.mem_append_right _ (List.mem_append_right _ (List.mem_append_right _ (List.mem_append_right _ (List.mem_append_right _ (List.mem_append_right _ (List.mem_append_right _ (List.mem_append_right _ (List.mem_append_right _ (List.mem_append_left _ h))))))))))))))))))))))))
theorem wi_r18 : ∀ w ∈ wsL_law_r18, w ∈ wsL_law := fun w h => List.mem_append_left _ (List.mem_append_left _ (List.mem_append_left _ (List.mem_append_left _ (List.mem_append_left _ (List.mem_append_left _ (List.mem_append_left _ (List.mem_append_left _ (List.mem_append_right _ (List.mem_append_right _ (List.mem_append_right _ (List.mem_append_right _ (List.mem_append_right _ (List.mem_append_right _ (List.mem_append_right _ (List.mem_append_right _ (List.mem_append_right _ (List.mem_append_right _ (List.mem_append_right _ (List.mem_append_right _ (List.mem_append_right _ (List.mem_append_right _ (List.mem_append_right _ (List.mem_append_right _ (List.mem_append_right _ (List.mem_append_left _ h)))))))))))))))))))))))))
theorem wi_r19 : ∀ w ∈ wsL_law_r19, w ∈ wsL_law := fun w h => List.mem_append_left _ (List.mem_append_left _ (List.mem_append_left _ (List.mem_append_left _ (List.mem_append_left _ (List.mem_append_left _ (List.mem_append_left _ (List.mem_append_left _ (List.mem_append_right _ (List.mem_append_right _ (List.mem_append_right _ (List.mem_append_right _ (List.mem_append_right _ (List.mem_append_right _ (List.mem_append_right _ (List.mem_append_right _ (List.mem_append_right _ (List.mem_append_right _ (List.mem_append_right _ (List.mem_append_right _ (List.mem_append_right _ (List.mem_append_right _ (List.mem_append_right _ (List.mem_append_right _ (List.mem_append_right _ (List.mem_append_right _ (List.mem_append_left _ h))))))))))))))))))))))))))
theorem wi_r20 : ∀ w ∈ wsL_law_r20, w ∈ wsL_law := fun w h => List.mem_append_left _ (List.mem_append_left _ (List.mem_append_left _ (List.mem_append_left _ (List.mem_append_left _ (List.mem_append_left _ (List.mem_append_left _ (List.mem_append_left _ (List.mem_append_right _ (List.mem_append_right _ (List.mem_append_right _ (List.mem_append_right _ (List.mem_append_right _ (List.mem_append_right _ (List.mem_append_right _ (List.mem_append_right _ (List.mem_append_right _ (List.mem_append_right _ (List.mem_append_right _ (List.mem_append_right _ (List.mem_append_right _ (List.mem_append_right _ (List.mem_append_right _ (List.mem_append_right _ (List.mem_append_right _ (List.mem_append_right _ (List.mem_append_right _ (List.mem_append_left _ h)))))))))))))))))))))))))))
theorem wi_r21 : ∀ w ∈ wsL_law_r21, w ∈ wsL_law := fun w h => List.mem_append_left _ (List.mem_append_left _ (List.mem_append_left _ (List.mem_append_left _ (List.mem_append_left _ (List.mem_append_left _ (List.mem_append_left _ (List.mem_append_left _ (List.mem_append_right _ (List.mem_append_right _ (List.mem_append_right _ (List.mem_append_right _ (List.mem_append_right _ (List.mem_append_right _ (List.mem_append_right _ (List.mem_append_right _ (List.mem_append_right _ (List.mem_append_right _ (List.mem_append_right _ (List.mem_append_right _ (List.mem_append_right _ (List.mem_append_right _ (List.mem_append_right _ (List.mem_append_right _ (List.mem_append_right _ (List.mem_append_right _ (List.mem_append_right _ (List.mem_append_right _ (List.mem_append_left _ h))))))))))))))))))))))))))))
theorem wi_r22 : ∀ w ∈ wsL_law_r22, w ∈ wsL_law := fun w h => List.mem_append_left _ (List.mem_append_left _ (List.mem_append_left _ (List.mem_append_left _ (List.mem_append_left _ (List.mem_append_left _ (List.mem_append_left _ (List.mem_append_left _ (List.mem_append_right _ (List.mem_append_right _ (List.mem_append_right _ (List.mem_append_right _ (List.mem_append_right _ (List.mem_append_right _ (List.mem_append_right _ (List.mem_append_right _ (List.mem_append_right _ (List.mem_append_right _ (List.mem_append_right _ (List.mem_append_right _ (List.mem_append_right _ (List.mem_append_right _ (List.mem_append_right _ (List.mem_append_right _ (List.mem_append_right _ (List.mem_append_right _ (List.mem_append_right _ (List.mem_append_right _ (List.mem_append_right _ (List.mem_append_left _ h)))))))))))))))))))))))))))))
theorem wi_r23 : ∀ w ∈ wsL_law_r23, w ∈ wsL_law := fun w h => List.mem_append_left _ (List.mem_append_left _ (List.mem_append_left _ (List.mem_append_left _ (List.mem_append_left _ (List.mem_append_left _ (List.mem_append_left _ (List.mem_append_left _ (List.mem_append_right _ (List.mem_append_right _ (List.mem_append_right _ (List.mem_append_right _ (List.mem_append_right _ (List.mem_append_right _ (List.mem_append_right _ (List.mem_append_right _ (List.mem_append_right _ (List.mem_append_right _ (List.mem_append_right _ (List.mem_append_right _ (List.mem_append_right _ (List.mem_append_right _ (List.mem_append_right _ (List.mem_append_right _ (List.mem_append_right _ (List.mem_append_right _ (List.mem_append_right _ (List.mem_append_right _ (List.mem_append_right _ (List.mem_append_right _ (List.mem_append_left _ h))))))))))))))))))))))))))))))
theorem wi_r24 : ∀ w ∈ wsL_law_r24, w ∈ wsL_law := fun w h => List.mem_append_left _ (List.mem_append_left _ (List.mem_append_left _ (List.mem_append_left _ (List.mem_append_left _ (List.mem_append_left _ (List.mem_append_left _ (List.mem_append_left _ (List.mem_append_right _ (List.mem_append_right _ (List.mem_append_right _ (List.mem_append_right _ (List.mem_append_right _ (List.mem_append_right _ (List.mem_append_right _ (List.mem_append_right _ (List.mem_append_right _ (List.mem_append_right _ (List.mem_append_right _ (List.mem_append_right _ (List.mem_append_right _ (List.mem_append_right _ (List.mem_append_right _ (List.mem_append_right _ (List.mem_append_right _ (List.mem_append_right _ (List.mem_append_right _ (List.mem_append_right _ (List.mem_append_right _ (List.mem_append_right _ (List.mem_append_right _ (List.mem_append_left _ h)))))))))))))))))))))))))))))))
theorem wi_r25 : ∀ w ∈ wsL_law_r25, w ∈ wsL_law := fun w h => List.mem_append_left _ (List.mem_append_left _ (List.mem_append_left _ (List.mem_append_left _ (List.mem_append_left _ (List.mem_append_left _ (List.mem_append_left _ (List.mem_append_left _ (List.mem_append_right _ (List.mem_append_right _ (List.mem_append_right _ (List.mem_append_right _ (List.mem_append_right _ (List.mem_append_right _ (List.mem_append_right _ (List.mem_append_right _ (List.mem_append_right _ (List.mem_append_right _ (List.mem_append_right _ (List.mem_append_right _ (List.mem_append_right _ (List.mem_append_right _ (List.mem_append_right _ (List.mem_append_right _ (List.mem_append_right _ (List.mem_append_right _ (List.mem_append_right _ (List.mem_append_right _ (List.mem_append_right _ (List.mem_append_right _ (List.mem_append_right _ (List.mem_append_right _ (List.mem_append_left _ h))))))))))))))))))))))))))))))))
theorem wi_r26 : ∀ w ∈ wsL_law_r26, w ∈ wsL_law := fun w h => List.mem_append_left _ (List.mem_append_left _ (List.mem_append_left _ (List.mem_append_left _ (List.mem_append_left _ (List.mem_append_left _ (List.mem_append_left _ (List.mem_append_left _ (List.mem_append_right _ (List.mem_append_right _ (List.mem_append_right _ (List.mem_append_right _ (List.mem_append_right _ (List.mem_append_right _ (List.mem_append_right _ (List.mem_append_right _ (List.mem_append_right _ (List.mem_append_right _ (List.mem_append_right _ (List.mem_append_right _ (List.mem_append_right _ (List.mem_append_right _ (List.mem_append_right _ (List.mem_append_right _ (List.mem_append_right _ (List.mem_append_right _ (List.mem_append_right _ (List.mem_append_right _ (List.mem_append_right _ (List.mem_append_right _ (List.mem_append_right _ (List.mem_append_right _ (List.mem_append_right _ (List.mem_append_left _ h)))))))))))))))))))))))))))))))))
theorem wi_r27 : ∀ w ∈ wsL_law_r27, w ∈ wsL_law := fun w h => List.mem_append_left _ (List.mem_append_left _ (List.mem_append_left _ (List.mem_append_left _ (List.mem_append_left _ (List.mem_append_left _ (List.mem_append_left _ (List.mem_append_left _ (List.mem_append_right _ (List.mem_append_right _ (List.mem_append_right _ (List.mem_append_right _ (List.mem_append_right _ (List.mem_append_right _ (List.mem_append_right _ (List.mem_append_right _ (List.mem_append_right _ (List.mem_append_right _ (List.mem_append_right _ (List.mem_append_right _ (List.mem_append_right _ (List.mem_append_right _ (List.mem_append_right _ (List.mem_append_right _ (List.mem_append_right _ (List.mem_append_right _ (List.mem_append_right _ (List.mem_append_right _ (List.mem_append_right _ (List.mem_append_right _ (List.mem_append_right _ (List.mem_append_right _ (List.mem_append_right _ (List.mem_append_right _ (List.mem_append_left _ h))))))))))))))))))))))))))))))))))
theorem wi_r28 : ∀ w ∈ wsL_law_r28, w ∈ wsL_law := fun w h => List.mem_append_left _ (List.mem_append_left _ (List.mem_append_left _ (List.mem_append_left _ (List.mem_append_left _ (List.mem_append_left _ (List.mem_append_left _ (List.mem_append_left _ (List.mem_append_right _ (List.mem_append_right _ (List.mem_append_right _ (List.mem_append_right _ (List.mem_append_right _ (List.mem_append_right _ (List.mem_append_right _ (List.mem_append_right _ (List.mem_append_right _ (List.mem_append_right _ (List.mem_append_right _ (List.mem_append_right _ (List.mem_append_right _ (List.mem_append_right _ (List.mem_append_right _ (List.mem_append_right _ (List.mem_append_right _ (List.mem_append_right _ (List.mem_append_right _ (List.mem_append_right _ (List.mem_append_right _ (List.mem_append_right _ (List.mem_append_right _ (List.mem_append_right _ (List.mem_append_right _ (List.mem_append_right _ (List.mem_append_right _ (List.mem_append_left _ h)))))))))))))))))))))))))))))))))))
theorem wi_r29 : ∀ w ∈ wsL_law_r29, w ∈ wsL_law := fun w h => List.mem_append_left _ (List.mem_append_left _ (List.mem_append_left _ (List.mem_append_left _ (List.mem_append_left _ (List.mem_append_left _ (List.mem_append_left _ (List.mem_append_left _ (List.mem_append_right _ (List.mem_append_right _ (List.mem_append_right _ (List.mem_append_right _ (List.mem_append_right _ (List.mem_append_right _ (List.mem_append_right _ (List.mem_append_right _ (List.mem_append_right _ (List.mem_append_right _ (List.mem_append_right _ (List.mem_append_right _ (List.mem_append_right _ (List.mem_append_right _ (List.mem_append_right _ (List.mem_append_right _ (List.mem_append_right _ (List.mem_append_right _ (List.mem_append_right _ (List.mem_append_right _ (List.mem_append_right _ (List.mem_append_right _ (List.mem_append_right _ (List.mem_append_right _ (List.mem_append_right _ (List.mem_append_right _ (List.mem_append_right _ (List.mem_append_right _ (List.mem_append_left _ h))))))))))))))))))))))))))))))))))))
theorem wi_r30 : ∀ w ∈ wsL_law_r30, w ∈ wsL_law := fun w h => List.mem_append_left _ (List.mem_append_left _ (List.mem_append_left _ (List.mem_append_left _ (List.mem_append_left _ (List.mem_append_left _ (List.mem_append_left _ (List.mem_append_left _ (List.mem_append_right _ (List.mem_append_right _ (List.mem_append_right _ (List.mem_append_right _ (List.mem_append_right _ (List.mem_append_right _ (List.mem_append_right _ (List.mem_append_right _ (List.mem_append_right _ (List.mem_append_right _ (List.mem_append_right _ (List.mem_append_right _ (List.mem_append_right _ (List.mem_append_right _ (List.mem_append_right _ (List.mem_append_right _ (List.mem_append_right _ (List.mem_append_right _ (List.mem_append_right _ (List.mem_append_right _ (List.mem_append_right _ (List.mem_append_right _ (List.mem_append_right _ (List.mem_append_right _ (List.mem_append_right _ (List.mem_append_right _ (List.mem_append_right _ (List.mem_append_right _ (List.mem_append_right _ (List.mem_append_left _ h)))))))))))))))))))))))))))))))))))))
theorem wi_r31 : ∀ w ∈ wsL_law_r31, w ∈ wsL_law := fun w h => List.mem_append_left _ (List.mem_append_left _ (List.mem_append_left _ (List.mem_append_left _ (List.mem_append_left _ (List.mem_append_left _ (List.mem_append_left _ (List.mem_append_left _ (List.mem_append_right _ (List.mem_append_right _ (List.mem_append_right _ (List.mem_append_right _ (List.mem_append_right _ (List.mem_append_right _ (List.mem_append_right _ (List.mem_append_right _ (List.mem_append_right _ (List.mem_append_right _ (List.mem_append_right _ (List.mem_append_right _ (List.mem_append_right _ (List.mem_append_right _ (List.mem_append_right _ (List.mem_append_right _ (List.mem_append_right _ (List.mem_append_right _ (List.mem_append_right _ (List.mem_append_right _ (List.mem_append_right _ (List.mem_append_right _ (List.mem_append_right _ (List.mem_append_right _ (List.mem_append_right _ (List.mem_append_right _ (List.mem_append_right _ (List.mem_append_right _ (List.mem_append_right _ (List.mem_append_right _ (List.mem_append_left _ h))))))))))))))))))))))))))))))))))))))
theorem wi_r32 : ∀ w ∈ wsL_law_r32, w ∈ wsL_law := fun w h => List.mem_append_left _ (List.mem_append_left _ (List.mem_append_left _ (List.mem_append_left _ (List.mem_append_left _ (List.mem_append_left _ (List.mem_append_left _ (List.mem_append_left _ (List.mem_append_right _ (List.mem_append_right _ (List.mem_append_right _ (List.mem_append_right _ (List.mem_append_right _ (List.mem_append_right _ (List.mem_append_right _ (List.mem_append_right _ (List.mem_append_right _ (List.mem_append_right _ (List.mem_append_right _ (List.mem_append_right _ (List.mem_append_right _ (List.mem_append_right _ (List.mem_append_right _ (List.mem_append_right _ (List.mem_append_right _ (List.mem_append_right _ (List.mem_append_right _ (List.mem_append_right _ (List.mem_append_right _ (List.mem_append_right _ (List.mem_append_right _ (List.mem_append_right _ (List.mem_append_right _ (List.mem_append_right _ (List.mem_append_right _ (List.mem_append_right _ (List.mem_append_right _ (List.mem_append_right _ (List.mem_append_right _ (h)))))))))))))))))))))))))))))))))))))))
theorem wg_x0 : wsX00.all goodWord = true := by decide +kernel
theorem wg_x1 : wsX10.all goodWord = true := by decide +kernel
theorem wg_x2 : wsX20.all goodWord = true := by decide +kernel
theorem wg_x3 : wsX30.all goodWord = true := by decide +kernel
theorem wg_x4 : wsX40.all goodWord = true := by decide +kernel
theorem wg_x5 : wsX50.all goodWord = true := by decide +kernel
theorem wg_x6 : wsX60.all goodWord = true := by decide +kernel
theorem wg_law : ∀ w ∈ wsL_law, goodWord w = true := by
  intro w h
  unfold wsL_law at h
  simp only [List.mem_append] at h
  rcases h with (((((((((h)|h)|h)|h)|h)|h)|h)|h)|h)
  · rcases h with h|h|h|h|h|h|h|h|h|h|h|h|h|h|h|h|h|h|h|h|h|h|h|h|h|h|h|h|h|h|h|h
    · exact List.all_eq_true.mp wg_r1 w h
    · exact List.all_eq_true.mp wg_r2 w h
    · exact List.all_eq_true.mp wg_r3 w h
    · exact List.all_eq_true.mp wg_r4 w h
    · exact List.all_eq_true.mp wg_r5 w h
    · exact List.all_eq_true.mp wg_r6 w h
    · exact List.all_eq_true.mp wg_r7 w h
    · exact List.all_eq_true.mp wg_r8 w h
    · exact List.all_eq_true.mp wg_r9 w h
    · exact List.all_eq_true.mp wg_r10 w h
    · exact List.all_eq_true.mp wg_r11 w h
    · exact List.all_eq_true.mp wg_r12 w h
    · exact List.all_eq_true.mp wg_r13 w h
    · exact List.all_eq_true.mp wg_r14 w h
    · exact List.all_eq_true.mp wg_r15 w h
    · exact List.all_eq_true.mp wg_r16 w h
    · exact List.all_eq_true.mp wg_r17 w h
    · exact List.all_eq_true.mp wg_r18 w h
    · exact List.all_eq_true.mp wg_r19 w h
    · exact List.all_eq_true.mp wg_r20 w h
    · exact List.all_eq_true.mp wg_r21 w h
    · exact List.all_eq_true.mp wg_r22 w h
    · exact List.all_eq_true.mp wg_r23 w h
    · exact List.all_eq_true.mp wg_r24 w h
    · exact List.all_eq_true.mp wg_r25 w h
    · exact List.all_eq_true.mp wg_r26 w h
    · exact List.all_eq_true.mp wg_r27 w h
    · exact List.all_eq_true.mp wg_r28 w h
    · exact List.all_eq_true.mp wg_r29 w h
    · exact List.all_eq_true.mp wg_r30 w h
    · exact List.all_eq_true.mp wg_r31 w h
    · exact List.all_eq_true.mp wg_r32 w h
  · exact List.all_eq_true.mp wg_x5 w h
  · exact List.all_eq_true.mp wg_x6 w h
  · exact List.all_eq_true.mp wg_x4 w h
  · exact List.all_eq_true.mp wg_x3 w h
  · exact List.all_eq_true.mp wg_x2 w h
  · exact List.all_eq_true.mp wg_x1 w h
  · exact List.all_eq_true.mp wg_x0 w h
  · cases h
theorem wg_good {y : MethodName} {b : ByteArray} {n : Nat} {r : Option FieldType} (hc : Cond.code y b n r ∈ wsL_law) : GoodIn wsL_law (Cond.code y b n r :: wsL_law) := fun w h => (List.mem_cons.mp h).elim (fun e => by subst e; exact ⟨hc, good_of_word (wg_law _ hc)⟩) (fun h => ⟨h, good_of_word (wg_law w h)⟩)
